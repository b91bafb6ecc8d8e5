/-! the relation, and the calls that change the state -/
/-- both sides hold the same domains and the same proper constraints; all else is scratch -/
def i_Rel (k : Nat) (u : SX) (v : SY) : Prop := ∃ (c : Nat) (W F : Int32) (D K P Q R V Z V' : Nat → Int32), u = (nI c, W, F, D, K, P, Q, R, V, Z) ∧ v = (nI c, K, P, Q, R, D, V') ∧ c ≤ 10 ∧ ∀ i, i < c → dn_pr (K i) (P i) (Q i) (R i)
theorem dn_rel {k c : Nat} {W F : Int32} {D K P Q R V Z V' : Nat → Int32} (hc : c ≤ 10) (hp : ∀ i, i < c → dn_pr (K i) (P i) (Q i) (R i)) : i_Rel k (nI c, W, F, D, K, P, Q, R, V, Z) (nI c, K, P, Q, R, D, V') :=
  ⟨c, W, F, D, K, P, Q, R, V, Z, V', rfl, rfl, hc, hp⟩
theorem i_up {k : Nat} {u : SX} {v : SY} (h : i_Rel k u v) : i_Rel (k + 5) u v := h
def dn_D : Nat → Nat → Int32
  | 0 => fun _ => 0
  | v + 1 => upd (dn_D v) v 63
theorem dx_init61 {post : SX → Prop} {C W F : Int32} {K P Q R V Z : Nat → Int32} (h : post (0, 2, 0, dn_D 4, K, P, Q, R, V, Z)) : ∀ k v n, v + k = 4 → k < n → wX_init_61 post C W F n (nI v) (dn_D v) K P Q R V Z := by
  intro k
  induction k with
  | zero =>
    intro v n hv hn
    obtain ⟨m, rfl⟩ : ∃ m, n = m + 1 := ⟨n - 1, by omega⟩
    obtain rfl : v = 4 := by omega
    exact br_t (nI_le (a := 4) (b := 4) (by decide) (by decide)) h
  | succ k ih =>
    intro v n hv hn
    obtain ⟨m, rfl⟩ : ∃ m, n = m + 1 := ⟨n - 1, by omega⟩
    exact br_f (nI_ge (b := 4) (by omega) (by decide)) ⟨vp_in_nI (by omega) (by decide), nm_r (e' := dn_D (v + 1)) (by rw [nI_clamp (by omega)]; rfl) (nm_r (nI_1 v) (ih (v + 1) m (by omega) (by omega)))⟩
theorem dy_init57 {post : SY → Prop} {C : Int32} {K P Q R V : Nat → Int32} (h : post (C, K, P, Q, R, dn_D 4, V)) : ∀ k v n, v + k = 4 → k < n → wY_init_57 post C n (nI v) K P Q R (dn_D v) V := by
  intro k
  induction k with
  | zero =>
    intro v n hv hn
    obtain ⟨m, rfl⟩ : ∃ m, n = m + 1 := ⟨n - 1, by omega⟩
    obtain rfl : v = 4 := by omega
    exact br_t (nI_le (a := 4) (b := 4) (by decide) (by decide)) h
  | succ k ih =>
    intro v n hv hn
    obtain ⟨m, rfl⟩ : ∃ m, n = m + 1 := ⟨n - 1, by omega⟩
    exact br_f (nI_ge (b := 4) (by omega) (by decide)) ⟨vp_in_nI (by omega) (by decide), nm_r (e' := dn_D (v + 1)) (by rw [nI_clamp (by omega)]; rfl) (nm_r (nI_1 v) (ih (v + 1) m (by omega) (by omega)))⟩
theorem i_vc0 : wpX_init (fun u => wpY_init (fun v => i_Rel 0 u v)) :=
  ⟨5, dx_init61 ⟨5, dy_init57 (dn_rel (c := 0) (by decide) (fun i hi => absurd hi (by omega))) 4 0 5 (by omega) (by omega)⟩ 4 0 5 (by omega) (by omega)⟩
theorem dy_inT {post : Int32 → Prop} {C : Int32} {K P Q R D V : Nat → Int32} {x a b : Int32} (h : dn_rg x a b) (h1 : post 1) : wpY_in post (C, K, P, Q, R, D, V) x a b := dy_in (fun _ => h1) (fun z => absurd h z)
theorem dy_inF {post : Int32 → Prop} {C : Int32} {K P Q R D V : Nat → Int32} {x a b : Int32} (h : ¬ dn_rg x a b) (h0 : post 0) : wpY_in post (C, K, P, Q, R, D, V) x a b := dy_in (fun z => absurd z h) (fun _ => h0)
theorem i_vc_domain {k : Nat} {u : SX} {v : SY} (I : i_Rel k u v) (hk : k + 5 ≤ 2560) (v1 : Int32) (v2 : Int32) : wpX_domain (fun r u' => wpY_domain (fun r' v' => r' = r ∧ i_Rel (k + 5) u' v') v v1 v2) u v1 v2 := by
  obtain ⟨c, W, F, D, K, P, Q, R, V, Z, V', rfl, rfl, hc, hp⟩ := I
  unfold wpX_domain wpY_domain
  refine dx_var (fun a => br_f (by decide) (dx_in (fun b => br_f (by decide) ?_) (fun b => br_t rfl ?_))) (fun a => br_t rfl ?_)
  · obtain ⟨j, hj, rfl⟩ := dn_rn a (n := 3) (by decide)
    exact ⟨vp_in_nI (by omega) (by decide), nm_e (dy_inT a (br_f (by decide) (dy_inT b (br_f (by decide) ⟨vp_in_nI (by omega) (by decide), nm_e ⟨rfl, dn_rel hc hp⟩⟩))))⟩
  · exact dy_inT a (br_f (by decide) (dy_inF b (br_t rfl ⟨rfl, dn_rel hc hp⟩)))
  · exact dy_inF a (br_t rfl ⟨rfl, dn_rel hc hp⟩)
theorem i_vc_way {k : Nat} {u : SX} {v : SY} (I : i_Rel k u v) (hk : k + 5 ≤ 2560) (v1 : Int32) : wpX_way (fun r u' => wpY_way (fun r' => r' = r ∧ i_Rel (k + 5) u' v) v v1) u v1 := by
  obtain ⟨c, W, F, D, K, P, Q, R, V, Z, V', rfl, rfl, hc, hp⟩ := I
  unfold wpX_way wpY_way
  refine dx_in (fun a => br_f (by decide) ?_) (fun a => br_t rfl ?_)
  · exact dy_inT a ⟨rfl, rfl, dn_rel hc hp⟩
  · exact dy_inF a ⟨rfl, rfl, dn_rel hc hp⟩
theorem i_vc_constraint {k : Nat} {u : SX} {v : SY} (I : i_Rel k u v) (hk : k + 5 ≤ 2560) (v1 : Int32) (v2 : Int32) (v3 : Int32) (v4 : Int32) : wpX_constraint (fun r u' => wpY_constraint (fun r' v' => r' = r ∧ i_Rel (k + 5) u' v') v v1 v2 v3 v4) u v1 v2 v3 v4 := by
  obtain ⟨c, W, F, D, K, P, Q, R, V, Z, V', rfl, rfl, hc, hp⟩ := I
  unfold wpX_constraint wpY_constraint
  have hcl : (nI c).toNatClampNeg = c := nI_clamp (by omega)
  refine pk_lt c 10 (fun h10 => dx_proper (fun z => br_f (by decide) ?_) (fun z => br_t rfl ?_)) (fun h10 => ?_) rfl rfl (by omega) (by omega)
  · have hin : vp_in (nI c) 10 := vp_in_nI h10 (by decide)
    refine ⟨hin, nm_r (congrArg (fun t => upd K t v1) hcl) ⟨hin, nm_r (congrArg (fun t => upd P t v2) hcl) ⟨hin, nm_r (congrArg (fun t => upd Q t v3) hcl) ⟨hin, nm_r (congrArg (fun t => upd R t v4) hcl) (nm_r (nI_1 c) ?_)⟩⟩⟩⟩
    refine pk_eq c 10 (fun e => absurd e (by omega)) (fun _ => ?_) rfl rfl (by omega) (by omega)
    refine dy_inT (dn_prk z) (br_f (by decide) (dy_fits (dn_prk z) (fun _ => br_f (by decide) ?_) (fun y => absurd z y)))
    refine ⟨hin, nm_r (congrArg (fun t => upd K t v1) hcl) ⟨hin, nm_r (congrArg (fun t => upd P t v2) hcl) ⟨hin, nm_r (congrArg (fun t => upd Q t v3) hcl) ⟨hin, nm_r (congrArg (fun t => upd R t v4) hcl) (nm_r (nI_1 c) ⟨rfl, dn_rel (by omega) (fun i hi => ?_)⟩)⟩⟩⟩⟩
    rcases Nat.lt_or_ge i c with y | y
    · show dn_pr (upd K c v1 i) (upd P c v2 i) (upd Q c v3 i) (upd R c v4 i)
      rw [pk_un (by omega), pk_un (by omega), pk_un (by omega), pk_un (by omega)]
      exact hp i y
    · obtain rfl : i = c := by omega
      show dn_pr (upd K i v1 i) (upd P i v2 i) (upd Q i v3 i) (upd R i v4 i)
      rw [pk_us, pk_us, pk_us, pk_us]
      exact z
  · refine pk_eq c 10 (fun e => absurd e (by omega)) (fun _ => ?_) rfl rfl (by omega) (by omega)
    exact dy_in (fun a => br_f (by decide) (dy_fits a (fun y => absurd y z) (fun _ => br_t rfl ⟨rfl, dn_rel hc hp⟩))) (fun a => br_t rfl ⟨rfl, dn_rel hc hp⟩)
  · exact pk_eq c 10 (fun e => ⟨rfl, dn_rel hc hp⟩) (fun e => absurd e (by omega)) rfl rfl (by omega) (by omega)
/-! drop -/
theorem dn_rc {x : Int32} {c : Nat} (hc : c ≤ 10) (h : dn_rg x 0 (nI c - 1)) : ∃ j, j < c ∧ x = nI j := by
  cases c with
  | zero => exact absurd (Int32.le_trans h.1 h.2) (by decide)
  | succ c =>
    rw [nI_pred] at h
    obtain ⟨j, hj, e⟩ := nI_of2 (nI_toInt (by omega)) (Int32.not_lt.mpr h.1) h.2
    exact ⟨j, by omega, e⟩
/-- k shifts from i on -/
def dn_dr : Nat → Nat → (Nat → Int32) → (Nat → Int32)
  | 0, _, A => A
  | k + 1, i, A => dn_dr k (i + 1) (upd A i (A (i + 1)))
theorem dn_dr1 (A : Nat → Int32) : ∀ k i j, j < i → dn_dr k i A j = A j := by
  intro k
  induction k generalizing A with
  | zero => intro i j _; rfl
  | succ k ih =>
    intro i j hj
    show dn_dr k (i + 1) (upd A i (A (i + 1))) j = _
    rw [ih _ (i + 1) j (by omega), pk_un (by omega)]
theorem dn_dr2 (A : Nat → Int32) : ∀ k i j, i ≤ j → j < i + k → dn_dr k i A j = A (j + 1) := by
  intro k
  induction k generalizing A with
  | zero => intro i j h1 h2; omega
  | succ k ih =>
    intro i j h1 h2
    show dn_dr k (i + 1) (upd A i (A (i + 1))) j = _
    rcases Nat.lt_or_ge i j with z | z
    · rw [ih _ (i + 1) j (by omega) (by omega), pk_un (by omega)]
    · obtain rfl : i = j := by omega
      rw [dn_dr1 _ k (i + 1) i (by omega), pk_us]
theorem dx_drop24 {post : Int32 → SX → Prop} {W F : Int32} {D V Z : Nat → Int32} {m : Nat} (hm : m < 10) : ∀ k i n (K P Q R : Nat → Int32), i + k = m → k < n → post (nI m) (nI m, W, F, D, dn_dr k i K, dn_dr k i P, dn_dr k i Q, dn_dr k i R, V, Z) → wX_drop_24 post (nI m) W F n (nI i) D K P Q R V Z := by
  intro k
  induction k with
  | zero =>
    intro i n K P Q R hi hn h
    obtain ⟨t, rfl⟩ : ∃ t, n = t + 1 := ⟨n - 1, by omega⟩
    obtain rfl : i = m := by omega
    exact br_t (nI_le (Nat.le_refl _) (by omega)) h
  | succ k ih =>
    intro i n K P Q R hi hn h
    obtain ⟨t, rfl⟩ : ∃ t, n = t + 1 := ⟨n - 1, by omega⟩
    have e1 : (nI i).toNatClampNeg = i := nI_clamp (by omega)
    have e2 : (nI i + 1).toNatClampNeg = i + 1 := by rw [nI_1]; exact nI_clamp (by omega)
    have i1 : vp_in (nI i) 10 := vp_in_nI (by omega) (by decide)
    have i2 : vp_in (nI i + 1) 10 := by rw [nI_1]; exact vp_in_nI (by omega) (by decide)
    have ee : ∀ A : Nat → Int32, upd A (nI i).toNatClampNeg (A (nI i + 1).toNatClampNeg) = upd A i (A (i + 1)) := fun A => by rw [e1, e2]
    exact br_f (nI_ge (by omega) (by omega)) ⟨i2, i1, nm_r (ee K) ⟨i2, i1, nm_r (ee P) ⟨i2, i1, nm_r (ee Q) ⟨i2, i1, nm_r (ee R) (nm_r (nI_1 i) (ih (i + 1) t _ _ _ _ (by omega) (by omega) h))⟩⟩⟩⟩
theorem dy_drop21 {post : Int32 → SY → Prop} {D V : Nat → Int32} {m : Nat} (hm : m < 10) : ∀ k i n (K P Q R : Nat → Int32), i + k = m → k < n → post (nI m) (nI m, dn_dr k i K, dn_dr k i P, dn_dr k i Q, dn_dr k i R, D, V) → wY_drop_21 post (nI (m + 1)) n (nI i) K P Q R D V := by
  intro k
  induction k with
  | zero =>
    intro i n K P Q R hi hn h
    obtain ⟨t, rfl⟩ : ∃ t, n = t + 1 := ⟨n - 1, by omega⟩
    obtain rfl : i = m := by omega
    exact br_t (by rw [nI_pred]; exact nI_le (Nat.le_refl _) (by omega)) (nm_r (nI_pred i) h)
  | succ k ih =>
    intro i n K P Q R hi hn h
    obtain ⟨t, rfl⟩ : ∃ t, n = t + 1 := ⟨n - 1, by omega⟩
    have e1 : (nI i).toNatClampNeg = i := nI_clamp (by omega)
    have e2 : (nI i + 1).toNatClampNeg = i + 1 := by rw [nI_1]; exact nI_clamp (by omega)
    have i1 : vp_in (nI i) 10 := vp_in_nI (by omega) (by decide)
    have i2 : vp_in (nI i + 1) 10 := by rw [nI_1]; exact vp_in_nI (by omega) (by decide)
    have ee : ∀ A : Nat → Int32, upd A (nI i).toNatClampNeg (A (nI i + 1).toNatClampNeg) = upd A i (A (i + 1)) := fun A => by rw [e1, e2]
    exact br_f (by rw [nI_pred]; exact nI_ge (by omega) (by omega)) ⟨i2, i1, nm_r (ee K) ⟨i2, i1, nm_r (ee P) ⟨i2, i1, nm_r (ee Q) ⟨i2, i1, nm_r (ee R) (nm_r (nI_1 i) (ih (i + 1) t _ _ _ _ (by omega) (by omega) h))⟩⟩⟩⟩
theorem i_vc_drop {k : Nat} {u : SX} {v : SY} (I : i_Rel k u v) (hk : k + 5 ≤ 2560) (v1 : Int32) : wpX_drop (fun r u' => wpY_drop (fun r' v' => r' = r ∧ i_Rel (k + 5) u' v') v v1) u v1 := by
  obtain ⟨c, W, F, D, K, P, Q, R, V, Z, V', rfl, rfl, hc, hp⟩ := I
  unfold wpX_drop wpY_drop
  refine dx_con (fun a => br_f (by decide) ?_) (fun a => br_t rfl ?_)
  · obtain ⟨j, hj, rfl⟩ := dn_rc hc a
    obtain ⟨m, rfl⟩ : ∃ m, c = m + 1 := ⟨c - 1, by omega⟩
    refine nm_r (nI_pred m) ⟨m + 1, dx_drop24 (by omega) (m - j) j (m + 1) K P Q R (by omega) (by omega) ?_⟩
    refine dy_inT a (br_f (by decide) ⟨m + 1, dy_drop21 (by omega) (m - j) j (m + 1) K P Q R (by omega) (by omega) ⟨rfl, dn_rel (by omega) (fun i hi => ?_)⟩⟩)
    rcases Nat.lt_or_ge i j with y | y
    · rw [dn_dr1 K _ _ _ y, dn_dr1 P _ _ _ y, dn_dr1 Q _ _ _ y, dn_dr1 R _ _ _ y]
      exact hp i (by omega)
    · rw [dn_dr2 K _ _ _ y (by omega), dn_dr2 P _ _ _ y (by omega), dn_dr2 Q _ _ _ y (by omega), dn_dr2 R _ _ _ y (by omega)]
      exact hp (i + 1) (by omega)
  · exact dy_inF a (br_t rfl ⟨rfl, dn_rel hc hp⟩)
