/-! the class: the loops over the solutions found -/
def dn_sx (S : Nat → Bool) (f : Nat → Int32) (a : Nat) : Int32 := if (dn_op S f a).2.1 = 0 then 60 else (dn_op S f a).1
theorem dx_k50t {post : SX → Prop} {J : Int32 → Int32 → Int32 → Int32 → Int32 → Int32 → (Nat → Int32) → (Nat → Int32) → (Nat → Int32) → (Nat → Int32) → (Nat → Int32) → (Nat → Int32) → (Nat → Int32) → Prop} {w x2 x6 C W F : Int32} {D K P Q R V Z : Nat → Int32} {kp i a : Nat} (hk : kp < 1296) (e : x6 = x2) (H : J x2 (nI (kp + 1)) (nI (i + 1)) C W F D K P Q R V (upd Z kp (nI a))) : wX_keepSmallest_50 post J w x2 (nI kp) (nI i) (nI a) x6 C W F D K P Q R V Z :=
  br_t e ⟨vp_in_nI hk (by decide), nm_r (by rw [nI_clamp (by omega)]) (nm_r (nI_1 kp) (nm_r (nI_1 i) H))⟩
theorem dx_k50f {post : SX → Prop} {J : Int32 → Int32 → Int32 → Int32 → Int32 → Int32 → (Nat → Int32) → (Nat → Int32) → (Nat → Int32) → (Nat → Int32) → (Nat → Int32) → (Nat → Int32) → (Nat → Int32) → Prop} {w x2 x3 x5 x6 C W F : Int32} {D K P Q R V Z : Nat → Int32} {i : Nat} (e : ¬ x6 = x2) (H : J x2 x3 (nI (i + 1)) C W F D K P Q R V Z) : wX_keepSmallest_50 post J w x2 x3 (nI i) x5 x6 C W F D K P Q R V Z :=
  br_f e (nm_r (nI_1 i) H)
/-- from a on the list is as it was, and its head is the first of the least -/
def dn_KZ (S : Nat → Bool) (f : Nat → Int32) (a : Nat) (Z : Nat → Int32) : Prop :=
  (∀ b, a ≤ b → b < 1296 → S b = true → Z (dn_cn S b) = nI b) ∧ (0 < (dn_op S f a).2.1 → Z 0 = nI (dn_op S f a).2.2)
theorem dn_KZf {S : Nat → Bool} {f : Nat → Int32} {a : Nat} {Z : Nat → Int32} (h : dn_KZ S f a Z) (hs : S a = false) : dn_KZ S f (a + 1) Z := by
  unfold dn_KZ
  rw [dn_opf hs]
  exact ⟨fun b h1 h2 => h.1 b (by omega) h2, h.2⟩
theorem dn_KZ1 {S : Nat → Bool} {f : Nat → Int32} {a : Nat} {Z : Nat → Int32} (h : dn_KZ S f a Z) (hs : S a = true) (e : dn_op S f (a + 1) = (f a, 1, a)) : dn_KZ S f (a + 1) (upd Z 0 (nI a)) := by
  unfold dn_KZ
  rw [e]
  refine ⟨fun b h1 h2 h3 => ?_, fun _ => pk_us⟩
  have := dn_cnl S (show a < b by omega) hs
  rw [pk_un (by omega)]
  exact h.1 b (by omega) h2 h3
theorem dn_KZ2 {S : Nat → Bool} {f : Nat → Int32} {a : Nat} {Z : Nat → Int32} (h : dn_KZ S f a Z) (hs : S a = true) (hl : (dn_op S f a).2.1 ≤ dn_cn S a) (h0 : 0 < (dn_op S f a).2.1) (e : dn_op S f (a + 1) = ((dn_op S f a).1, (dn_op S f a).2.1 + 1, (dn_op S f a).2.2)) : dn_KZ S f (a + 1) (upd Z (dn_op S f a).2.1 (nI a)) := by
  unfold dn_KZ
  rw [e]
  refine ⟨fun b h1 h2 h3 => ?_, fun _ => ?_⟩
  · have := dn_cnl S (show a < b by omega) hs
    rw [pk_un (by omega)]
    exact h.1 b (by omega) h2 h3
  · rw [pk_un (by omega)]
    exact h.2 h0
theorem dn_KZ3 {S : Nat → Bool} {f : Nat → Int32} {a : Nat} {Z : Nat → Int32} (h : dn_KZ S f a Z) (e : dn_op S f (a + 1) = dn_op S f a) : dn_KZ S f (a + 1) Z := by
  unfold dn_KZ
  rw [e]
  exact ⟨fun b h1 h2 => h.1 b (by omega) h2, h.2⟩
theorem dx_keep8 {post : SX → Prop} {C W : Int32} {D K P Q R : Nat → Int32} {S : Nat → Bool} {w : Nat} (hw : w < 2 ^ 31) (h : ∀ V Z, (0 < (dn_op S (fun b => dn_sm w (dn_d b) 4) 1296).2.1 → Z 0 = nI (dn_op S (fun b => dn_sm w (dn_d b) 4) 1296).2.2) → post (C, W, nI (dn_op S (fun b => dn_sm w (dn_d b) 4) 1296).2.1, D, K, P, Q, R, V, Z)) : ∀ k a n V Z, a + k = 1296 → k < n → dn_KZ S (fun b => dn_sm w (dn_d b) 4) a Z → wX_keepSmallest_8 post (nI w) n (dn_sx S (fun b => dn_sm w (dn_d b) 4) a) (nI (dn_op S (fun b => dn_sm w (dn_d b) 4) a).2.1) (nI (dn_cn S a)) C W (nI (dn_cn S 1296)) D K P Q R V Z := by
  have hf : ∀ b, (fun b => dn_sm w (dn_d b) 4) b < 61 := fun b => dn_sm61 w b
  have hf6 : ∀ b, (fun b => dn_sm w (dn_d b) 4) b ≤ 60 := fun b => dn_sm60 w b
  have hfe : ∀ b, (fun b => dn_sm w (dn_d b) 4) b = dn_sm w (dn_d b) 4 := fun b => rfl
  generalize (fun b => dn_sm w (dn_d b) 4) = f at h hf hf6 hfe ⊢
  intro k
  have hc12 := dn_cnb S 1296
  induction k with
  | zero =>
    intro a n V Z ha hn hZ
    obtain ⟨m, rfl⟩ : ∃ m, n = m + 1 := ⟨n - 1, by omega⟩
    obtain rfl : a = 1296 := by omega
    exact br_t (nI_le (Nat.le_refl _) (by omega)) (h V Z hZ.2)
  | succ k ih =>
    intro a n V Z ha hn hZ
    cases hS : S a
    · have t := ih (a + 1) n V Z (by omega) (by omega) (dn_KZf hZ hS)
      unfold dn_sx at t ⊢
      rw [dn_opf hS, dn_cnf hS] at t
      exact t
    · obtain ⟨m, rfl⟩ : ∃ m, n = m + 1 := ⟨n - 1, by omega⟩
      have hlt := dn_cnl S (show a < 1296 by omega) hS
      refine br_f (nI_ge hlt (by omega)) ⟨vp_in_nI (by omega) (by decide), nm_r (e' := nI a) ?_ ?_⟩
      · rw [nI_clamp (by omega)]
        exact hZ.1 a (Nat.le_refl a) (by omega) hS
      refine dx_look (by omega) (fun V' hV' => ?_)
      refine dx_sum hw hV' ?_
      rw [← hfe a]
      have hone : dn_op S f (a + 1) = (f a, 1, a) → wX_keepSmallest_8 post (nI w) m (f a) (nI (0 + 1)) (nI (dn_cn S a + 1)) C W (nI (dn_cn S 1296)) D K P Q R V' (upd Z 0 (nI a)) := by
        intro e
        have t := ih (a + 1) m V' _ (by omega) (by omega) (dn_KZ1 hZ hS e)
        unfold dn_sx at t
        rw [e, dn_cnt hS] at t
        exact t
      rcases dn_opi (S := S) hf a with ⟨z, zc⟩ | ⟨z1, z2, z3, z4⟩
      · have e : dn_op S f (a + 1) = (f a, 1, a) := dn_opl hS (by rw [z]; exact hf a)
        have ex : dn_sx S f a = 60 := by unfold dn_sx; rw [z]; rfl
        rw [ex, z]
        refine br_c (fun y => ?_) (fun y => ?_)
        · have e60 : f a = 60 := Int32.le_antisymm (hf6 a) y
          refine dx_k50t (kp := 0) (by decide) e60 ?_
          have t := hone e
          rw [e60] at t
          exact t
        · exact dx_k50t (kp := 0) (by decide) rfl (hone e)
      · have ex : dn_sx S f a = (dn_op S f a).1 := by unfold dn_sx; rw [if_neg (by omega)]
        rw [ex]
        refine br_c (fun y => ?_) (fun y => ?_)
        · have hnl : ¬ f a < (dn_op S f a).1 := Int32.not_lt.mpr y
          by_cases e : f a = (dn_op S f a).1
          · have e2 := dn_ope hS hnl e
            have t := ih (a + 1) m V' _ (by omega) (by omega) (dn_KZ2 hZ hS z2 z1 e2)
            unfold dn_sx at t
            rw [e2, dn_cnt hS] at t
            exact dx_k50t (by omega) e t
          · have e2 := dn_opg hS hnl e
            have t := ih (a + 1) m V' Z (by omega) (by omega) (dn_KZ3 hZ e2)
            unfold dn_sx at t
            rw [e2, dn_cnt hS, if_neg (by omega)] at t
            exact dx_k50f e t
        · exact dx_k50t (kp := 0) (by decide) rfl (hone (dn_opl hS (Int32.not_le.mp y)))
theorem dx_keep {post : SX → Prop} {C W : Int32} {D K P Q R V Z : Nat → Int32} {S : Nat → Bool} {w : Nat} (hw : w < 2 ^ 31) (hZ : dn_Li S 1296 Z) (h : ∀ V Z, (0 < (dn_op S (fun b => dn_sm w (dn_d b) 4) 1296).2.1 → Z 0 = nI (dn_op S (fun b => dn_sm w (dn_d b) 4) 1296).2.2) → post (C, W, nI (dn_op S (fun b => dn_sm w (dn_d b) 4) 1296).2.1, D, K, P, Q, R, V, Z)) : wpX_keepSmallest post (C, W, nI (dn_cn S 1296), D, K, P, Q, R, V, Z) (nI w) :=
  ⟨1297, dx_keep8 hw h 1296 0 1297 V Z (by omega) (by omega) ⟨fun b _ h2 h3 => hZ b h2 h3, fun z => absurd z (Nat.lt_irrefl 0)⟩⟩
/-! possible values -/
theorem dx_pos20 {post : Int32 → SX → Prop} {C W : Int32} {D K P Q R Z : Nat → Int32} {S : Nat → Bool} {v : Nat} (hv : v < 4) (hZ : dn_Li S 1296 Z) (h : ∀ V, post (dn_ps S v 1296) (C, W, nI (dn_cn S 1296), D, K, P, Q, R, V, Z)) : ∀ k a n V, a + k = 1296 → k < n → wX_possible_20 post (nI v) n (dn_ps S v a) (nI (dn_cn S a)) C W (nI (dn_cn S 1296)) D K P Q R V Z := by
  intro k
  have hc12 := dn_cnb S 1296
  induction k with
  | zero =>
    intro a n V ha hn
    obtain ⟨m, rfl⟩ : ∃ m, n = m + 1 := ⟨n - 1, by omega⟩
    obtain rfl : a = 1296 := by omega
    exact br_t (nI_le (Nat.le_refl _) (by omega)) (h V)
  | succ k ih =>
    intro a n V ha hn
    cases hS : S a
    · have t := ih (a + 1) n V (by omega) (by omega)
      rw [dn_psf hS, dn_cnf hS] at t
      exact t
    · obtain ⟨m, rfl⟩ : ∃ m, n = m + 1 := ⟨n - 1, by omega⟩
      have hlt := dn_cnl S (show a < 1296 by omega) hS
      refine br_f (nI_ge hlt (by omega)) ⟨vp_in_nI (by omega) (by decide), ?_⟩
      rw [nI_clamp (n := dn_cn S a) (by omega), hZ a (by omega) hS]
      refine dx_look (by omega) (fun V' hV' => ?_)
      have t := ih (a + 1) m V' (by omega) (by omega)
      rw [dn_pst hS, dn_cnt hS] at t
      exact ⟨vp_in_nI hv (by decide), nm_r (by rw [nI_clamp (by omega), hV' v hv]) (nm_r (nI_1 _) t)⟩
/-! how many with a value -/
theorem dn_wxt {S : Nat → Bool} {v x a : Nat} (hs : S a = true) (e : dn_d a v = x) : dn_wx S v x a = true := by
  show (S a && decide (dn_d a v = x)) = true
  rw [hs, decide_eq_true e]
  rfl
theorem dn_wxf {S : Nat → Bool} {v x a : Nat} (h : S a = false ∨ dn_d a v ≠ x) : dn_wx S v x a = false := by
  show (S a && decide (dn_d a v = x)) = false
  rcases h with h | h
  · rw [h]; rfl
  · rw [decide_eq_false h, Bool.and_false]
theorem dx_cw30 {post : Int32 → SX → Prop} {C W : Int32} {D K P Q R Z : Nat → Int32} {S : Nat → Bool} {v x : Nat} (hv : v < 4) (hx : x < 6) (hZ : dn_Li S 1296 Z) (h : ∀ V, post (nI (dn_cn (dn_wx S v x) 1296)) (C, W, nI (dn_cn S 1296), D, K, P, Q, R, V, Z)) : ∀ k a n V, a + k = 1296 → k < n → wX_countWith_30 post (nI v) (nI x) n (nI (dn_cn (dn_wx S v x) a)) (nI (dn_cn S a)) C W (nI (dn_cn S 1296)) D K P Q R V Z := by
  intro k
  have hc12 := dn_cnb S 1296
  induction k with
  | zero =>
    intro a n V ha hn
    obtain ⟨m, rfl⟩ : ∃ m, n = m + 1 := ⟨n - 1, by omega⟩
    obtain rfl : a = 1296 := by omega
    exact br_t (nI_le (Nat.le_refl _) (by omega)) (h V)
  | succ k ih =>
    intro a n V ha hn
    cases hS : S a
    · have t := ih (a + 1) n V (by omega) (by omega)
      rw [dn_cnf (dn_wxf (Or.inl hS)), dn_cnf hS] at t
      exact t
    · obtain ⟨m, rfl⟩ : ∃ m, n = m + 1 := ⟨n - 1, by omega⟩
      have hlt := dn_cnl S (show a < 1296 by omega) hS
      refine br_f (nI_ge hlt (by omega)) ⟨vp_in_nI (by omega) (by decide), ?_⟩
      rw [nI_clamp (n := dn_cn S a) (by omega), hZ a (by omega) hS]
      refine dx_look (by omega) (fun V' hV' => ⟨vp_in_nI hv (by decide), ?_⟩)
      have hdv := dn_dlt a v
      have t := ih (a + 1) m V' (by omega) (by omega)
      rw [nI_clamp (by omega), hV' v hv]
      refine pk_eq (dn_d a v) x (fun e => ?_) (fun e => ?_) rfl rfl (by omega) (by omega)
      · rw [dn_cnt (dn_wxt hS e), dn_cnt hS] at t
        exact nm_r (nI_1 _) (nm_r (nI_1 _) t)
      · rw [dn_cnf (dn_wxf (Or.inr e)), dn_cnt hS] at t
        exact nm_r (nI_1 _) t
