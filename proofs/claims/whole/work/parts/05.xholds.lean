/-! the class: different, digits, occurrences, holds -/
def dn_seen (p : Int32) (d : Nat → Nat) (v : Nat) (s : Int32) : Prop := ∀ x, x < 6 → (bt s x = true ↔ ∃ w, w < v ∧ bt p w = true ∧ d w = x)
theorem dn_seen0 (p : Int32) (d : Nat → Nat) : dn_seen p d 0 0 := by
  intro x hx
  rw [b_0]
  exact ⟨fun h => (Bool.noConfusion h), fun ⟨w, hw, _⟩ => absurd hw (by omega)⟩
theorem dn_seenF {p : Int32} {d : Nat → Nat} {v : Nat} {s : Int32} (h : dn_seen p d v s) (hb : bt p v = false) : dn_seen p d (v + 1) s := by
  intro x hx
  rw [h x hx]
  constructor
  · exact fun ⟨w, h1, h2⟩ => ⟨w, by omega, h2⟩
  · intro ⟨w, h1, h2, h3⟩
    refine ⟨w, ?_, h2, h3⟩
    rcases Nat.lt_or_ge w v with z | z
    · exact z
    · rw [show w = v by omega, hb] at h2; cases h2
theorem dn_seenT {p : Int32} {d : Nat → Nat} {v : Nat} {s : Int32} (h : dn_seen p d v s) (hd : d v < 6) (hb : bt p v = true) : dn_seen p d (v + 1) (s ||| ((1 : Int32) <<< (nI (d v) &&& 31))) := by
  intro x hx
  rw [b_or, dn_one (d v) x (by omega) (by omega), Bool.or_eq_true, h x hx, decide_eq_true_iff]
  constructor
  · rintro (⟨w, h1, h2⟩ | rfl)
    · exact ⟨w, by omega, h2⟩
    · exact ⟨v, by omega, hb, rfl⟩
  · intro ⟨w, h1, h2, h3⟩
    rcases Nat.lt_or_ge w v with z | z
    · exact Or.inl ⟨w, z, h2, h3⟩
    · rw [show w = v by omega] at h3; exact Or.inr h3.symm
theorem dn_dfF {p : Int32} {d : Nat → Nat} {v : Nat} (h : dn_df p d v) (hb : bt p v = false) : dn_df p d (v + 1) := by
  intro x hx w hw b1 b2
  rcases Nat.lt_or_ge x v with z | z
  · exact h x z w hw b1 b2
  · rw [show x = v by omega, hb] at b1; cases b1
theorem dn_dfT {p : Int32} {d : Nat → Nat} {v : Nat} (h : dn_df p d v) (hn : ∀ w, w < v → bt p w = true → d v ≠ d w) : dn_df p d (v + 1) := by
  intro x hx w hw b1 b2
  rcases Nat.lt_or_ge x v with z | z
  · exact h x z w hw b1 b2
  · obtain rfl : x = v := by omega
    exact hn w hw b2
theorem dx_dif4 {post : Int32 → Prop} {C W F : Int32} {D K P Q R V Z : Nat → Int32} {p : Int32} {d : Nat → Nat} (hd : ∀ v, d v < 6) (hV : ∀ j, j < 4 → V j = nI (d j)) (h1 : dn_df p d 4 → post 1) (h0 : ¬ dn_df p d 4 → post 0) : ∀ k v n s, v + k = 4 → k < n → dn_seen p d v s → dn_df p d v → wX_areDifferent_4 post p C W F D K P Q R V Z n s (nI v) := by
  intro k
  induction k with
  | zero =>
    intro v n s hv hn hs hf
    obtain ⟨m, rfl⟩ : ∃ m, n = m + 1 := ⟨n - 1, by omega⟩
    obtain rfl : v = 4 := by omega
    exact br_t (nI_le (a := 4) (b := 4) (by decide) (by decide)) (h1 hf)
  | succ k ih =>
    intro v n s hv hn hs hf
    obtain ⟨m, rfl⟩ : ∃ m, n = m + 1 := ⟨n - 1, by omega⟩
    refine br_f (nI_ge (b := 4) (by omega) (by decide)) ?_
    cases hb : bt p v
    · exact br_t ((dn_tst0 p v (by omega)).mpr hb) (nm_r (nI_1 v) (ih (v + 1) m s (by omega) (by omega) (dn_seenF hs hb) (dn_dfF hf hb)))
    · refine br_f (fun z => by rw [dn_tst0 p v (by omega), hb] at z; cases z) ⟨vp_in_nI (by omega) (by decide), ?_⟩
      rw [nI_clamp (by omega), hV v (by omega)]
      have hdv := hd v
      cases hc : bt s (d v)
      · refine br_t ((dn_tst0 s (d v) (by omega)).mpr hc) ⟨vp_in_nI (by omega) (by decide), nm_e (nm_r (nI_1 v) (ih (v + 1) m _ (by omega) (by omega) (dn_seenT hs hdv hb) (dn_dfT hf ?_)))⟩
        intro w hw bw e
        have := (hs (d v) hdv).mpr ⟨w, hw, bw, e.symm⟩
        rw [hc] at this
        cases this
      · refine br_f (fun z => by rw [dn_tst0 s (d v) (by omega), hc] at z; cases z) (h0 (fun z => ?_))
        obtain ⟨w, hw, bw, e⟩ := (hs (d v) hdv).mp hc
        exact z v (by omega) w hw hb bw e.symm
theorem dx_dif {post : Int32 → Prop} {C W F : Int32} {D K P Q R V Z : Nat → Int32} {p : Int32} {d : Nat → Nat} (hd : ∀ v, d v < 6) (hV : ∀ j, j < 4 → V j = nI (d j)) (h1 : dn_df p d 4 → post 1) (h0 : ¬ dn_df p d 4 → post 0) : wpX_areDifferent post (C, W, F, D, K, P, Q, R, V, Z) p :=
  ⟨5, dx_dif4 hd hV h1 h0 4 0 5 0 (by omega) (by omega) (dn_seen0 p d) (fun v hv => absurd hv (by omega))⟩
theorem dx_dig4 {post : Int32 → Prop} {r y : Nat} (hr : r < 2 ^ 31) (hy : y < 2 ^ 31) (h : post (nI (r / 6 ^ y % 6))) : ∀ k v n, v + k = y → k < n → wX_digitOf_4 post (nI y) n (nI (r / 6 ^ v)) (nI v) := by
  intro k
  induction k with
  | zero =>
    intro v n hv hn
    obtain ⟨m, rfl⟩ : ∃ m, n = m + 1 := ⟨n - 1, by omega⟩
    obtain rfl : v = y := by omega
    have hq : r / 6 ^ v < 2 ^ 31 := Nat.lt_of_le_of_lt (Nat.div_le_self _ _) hr
    refine br_t (nI_le (by omega) hy) ⟨by decide, ?_⟩
    rw [show nI (r / 6 ^ v) - nI (r / 6 ^ v) / 6 * 6 = nI (r / 6 ^ v % 6) from pk_rem (d := 6) hq (by decide) (by decide)]
    exact h
  | succ k ih =>
    intro v n hv hn
    obtain ⟨m, rfl⟩ : ∃ m, n = m + 1 := ⟨n - 1, by omega⟩
    have hq : r / 6 ^ v < 2 ^ 31 := Nat.lt_of_le_of_lt (Nat.div_le_self _ _) hr
    refine br_f (nI_ge (by omega) hy) ⟨by decide, nm_r (e' := nI (r / 6 ^ (v + 1))) ?_ (nm_r (nI_1 v) (ih (v + 1) m (by omega) (by omega)))⟩
    refine (pk_div (d := 6) hq (by decide) (by decide)).trans (congrArg nI ?_)
    rw [Nat.div_div_eq_div_mul, ← Nat.pow_succ]
theorem dx_dig {post : Int32 → Prop} {r y : Nat} (hr : r < 2 ^ 31) (hy : y < 2 ^ 31) (h : post (nI (r / 6 ^ y % 6))) : wpX_digitOf post (nI r) (nI y) := by
  have t := dx_dig4 hr hy h y 0 (y + 1) (by omega) (by omega)
  rw [Nat.pow_zero, Nat.div_one] at t
  exact ⟨y + 1, t⟩
theorem dn_oct {p : Int32} {x v : Nat} {d : Nat → Nat} (hb : bt p v = true) (e : d v = x) : dn_oc p x d (v + 1) = dn_oc p x d v + 1 := if_pos ⟨hb, e⟩
theorem dn_ocf {p : Int32} {x v : Nat} {d : Nat → Nat} (h : bt p v = false ∨ d v ≠ x) : dn_oc p x d (v + 1) = dn_oc p x d v := by
  refine if_neg (fun z => ?_)
  rcases h with h | h
  · rw [h] at z; cases z.1
  · exact h z.2
theorem dx_occ5 {post : Int32 → Prop} {C W F : Int32} {D K P Q R V Z : Nat → Int32} {p : Int32} {x : Nat} {d : Nat → Nat} (hd : ∀ v, d v < 6) (hx : x < 2 ^ 31) (hV : ∀ j, j < 4 → V j = nI (d j)) (h : post (nI (dn_oc p x d 4))) : ∀ k v n, v + k = 4 → k < n → wX_occurrences_5 post p (nI x) C W F D K P Q R V Z n (nI (dn_oc p x d v)) (nI v) := by
  intro k
  induction k with
  | zero =>
    intro v n hv hn
    obtain ⟨m, rfl⟩ : ∃ m, n = m + 1 := ⟨n - 1, by omega⟩
    obtain rfl : v = 4 := by omega
    exact br_t (nI_le (a := 4) (b := 4) (by decide) (by decide)) h
  | succ k ih =>
    intro v n hv hn
    obtain ⟨m, rfl⟩ : ∃ m, n = m + 1 := ⟨n - 1, by omega⟩
    have t := ih (v + 1) m (by omega) (by omega)
    refine br_f (nI_ge (b := 4) (by omega) (by decide)) ?_
    cases hb : bt p v
    · rw [dn_ocf (Or.inl hb)] at t
      exact br_t ((dn_tst0 p v (by omega)).mpr hb) (nm_r (nI_1 v) t)
    · refine br_f (fun z => by rw [dn_tst0 p v (by omega), hb] at z; cases z) ⟨vp_in_nI (by omega) (by decide), ?_⟩
      rw [nI_clamp (by omega), hV v (by omega)]
      have hdv := hd v
      refine pk_eq (d v) x (fun e => ?_) (fun e => ?_) rfl rfl (by omega) hx
      · rw [dn_oct hb e] at t
        exact nm_r (nI_1 _) (nm_r (nI_1 v) t)
      · rw [dn_ocf (Or.inr e)] at t
        exact nm_r (nI_1 v) t
theorem dx_occ {post : Int32 → Prop} {C W F : Int32} {D K P Q R V Z : Nat → Int32} {p : Int32} {x : Nat} {d : Nat → Nat} (hd : ∀ v, d v < 6) (hx : x < 2 ^ 31) (hV : ∀ j, j < 4 → V j = nI (d j)) (h : post (nI (dn_oc p x d 4))) : wpX_occurrences post (C, W, F, D, K, P, Q, R, V, Z) p (nI x) :=
  ⟨5, dx_occ5 hd hx hV h 4 0 5 (by omega) (by omega)⟩
/-! what a constraint says, kind by kind -/
theorem dn_hs0 (p q r : Int32) (d : Nat → Nat) : dn_hs 0 p q r d = (dn_sm p.toNatClampNeg d 4 ≤ q) := by simp [dn_hs]
theorem dn_hs1 (p q r : Int32) (d : Nat → Nat) : dn_hs 1 p q r d = (dn_sm p.toNatClampNeg d 4 = q) := by simp [dn_hs]
theorem dn_hs2 (p q r : Int32) (d : Nat → Nat) : dn_hs 2 p q r d = dn_df p d 4 := by simp [dn_hs]
theorem dn_hs3 (p q r : Int32) (d : Nat → Nat) : dn_hs 3 p q r d = (d p.toNatClampNeg = r.toNatClampNeg / 6 ^ d q.toNatClampNeg % 6) := by simp [dn_hs]
theorem dn_hs4 (p q r : Int32) (d : Nat → Nat) : dn_hs 4 p q r d = (d p.toNatClampNeg * d q.toNatClampNeg = d r.toNatClampNeg) := by simp [dn_hs]
theorem dn_hs5 (p q r : Int32) (d : Nat → Nat) : dn_hs 5 p q r d = (d (p.toNatClampNeg / 6) = p.toNatClampNeg % 6 ↔ q.toNatClampNeg % 6 ≤ d (q.toNatClampNeg / 6)) := by simp [dn_hs]
theorem dn_hs6 (p q r : Int32) (d : Nat → Nat) : dn_hs 6 p q r d = (d q.toNatClampNeg + r.toNatClampNeg ≤ d p.toNatClampNeg ∨ d p.toNatClampNeg + r.toNatClampNeg ≤ d q.toNatClampNeg) := by simp [dn_hs]
theorem dn_hs7 (p q r : Int32) (d : Nat → Nat) : dn_hs 7 p q r d = (nI (dn_oc p r.toNatClampNeg d 4) = q) := by simp [dn_hs]
theorem dn_hs8 (p q r : Int32) (d : Nat → Nat) : dn_hs 8 p q r d = (d p.toNatClampNeg < d q.toNatClampNeg ∨ (d p.toNatClampNeg = d q.toNatClampNeg ∧ d (r.toNatClampNeg % 4) ≤ d (r.toNatClampNeg / 4))) := by simp [dn_hs]
/-- differences of small numbers -/
theorem dn_dge {a b r : Nat} (ha : a < 6) (hb : b < 6) (hr : r < 6) : nI r ≤ nI a - nI b ↔ b + r ≤ a := by
  rw [Int32.le_iff_toInt_le, nI_toInt (by omega), pk_sub_toInt (by omega) (by omega)]
  omega
theorem dn_dlt' {a b r : Nat} (ha : a < 6) (hb : b < 6) (hr : r < 6) : nI a - nI b < nI r ↔ ¬ b + r ≤ a := by
  rw [← Int32.not_le, dn_dge ha hb hr]
theorem dx_h192 {post : Int32 → Prop} {C W F : Int32} {D K P Q R V Z : Nat → Int32} {d : Nat → Nat} {q : Nat} {z : Int32} (hq : q ≤ 23) (hd : ∀ v, d v < 6) (hV : ∀ j, j < 4 → V j = nI (d j)) (hlt : d (q / 6) < q % 6 → (z = 0 → post 1) ∧ (¬ z = 0 → post 0)) (hge : q % 6 ≤ d (q / 6) → (z = 1 → post 1) ∧ (¬ z = 1 → post 0)) : wX_holds_192 post (nI q) z C W F D K P Q R V Z := by
  have e1 : nI q / 6 = nI (q / 6) := pk_div (d := 6) (by omega) (by decide) (by decide)
  have e2 : nI q - nI q / 6 * 6 = nI (q % 6) := pk_rem (d := 6) (by omega) (by decide) (by decide)
  unfold wX_holds_192
  rw [e2, e1, nI_clamp (by omega), hV (q / 6) (by omega)]
  have := hd (q / 6)
  exact ⟨by decide, vp_in_nI (by omega) (by decide), by decide, pk_lt (d (q / 6)) (q % 6) hlt hge rfl rfl (by omega) (by omega)⟩
theorem dx_holds {post : Int32 → Prop} {C W F : Int32} {D K P Q R V Z : Nat → Int32} {i : Nat} {d : Nat → Nat} (hi : i < 10) (hp : dn_pr (K i) (P i) (Q i) (R i)) (hd : ∀ v, d v < 6) (hV : ∀ j, j < 4 → V j = nI (d j)) (h1 : dn_hs (K i) (P i) (Q i) (R i) d → post 1) (h0 : ¬ dn_hs (K i) (P i) (Q i) (R i) d → post 0) : wpX_holds post (C, W, F, D, K, P, Q, R, V, Z) (nI i) := by
  have hc : (nI i).toNatClampNeg = i := nI_clamp (by omega)
  have hin : vp_in (nI i) 10 := vp_in_nI hi (by decide)
  refine ⟨hin, nm_r (congrArg P hc) ⟨hin, nm_r (congrArg Q hc) ⟨hin, nm_r (congrArg R hc) ⟨hin, nm_r (congrArg K hc) ?_⟩⟩⟩⟩
  generalize K i = k at hp h1 h0 ⊢
  generalize P i = p at hp h1 h0 ⊢
  generalize Q i = q at hp h1 h0 ⊢
  generalize R i = r at hp h1 h0 ⊢
  rcases dn_kinds hp with rfl | rfl | rfl | rfl | rfl | rfl | rfl | rfl | rfl
  · rw [dn_hs0] at h1 h0
    rw [dn_pr0] at hp
    obtain ⟨w, hw, rfl⟩ := dn_rn hp.1 (n := 2400) (by decide)
    rw [nI_clamp (by omega)] at h1 h0
    exact br_f (by decide) (br_f (by decide) (br_t rfl (dx_sum (by omega) hV (br_c (fun z => h0 (Int32.not_le.mpr z)) (fun z => h1 (Int32.not_lt.mp z))))))
  · rw [dn_hs1] at h1 h0
    rw [dn_pr1] at hp
    obtain ⟨w, hw, rfl⟩ := dn_rn hp.1 (n := 2400) (by decide)
    rw [nI_clamp (by omega)] at h1 h0
    exact br_f (by decide) (br_f (by decide) (br_f (by decide) (br_t rfl (dx_sum (by omega) hV (br_c h1 h0)))))
  · rw [dn_hs2] at h1 h0
    exact br_f (by decide) (br_f (by decide) (br_f (by decide) (br_f (by decide) (br_t rfl (dx_dif hd hV (fun z => ⟨rfl, h1 z⟩) (fun z => ⟨rfl, h0 z⟩))))))
  · rw [dn_hs3] at h1 h0
    rw [dn_pr3] at hp
    obtain ⟨a, ha, rfl⟩ := dn_rn hp.1 (n := 3) (by decide)
    obtain ⟨b, hb, rfl⟩ := dn_rn hp.2.1 (n := 3) (by decide)
    obtain ⟨c, hc, rfl⟩ := dn_rn hp.2.2 (n := 46655) (by decide)
    have da := hd a
    have db := hd b
    rw [nI_clamp (n := a) (by omega), nI_clamp (n := b) (by omega), nI_clamp (n := c) (by omega)] at h1 h0
    refine br_f (by decide) (br_f (by decide) (br_f (by decide) (br_f (by decide) (br_f (by decide) (br_t rfl ⟨vp_in_nI (by omega) (by decide), vp_in_nI (by omega) (by decide), ?_⟩)))))
    rw [nI_clamp (n := a) (by omega), nI_clamp (n := b) (by omega), hV a (by omega), hV b (by omega)]
    exact dx_dig (by omega) (by omega) (pk_eq (d a) (c / 6 ^ d b % 6) h1 h0 rfl rfl (by omega) (by omega))
  · rw [dn_hs4] at h1 h0
    rw [dn_pr4] at hp
    obtain ⟨a, ha, rfl⟩ := dn_rn hp.1 (n := 3) (by decide)
    obtain ⟨b, hb, rfl⟩ := dn_rn hp.2.1 (n := 3) (by decide)
    obtain ⟨c, hc, rfl⟩ := dn_rn hp.2.2 (n := 3) (by decide)
    have da := hd a
    have db := hd b
    have dc := hd c
    have dm : d a * d b ≤ 5 * 5 := Nat.mul_le_mul (by omega) (by omega)
    rw [nI_clamp (n := a) (by omega), nI_clamp (n := b) (by omega), nI_clamp (n := c) (by omega)] at h1 h0
    refine br_f (by decide) (br_f (by decide) (br_f (by decide) (br_f (by decide) (br_f (by decide) (br_f (by decide) (br_t rfl ⟨vp_in_nI (by omega) (by decide), vp_in_nI (by omega) (by decide), vp_in_nI (by omega) (by decide), ?_⟩))))))
    rw [nI_clamp (n := a) (by omega), nI_clamp (n := b) (by omega), nI_clamp (n := c) (by omega), hV a (by omega), hV b (by omega), hV c (by omega), pk_mul]
    exact pk_eq (d a * d b) (d c) h1 h0 rfl rfl (by omega) (by omega)
  · rw [dn_hs5] at h1 h0
    rw [dn_pr5] at hp
    obtain ⟨a, ha, rfl⟩ := dn_rn hp.1 (n := 23) (by decide)
    obtain ⟨b, hb, rfl⟩ := dn_rn hp.2 (n := 23) (by decide)
    rw [nI_clamp (n := a) (by omega), nI_clamp (n := b) (by omega)] at h1 h0
    have e1 : nI a / 6 = nI (a / 6) := pk_div (d := 6) (by omega) (by decide) (by decide)
    have e2 : nI a - nI a / 6 * 6 = nI (a % 6) := pk_rem (d := 6) (by omega) (by decide) (by decide)
    have da := hd (a / 6)
    refine br_f (by decide) (br_f (by decide) (br_f (by decide) (br_f (by decide) (br_f (by decide) (br_f (by decide) (br_f (by decide) (br_t rfl ⟨by decide, ?_⟩)))))))
    rw [e2, e1, nI_clamp (n := a / 6) (by omega), hV (a / 6) (by omega)]
    refine ⟨vp_in_nI (by omega) (by decide), by decide, pk_eq (d (a / 6)) (a % 6) (fun e => ?_) (fun e => ?_) rfl rfl (by omega) (by omega)⟩
    · exact dx_h192 hb hd hV (fun z => br_f (by decide) (h0 (fun y => absurd (y.mp e) (by omega)))) (fun z => br_t rfl (h1 ⟨fun _ => z, fun _ => e⟩))
    · exact dx_h192 hb hd hV (fun z => br_t rfl (h1 ⟨fun y => absurd y e, fun y => absurd y (by omega)⟩)) (fun z => br_f (by decide) (h0 (fun y => e (y.mpr z))))
  · rw [dn_hs6] at h1 h0
    rw [dn_pr6] at hp
    obtain ⟨a, ha, rfl⟩ := dn_rn hp.1 (n := 3) (by decide)
    obtain ⟨b, hb, rfl⟩ := dn_rn hp.2.1 (n := 3) (by decide)
    obtain ⟨c, hc, rfl⟩ := dn_rn hp.2.2 (n := 5) (by decide)
    have da := hd a
    have db := hd b
    rw [nI_clamp (n := a) (by omega), nI_clamp (n := b) (by omega), nI_clamp (n := c) (by omega)] at h1 h0
    refine br_f (by decide) (br_f (by decide) (br_f (by decide) (br_f (by decide) (br_f (by decide) (br_f (by decide) (br_f (by decide) (br_f (by decide) (br_t rfl ⟨vp_in_nI (by omega) (by decide), vp_in_nI (by omega) (by decide), ?_⟩))))))))
    rw [nI_clamp (n := a) (by omega), nI_clamp (n := b) (by omega), hV a (by omega), hV b (by omega)]
    refine br_c (fun z => h1 (Or.inl ((dn_dge da db (by omega)).mp z))) (fun z => ⟨vp_in_nI (by omega) (by decide), vp_in_nI (by omega) (by decide), br_c (fun y => h0 ?_) (fun y => h1 (Or.inr ?_))⟩)
    · rw [dn_dge da db (by omega)] at z
      rw [dn_dlt' db da (by omega)] at y
      exact fun x => x.elim z y
    · rw [dn_dlt' db da (by omega)] at y
      omega
  · rw [dn_hs7] at h1 h0
    rw [dn_pr7] at hp
    obtain ⟨c, hc, rfl⟩ := dn_rn hp.2.2 (n := 5) (by decide)
    rw [nI_clamp (n := c) (by omega)] at h1 h0
    exact br_f (by decide) (br_f (by decide) (br_f (by decide) (br_f (by decide) (br_f (by decide) (br_f (by decide) (br_f (by decide) (br_f (by decide) (br_f (by decide) (br_t rfl (dx_occ hd (by omega) hV (br_c h1 h0)))))))))))
  · rw [dn_hs8] at h1 h0
    rw [dn_pr8] at hp
    obtain ⟨a, ha, rfl⟩ := dn_rn hp.1 (n := 3) (by decide)
    obtain ⟨b, hb, rfl⟩ := dn_rn hp.2.1 (n := 3) (by decide)
    obtain ⟨c, hc, rfl⟩ := dn_rn hp.2.2 (n := 15) (by decide)
    have da := hd a
    have db := hd b
    have dc := hd (c % 4)
    have de := hd (c / 4)
    rw [nI_clamp (n := a) (by omega), nI_clamp (n := b) (by omega), nI_clamp (n := c) (by omega)] at h1 h0
    have e1 : nI c / 4 = nI (c / 4) := pk_div (d := 4) (by omega) (by decide) (by decide)
    have e2 : nI c - nI c / 4 * 4 = nI (c % 4) := pk_rem (d := 4) (by omega) (by decide) (by decide)
    refine br_f (by decide) (br_f (by decide) (br_f (by decide) (br_f (by decide) (br_f (by decide) (br_f (by decide) (br_f (by decide) (br_f (by decide) (br_f (by decide) (br_f (by decide) (br_t rfl ⟨vp_in_nI (by omega) (by decide), vp_in_nI (by omega) (by decide), ?_⟩))))))))))
    rw [e2, e1, nI_clamp (n := a) (by omega), nI_clamp (n := b) (by omega), nI_clamp (n := c % 4) (by omega), nI_clamp (n := c / 4) (by omega), hV a (by omega), hV b (by omega), hV (c % 4) (by omega), hV (c / 4) (by omega)]
    refine pk_lt (d a) (d b) (fun z => h1 (Or.inl z)) (fun z => ⟨vp_in_nI (by omega) (by decide), vp_in_nI (by omega) (by decide), pk_eq (d a) (d b) (fun e => ⟨by decide, vp_in_nI (by omega) (by decide), by decide, vp_in_nI (by omega) (by decide), pk_lt (d (c / 4)) (d (c % 4)) (fun y => h0 (fun x => by omega)) (fun y => h1 (Or.inr ⟨e, y⟩)) rfl rfl (by omega) (by omega)⟩) (fun e => h0 (fun x => by omega)) rfl rfl (by omega) (by omega)⟩) rfl rfl (by omega) (by omega)
