/-! the reference: holds, isSolution, countOf -/
theorem dy_h108 {post : Int32 → Prop} {C : Int32} {K P Q R D V : Nat → Int32} {d : Nat → Nat} {q : Nat} {z : Int32} (hq : q ≤ 23) (hd : ∀ v, d v < 6) (hV : ∀ j, j < 4 → V j = nI (d j)) (hlt : d (q / 6) < q % 6 → (z = 0 → post 1) ∧ (¬ z = 0 → post 0)) (hge : q % 6 ≤ d (q / 6) → (z = 1 → post 1) ∧ (¬ z = 1 → post 0)) : wY_holds_108 post (nI q) z C K P Q R D V := by
  have e1 : nI q / 6 = nI (q / 6) := pk_div (d := 6) (by omega) (by decide) (by decide)
  have e2 : nI q - nI q / 6 * 6 = nI (q % 6) := pk_rem (d := 6) (by omega) (by decide) (by decide)
  unfold wY_holds_108
  rw [e2, e1, nI_clamp (by omega), hV (q / 6) (by omega)]
  have := hd (q / 6)
  exact ⟨by decide, vp_in_nI (by omega) (by decide), by decide, pk_lt (d (q / 6)) (q % 6) hlt hge rfl rfl (by omega) (by omega)⟩
theorem dy_holds {post : Int32 → Prop} {C : Int32} {K P Q R D V : Nat → Int32} {i : Nat} {d : Nat → Nat} (hi : i < 10) (hp : dn_pr (K i) (P i) (Q i) (R i)) (hd : ∀ v, d v < 6) (hV : ∀ j, j < 4 → V j = nI (d j)) (h1 : dn_hs (K i) (P i) (Q i) (R i) d → post 1) (h0 : ¬ dn_hs (K i) (P i) (Q i) (R i) d → post 0) : wpY_holds post (C, K, P, Q, R, D, V) (nI i) := by
  have hc : (nI i).toNatClampNeg = i := nI_clamp (by omega)
  have hin : vp_in (nI i) 10 := vp_in_nI hi (by decide)
  refine ⟨hin, nm_r (congrArg K hc) ⟨hin, nm_r (congrArg P hc) ⟨hin, nm_r (congrArg Q hc) ⟨hin, nm_r (congrArg R hc) ?_⟩⟩⟩⟩
  generalize K i = k at hp h1 h0 ⊢
  generalize P i = p at hp h1 h0 ⊢
  generalize Q i = q at hp h1 h0 ⊢
  generalize R i = r at hp h1 h0 ⊢
  rcases dn_kinds hp with rfl | rfl | rfl | rfl | rfl | rfl | rfl | rfl | rfl
  · rw [dn_hs0] at h1 h0
    rw [dn_pr0] at hp
    obtain ⟨w, hw, rfl⟩ := dn_rn hp.1 (n := 2400) (by decide)
    rw [nI_clamp (by omega)] at h1 h0
    exact br_t rfl (dy_sum (by omega) hV (br_c (fun z => h0 (Int32.not_le.mpr z)) (fun z => h1 (Int32.not_lt.mp z))))
  · rw [dn_hs1] at h1 h0
    rw [dn_pr1] at hp
    obtain ⟨w, hw, rfl⟩ := dn_rn hp.1 (n := 2400) (by decide)
    rw [nI_clamp (by omega)] at h1 h0
    exact br_f (by decide) (br_t rfl (dy_sum (by omega) hV (br_c h1 h0)))
  · rw [dn_hs2] at h1 h0
    exact br_f (by decide) (br_f (by decide) (br_t rfl (dy_dif hd hV (fun z => ⟨rfl, h1 z⟩) (fun z => ⟨rfl, h0 z⟩))))
  · rw [dn_hs3] at h1 h0
    rw [dn_pr3] at hp
    obtain ⟨a, ha, rfl⟩ := dn_rn hp.1 (n := 3) (by decide)
    obtain ⟨b, hb, rfl⟩ := dn_rn hp.2.1 (n := 3) (by decide)
    obtain ⟨c, hc, rfl⟩ := dn_rn hp.2.2 (n := 46655) (by decide)
    have da := hd a
    have db := hd b
    rw [nI_clamp (n := a) (by omega), nI_clamp (n := b) (by omega), nI_clamp (n := c) (by omega)] at h1 h0
    refine br_f (by decide) (br_f (by decide) (br_f (by decide) (br_f (by decide) (br_f (by decide) ⟨vp_in_nI (by omega) (by decide), nm_r (e' := nI (d a)) ?_ ⟨vp_in_nI (by omega) (by decide), nm_r (e' := nI (d b)) ?_ ?_⟩⟩))))
    · rw [nI_clamp (by omega)]; exact hV a (by omega)
    · rw [nI_clamp (by omega)]; exact hV b (by omega)
    · exact br_t rfl (dy_dig (by omega) (by omega) (pk_eq (d a) (c / 6 ^ d b % 6) h1 h0 rfl rfl (by omega) (by omega)))
  · rw [dn_hs4] at h1 h0
    rw [dn_pr4] at hp
    obtain ⟨a, ha, rfl⟩ := dn_rn hp.1 (n := 3) (by decide)
    obtain ⟨b, hb, rfl⟩ := dn_rn hp.2.1 (n := 3) (by decide)
    obtain ⟨c, hc, rfl⟩ := dn_rn hp.2.2 (n := 3) (by decide)
    have da := hd a
    have db := hd b
    have dc := hd c
    have dm : d a * d b ≤ 5 * 5 := Nat.mul_le_mul (by omega) (by omega)
    rw [nI_clamp (n := a) (by omega), nI_clamp (n := b) (by omega), nI_clamp (n := c) (by omega)] at h1 h0
    refine br_f (by decide) (br_f (by decide) (br_f (by decide) (br_f (by decide) (br_f (by decide) ⟨vp_in_nI (by omega) (by decide), nm_r (e' := nI (d a)) ?_ ⟨vp_in_nI (by omega) (by decide), nm_r (e' := nI (d b)) ?_ ?_⟩⟩))))
    · rw [nI_clamp (by omega)]; exact hV a (by omega)
    · rw [nI_clamp (by omega)]; exact hV b (by omega)
    · refine br_f (by decide) (br_t rfl ⟨vp_in_nI (by omega) (by decide), ?_⟩)
      rw [nI_clamp (n := c) (by omega), hV c (by omega), pk_mul]
      exact pk_eq (d a * d b) (d c) h1 h0 rfl rfl (by omega) (by omega)
  · rw [dn_hs5] at h1 h0
    rw [dn_pr5] at hp
    obtain ⟨a, ha, rfl⟩ := dn_rn hp.1 (n := 23) (by decide)
    obtain ⟨b, hb, rfl⟩ := dn_rn hp.2 (n := 23) (by decide)
    rw [nI_clamp (n := a) (by omega), nI_clamp (n := b) (by omega)] at h1 h0
    have e1 : nI a / 6 = nI (a / 6) := pk_div (d := 6) (by omega) (by decide) (by decide)
    have e2 : nI a - nI a / 6 * 6 = nI (a % 6) := pk_rem (d := 6) (by omega) (by decide) (by decide)
    have da := hd (a / 6)
    refine br_f (by decide) (br_f (by decide) (br_f (by decide) (br_t rfl ⟨by decide, ?_⟩)))
    rw [e2, e1, nI_clamp (n := a / 6) (by omega), hV (a / 6) (by omega)]
    refine ⟨vp_in_nI (by omega) (by decide), by decide, pk_eq (d (a / 6)) (a % 6) (fun e => ?_) (fun e => ?_) rfl rfl (by omega) (by omega)⟩
    · exact dy_h108 hb hd hV (fun z => br_f (by decide) (h0 (fun y => absurd (y.mp e) (by omega)))) (fun z => br_t rfl (h1 ⟨fun _ => z, fun _ => e⟩))
    · exact dy_h108 hb hd hV (fun z => br_t rfl (h1 ⟨fun y => absurd y e, fun y => absurd y (by omega)⟩)) (fun z => br_f (by decide) (h0 (fun y => e (y.mpr z))))
  · rw [dn_hs6] at h1 h0
    rw [dn_pr6] at hp
    obtain ⟨a, ha, rfl⟩ := dn_rn hp.1 (n := 3) (by decide)
    obtain ⟨b, hb, rfl⟩ := dn_rn hp.2.1 (n := 3) (by decide)
    obtain ⟨c, hc, rfl⟩ := dn_rn hp.2.2 (n := 5) (by decide)
    have da := hd a
    have db := hd b
    rw [nI_clamp (n := a) (by omega), nI_clamp (n := b) (by omega), nI_clamp (n := c) (by omega)] at h1 h0
    refine br_f (by decide) (br_f (by decide) (br_f (by decide) (br_f (by decide) (br_f (by decide) ⟨vp_in_nI (by omega) (by decide), nm_r (e' := nI (d a)) ?_ ⟨vp_in_nI (by omega) (by decide), nm_r (e' := nI (d b)) ?_ ?_⟩⟩))))
    · rw [nI_clamp (by omega)]; exact hV a (by omega)
    · rw [nI_clamp (by omega)]; exact hV b (by omega)
    · refine br_f (by decide) (br_f (by decide) (br_t rfl (br_c (fun z => h1 (Or.inl ((dn_dge da db (by omega)).mp z))) (fun z => br_c (fun y => h0 ?_) (fun y => h1 (Or.inr ?_))))))
      · rw [dn_dge da db (by omega)] at z
        rw [dn_dlt' db da (by omega)] at y
        exact fun x => x.elim z y
      · rw [dn_dlt' db da (by omega)] at y
        omega
  · rw [dn_hs7] at h1 h0
    rw [dn_pr7] at hp
    obtain ⟨c, hc, rfl⟩ := dn_rn hp.2.2 (n := 5) (by decide)
    rw [nI_clamp (n := c) (by omega)] at h1 h0
    exact br_f (by decide) (br_f (by decide) (br_f (by decide) (br_f (by decide) (br_t rfl (dy_hav hd (by omega) hV (br_c h1 h0))))))
  · rw [dn_hs8] at h1 h0
    rw [dn_pr8] at hp
    obtain ⟨a, ha, rfl⟩ := dn_rn hp.1 (n := 3) (by decide)
    obtain ⟨b, hb, rfl⟩ := dn_rn hp.2.1 (n := 3) (by decide)
    obtain ⟨c, hc, rfl⟩ := dn_rn hp.2.2 (n := 15) (by decide)
    have da := hd a
    have db := hd b
    have dc := hd (c % 4)
    have de := hd (c / 4)
    rw [nI_clamp (n := a) (by omega), nI_clamp (n := b) (by omega), nI_clamp (n := c) (by omega)] at h1 h0
    have e1 : nI c / 4 = nI (c / 4) := pk_div (d := 4) (by omega) (by decide) (by decide)
    have e2 : nI c - nI c / 4 * 4 = nI (c % 4) := pk_rem (d := 4) (by omega) (by decide) (by decide)
    refine br_f (by decide) (br_f (by decide) (br_f (by decide) (br_f (by decide) (br_f (by decide) ⟨vp_in_nI (by omega) (by decide), nm_r (e' := nI (d a)) ?_ ⟨vp_in_nI (by omega) (by decide), nm_r (e' := nI (d b)) ?_ ?_⟩⟩))))
    · rw [nI_clamp (by omega)]; exact hV a (by omega)
    · rw [nI_clamp (by omega)]; exact hV b (by omega)
    · refine br_f (by decide) (br_f (by decide) (br_f (by decide) ?_))
      rw [e2, e1, nI_clamp (n := c % 4) (by omega), nI_clamp (n := c / 4) (by omega), hV (c % 4) (by omega), hV (c / 4) (by omega)]
      exact pk_lt (d a) (d b) (fun z => h1 (Or.inl z)) (fun z => pk_eq (d a) (d b) (fun e => ⟨by decide, vp_in_nI (by omega) (by decide), by decide, vp_in_nI (by omega) (by decide), pk_lt (d (c / 4)) (d (c % 4)) (fun y => h0 (fun x => by omega)) (fun y => h1 (Or.inr ⟨e, y⟩)) rfl rfl (by omega) (by omega)⟩) (fun e => h0 (fun x => by omega)) rfl rfl (by omega) (by omega)) rfl rfl (by omega) (by omega)
/-! is it a solution -/
theorem dy_sol82 {post : Int32 → SY → Prop} {K P Q R D V : Nat → Int32} {c a : Nat} {l : Int32} (hc : c ≤ 10) (hp : ∀ i, i < c → dn_pr (K i) (P i) (Q i) (R i)) (hV : dn_V a V) (hD : ∀ v, v < 4 → bt (D v) (dn_d a v) = true) (h1 : dn_so D K P Q R c (bt l) a → post 1 (nI c, K, P, Q, R, D, V)) (h0 : ¬ dn_so D K P Q R c (bt l) a → post 0 (nI c, K, P, Q, R, D, V)) : ∀ k i n, i + k = c → k < n → (∀ j, j < i → bt l j = true → dn_hs (K j) (P j) (Q j) (R j) (dn_d a)) → wY_isSolution_82 post l (nI c) K P Q R D V n (nI i) := by
  intro k
  induction k with
  | zero =>
    intro i n hi hn hj
    obtain ⟨m, rfl⟩ : ∃ m, n = m + 1 := ⟨n - 1, by omega⟩
    obtain rfl : i = c := by omega
    exact br_t (nI_le (Nat.le_refl _) (by omega)) (h1 ⟨hD, hj⟩)
  | succ k ih =>
    intro i n hi hn hj
    obtain ⟨m, rfl⟩ : ∃ m, n = m + 1 := ⟨n - 1, by omega⟩
    refine br_f (nI_ge (by omega) (by omega)) ?_
    cases hb : bt l i
    · refine br_f (fun z => by rw [dn_tst1 l i (by omega), hb] at z; cases z) (nm_r (nI_1 i) (ih (i + 1) m (by omega) (by omega) ?_))
      intro j h1 h2
      rcases Nat.lt_or_ge j i with y | y
      · exact hj j y h2
      · rw [show j = i by omega, hb] at h2; cases h2
    · refine br_t ((dn_tst1 l i (by omega)).mpr hb) (dy_holds (by omega) (hp i (by omega)) (dn_dlt a) hV (fun z => br_f (by decide) (nm_r (nI_1 i) (ih (i + 1) m (by omega) (by omega) ?_))) (fun z => br_t rfl (h0 (fun y => z (y.2 i (by omega) hb)))))
      intro j h1 h2
      rcases Nat.lt_or_ge j i with y | y
      · exact hj j y h2
      · rw [show j = i by omega]; exact z
theorem dy_sol49 {post : Int32 → SY → Prop} {K P Q R D V : Nat → Int32} {c a : Nat} {l : Int32} (hc : c ≤ 10) (hp : ∀ i, i < c → dn_pr (K i) (P i) (Q i) (R i)) (hV : dn_V a V) (h1 : dn_so D K P Q R c (bt l) a → post 1 (nI c, K, P, Q, R, D, V)) (h0 : ¬ dn_so D K P Q R c (bt l) a → post 0 (nI c, K, P, Q, R, D, V)) : ∀ k v n, v + k = 4 → k < n → (∀ w, w < v → bt (D w) (dn_d a w) = true) → wY_isSolution_49 post l (nI c) K P Q R D V n (nI v) := by
  intro k
  induction k with
  | zero =>
    intro v n hv hn hD
    obtain ⟨m, rfl⟩ : ∃ m, n = m + 1 := ⟨n - 1, by omega⟩
    obtain rfl : v = 4 := by omega
    exact br_t (nI_le (a := 4) (b := 4) (by decide) (by decide)) ⟨c + 1, dy_sol82 hc hp hV hD h1 h0 c 0 (c + 1) (by omega) (by omega) (fun j hj => absurd hj (by omega))⟩
  | succ k ih =>
    intro v n hv hn hD
    obtain ⟨m, rfl⟩ : ∃ m, n = m + 1 := ⟨n - 1, by omega⟩
    refine br_f (nI_ge (b := 4) (by omega) (by decide)) ⟨vp_in_nI (by omega) (by decide), vp_in_nI (by omega) (by decide), ?_⟩
    rw [nI_clamp (by omega), hV v (by omega)]
    have hdv := dn_dlt a v
    cases hb : bt (D v) (dn_d a v)
    · refine br_t ((dn_tst0 (D v) (dn_d a v) (by omega)).mpr hb) (h0 (fun z => ?_))
      have := z.1 v (by omega)
      rw [hb] at this
      cases this
    · refine br_f (fun z => by rw [dn_tst0 (D v) (dn_d a v) (by omega), hb] at z; cases z) (nm_r (nI_1 v) (ih (v + 1) m (by omega) (by omega) ?_))
      intro w hw
      rcases Nat.lt_or_ge w v with y | y
      · exact hD w y
      · rw [show w = v by omega]; exact hb
theorem dy_sol {post : Int32 → SY → Prop} {K P Q R D V : Nat → Int32} {c a : Nat} {l : Int32} (hc : c ≤ 10) (hp : ∀ i, i < c → dn_pr (K i) (P i) (Q i) (R i)) (ha : a < 1296) (h1 : ∀ V', dn_V a V' → dn_sb D K P Q R c (bt l) a = true → post 1 (nI c, K, P, Q, R, D, V')) (h0 : ∀ V', dn_V a V' → dn_sb D K P Q R c (bt l) a = false → post 0 (nI c, K, P, Q, R, D, V')) : wpY_isSolution post (nI c, K, P, Q, R, D, V) (nI a) l := by
  have e3 : nI a - nI a / 6 * 6 = nI (a % 6) := pk_rem (d := 6) (by omega) (by decide) (by decide)
  have e2 : nI a / 6 = nI (a / 6) := pk_div (d := 6) (by omega) (by decide) (by decide)
  have e2' : nI (a / 6) - nI (a / 6) / 6 * 6 = nI (a / 6 % 6) := pk_rem (d := 6) (by omega) (by decide) (by decide)
  have e1 : nI a / 36 = nI (a / 36) := pk_div (d := 36) (by omega) (by decide) (by decide)
  have e1' : nI (a / 36) - nI (a / 36) / 6 * 6 = nI (a / 36 % 6) := pk_rem (d := 6) (by omega) (by decide) (by decide)
  have e0 : nI a / 216 = nI (a / 216) := pk_div (d := 216) (by omega) (by decide) (by decide)
  refine ⟨by decide, nm_r (e' := upd V 3 (nI (a % 6))) (by rw [e3]) ⟨by decide, by decide, nm_r (e' := upd (upd V 3 (nI (a % 6))) 2 (nI (a / 6 % 6))) (by rw [e2, e2']) ⟨by decide, by decide, nm_r (e' := upd (upd (upd V 3 (nI (a % 6))) 2 (nI (a / 6 % 6))) 1 (nI (a / 36 % 6))) (by rw [e1, e1']) ⟨by decide, nm_r (e' := upd (upd (upd (upd V 3 (nI (a % 6))) 2 (nI (a / 6 % 6))) 1 (nI (a / 36 % 6))) 0 (nI (a / 216))) (by rw [e0]) ?_⟩⟩⟩⟩
  have hV : dn_V a (upd (upd (upd (upd V 3 (nI (a % 6))) 2 (nI (a / 6 % 6))) 1 (nI (a / 36 % 6))) 0 (nI (a / 216))) := by
    intro j hj
    rcases (by omega : j = 0 ∨ j = 1 ∨ j = 2 ∨ j = 3) with rfl | rfl | rfl | rfl
    · rw [pk_us, dn_d0 ha]
    · rw [pk_un (by decide), pk_us, dn_d1]
    · rw [pk_un (by decide), pk_un (by decide), pk_us, dn_d2]
    · rw [pk_un (by decide), pk_un (by decide), pk_un (by decide), pk_us, dn_d3]
  exact ⟨5, dy_sol49 hc hp hV (fun z => h1 _ hV (dn_sbt.mpr z)) (fun z => h0 _ hV (dn_sbf.mpr z)) 4 0 5 (by omega) (by omega) (fun w hw => absurd hw (by omega))⟩
/-! counting -/
theorem dy_cnt4 {post : Int32 → SY → Prop} {K P Q R D : Nat → Int32} {c : Nat} {l : Int32} (hc : c ≤ 10) (hp : ∀ i, i < c → dn_pr (K i) (P i) (Q i) (R i)) (h : ∀ V, post (nI (dn_cn (dn_sb D K P Q R c (bt l)) 1296)) (nI c, K, P, Q, R, D, V)) : ∀ k a n V, a + k = 1296 → k < n → wY_countOf_4 post l n (nI (dn_cn (dn_sb D K P Q R c (bt l)) a)) (nI a) (nI c) K P Q R D V := by
  intro k
  induction k with
  | zero =>
    intro a n V ha hn
    obtain ⟨m, rfl⟩ : ∃ m, n = m + 1 := ⟨n - 1, by omega⟩
    obtain rfl : a = 1296 := by omega
    exact br_t (nI_le (a := 1296) (b := 1296) (by decide) (by decide)) (h V)
  | succ k ih =>
    intro a n V ha hn
    obtain ⟨m, rfl⟩ : ∃ m, n = m + 1 := ⟨n - 1, by omega⟩
    refine br_f (nI_ge (b := 1296) (by omega) (by decide)) ?_
    refine dy_sol hc hp (by omega) (fun V' hV' hS => ?_) (fun V' hV' hS => ?_)
    · have t := ih (a + 1) m V' (by omega) (by omega)
      rw [dn_cnt hS] at t
      exact br_f (by decide) (nm_r (nI_1 _) (nm_r (nI_1 a) t))
    · have t := ih (a + 1) m V' (by omega) (by omega)
      rw [dn_cnf hS] at t
      exact br_t rfl (nm_r (nI_1 a) t)
theorem dy_cntOf {post : Int32 → SY → Prop} {K P Q R D V : Nat → Int32} {c : Nat} {l : Int32} (hc : c ≤ 10) (hp : ∀ i, i < c → dn_pr (K i) (P i) (Q i) (R i)) (h : ∀ V, post (nI (dn_cn (dn_sb D K P Q R c (bt l)) 1296)) (nI c, K, P, Q, R, D, V)) : wpY_countOf post (nI c, K, P, Q, R, D, V) l :=
  ⟨1297, dy_cnt4 hc hp h 1296 0 1297 V (by omega) (by omega)⟩
/-- all constraints: the whole set -/
theorem dn_allS {D K P Q R : Nat → Int32} {c : Nat} (hc : c ≤ 10) : dn_sb D K P Q R c (bt (((1 : Int32) <<< (nI c &&& 31)) - 1)) = dn_sb D K P Q R c (dn_in 0) := by
  apply dn_soc
  intro i hi
  rw [dn_all c (by omega) i (by omega), decide_eq_true hi]
  show true = !bt 0 i
  rw [b_0]
  rfl
theorem dy_count {post : Int32 → SY → Prop} {K P Q R D V : Nat → Int32} {c : Nat} (hc : c ≤ 10) (hp : ∀ i, i < c → dn_pr (K i) (P i) (Q i) (R i)) (h : ∀ V, post (nI (dn_cn (dn_sb D K P Q R c (dn_in 0)) 1296)) (nI c, K, P, Q, R, D, V)) : wpY_count post (nI c, K, P, Q, R, D, V) := by
  unfold wpY_count
  refine dy_cntOf hc hp (fun V' => ?_)
  rw [dn_allS hc]
  exact h V'
