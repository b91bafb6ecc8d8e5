/-! the reference: its loops over the codes -/
theorem dy_firstN {post : Int32 → SY → Prop} {x : Int32} {K P Q R D : Nat → Int32} {c : Nat} {l : Int32} (hc : c ≤ 10) (hp : ∀ i, i < c → dn_pr (K i) (P i) (Q i) (R i)) (hS : ∀ b, b < 1296 → dn_sb D K P Q R c (bt l) b = false) (h : ∀ V, post (-1002) (nI c, K, P, Q, R, D, V)) : ∀ k a n V, a + k = 1296 → k < n → wY_first_21 post x l n (nI a) (nI c) K P Q R D V := by
  intro k
  induction k with
  | zero =>
    intro a n V ha hn
    obtain ⟨m, rfl⟩ : ∃ m, n = m + 1 := ⟨n - 1, by omega⟩
    obtain rfl : a = 1296 := by omega
    exact br_t (nI_le (a := 1296) (b := 1296) (by decide) (by decide)) (h V)
  | succ k ih =>
    intro a n V ha hn
    obtain ⟨m, rfl⟩ : ∃ m, n = m + 1 := ⟨n - 1, by omega⟩
    refine br_f (nI_ge (b := 1296) (by omega) (by decide)) ?_
    refine dy_sol hc hp (by omega) (fun V' hV' hs => ?_) (fun V' hV' hs => br_t rfl (nm_r (nI_1 a) (ih (a + 1) m V' (by omega) (by omega))))
    rw [hS a (by omega)] at hs
    cases hs
theorem dy_firstS {post : Int32 → SY → Prop} {v b : Nat} {K P Q R D : Nat → Int32} {c : Nat} {l : Int32} (hc : c ≤ 10) (hp : ∀ i, i < c → dn_pr (K i) (P i) (Q i) (R i)) (hv : v < 4) (hb : b < 1296) (hS : dn_sb D K P Q R c (bt l) b = true) (hN : ∀ a, a < b → dn_sb D K P Q R c (bt l) a = false) (h : ∀ V, post (nI (dn_d b v)) (nI c, K, P, Q, R, D, V)) : ∀ k a n V, a + k = b → k < n → wY_first_21 post (nI v) l n (nI a) (nI c) K P Q R D V := by
  intro k
  induction k with
  | zero =>
    intro a n V ha hn
    obtain ⟨m, rfl⟩ : ∃ m, n = m + 1 := ⟨n - 1, by omega⟩
    obtain rfl : a = b := by omega
    refine br_f (nI_ge (b := 1296) (by omega) (by decide)) ?_
    refine dy_sol hc hp (by omega) (fun V' hV' hs => br_f (by decide) ⟨vp_in_nI hv (by decide), ?_⟩) (fun V' hV' hs => ?_)
    · rw [nI_clamp (by omega), hV' v hv]
      exact h V'
    · rw [hS] at hs
      cases hs
  | succ k ih =>
    intro a n V ha hn
    obtain ⟨m, rfl⟩ : ∃ m, n = m + 1 := ⟨n - 1, by omega⟩
    refine br_f (nI_ge (b := 1296) (by omega) (by decide)) ?_
    refine dy_sol hc hp (by omega) (fun V' hV' hs => ?_) (fun V' hV' hs => br_t rfl (nm_r (nI_1 a) (ih (a + 1) m V' (by omega) (by omega))))
    rw [hN a (by omega)] at hs
    cases hs
theorem dy_pos24 {post : Int32 → SY → Prop} {v : Nat} {K P Q R D : Nat → Int32} {c : Nat} {l : Int32} (hc : c ≤ 10) (hp : ∀ i, i < c → dn_pr (K i) (P i) (Q i) (R i)) (hv : v < 4) (h : ∀ V, post (dn_ps (dn_sb D K P Q R c (bt l)) v 1296) (nI c, K, P, Q, R, D, V)) : ∀ k a n V, a + k = 1296 → k < n → wY_possible_24 post (nI v) l n (dn_ps (dn_sb D K P Q R c (bt l)) v a) (nI a) (nI c) K P Q R D V := by
  intro k
  induction k with
  | zero =>
    intro a n V ha hn
    obtain ⟨m, rfl⟩ : ∃ m, n = m + 1 := ⟨n - 1, by omega⟩
    obtain rfl : a = 1296 := by omega
    exact br_t (nI_le (a := 1296) (b := 1296) (by decide) (by decide)) (h V)
  | succ k ih =>
    intro a n V ha hn
    obtain ⟨m, rfl⟩ : ∃ m, n = m + 1 := ⟨n - 1, by omega⟩
    refine br_f (nI_ge (b := 1296) (by omega) (by decide)) ?_
    refine dy_sol hc hp (by omega) (fun V' hV' hS => ?_) (fun V' hV' hS => ?_)
    · have t := ih (a + 1) m V' (by omega) (by omega)
      rw [dn_pst hS] at t
      exact br_f (by decide) ⟨vp_in_nI hv (by decide), nm_r (by rw [nI_clamp (by omega), hV' v hv]) (nm_r (nI_1 a) t)⟩
    · have t := ih (a + 1) m V' (by omega) (by omega)
      rw [dn_psf hS] at t
      exact br_t rfl (nm_r (nI_1 a) t)
theorem dy_cw35 {post : Int32 → SY → Prop} {v x : Nat} {K P Q R D : Nat → Int32} {c : Nat} {l : Int32} (hc : c ≤ 10) (hp : ∀ i, i < c → dn_pr (K i) (P i) (Q i) (R i)) (hv : v < 4) (hx : x < 6) (h : ∀ V, post (nI (dn_cn (dn_wx (dn_sb D K P Q R c (bt l)) v x) 1296)) (nI c, K, P, Q, R, D, V)) : ∀ k a n V, a + k = 1296 → k < n → wY_countWith_35 post (nI v) (nI x) l n (nI (dn_cn (dn_wx (dn_sb D K P Q R c (bt l)) v x) a)) (nI a) (nI c) K P Q R D V := by
  intro k
  induction k with
  | zero =>
    intro a n V ha hn
    obtain ⟨m, rfl⟩ : ∃ m, n = m + 1 := ⟨n - 1, by omega⟩
    obtain rfl : a = 1296 := by omega
    exact br_t (nI_le (a := 1296) (b := 1296) (by decide) (by decide)) (h V)
  | succ k ih =>
    intro a n V ha hn
    obtain ⟨m, rfl⟩ : ∃ m, n = m + 1 := ⟨n - 1, by omega⟩
    refine br_f (nI_ge (b := 1296) (by omega) (by decide)) ?_
    refine dy_sol hc hp (by omega) (fun V' hV' hS => br_f (by decide) ⟨vp_in_nI hv (by decide), ?_⟩) (fun V' hV' hS => ?_)
    · have t := ih (a + 1) m V' (by omega) (by omega)
      have hdv := dn_dlt a v
      rw [nI_clamp (by omega), hV' v hv]
      refine pk_eq (dn_d a v) x (fun e => ?_) (fun e => ?_) rfl rfl (by omega) (by omega)
      · rw [dn_cnt (dn_wxt hS e)] at t
        exact nm_r (nI_1 _) (nm_r (nI_1 a) t)
      · rw [dn_cnf (dn_wxf (Or.inr e))] at t
        exact nm_r (nI_1 a) t
    · have t := ih (a + 1) m V' (by omega) (by omega)
      rw [dn_cnf (dn_wxf (Or.inl hS))] at t
      exact br_t rfl (nm_r (nI_1 a) t)
/-! the optimum -/
theorem dy_o61t {post : Int32 → SY → Prop} {J : Int32 → Int32 → Int32 → Int32 → Int32 → (Nat → Int32) → (Nat → Int32) → (Nat → Int32) → (Nat → Int32) → (Nat → Int32) → (Nat → Int32) → Prop} {x1 x2 x3 x4 x6 x8 C : Int32} {K P Q R D V : Nat → Int32} {y a : Nat} (e : x8 = x4) (H : J x4 (nI (y + 1)) x6 (nI (a + 1)) C K P Q R D V) : wY_optimum_61 post J x1 x2 x3 x4 (nI y) x6 (nI a) x8 C K P Q R D V :=
  br_t e (nm_r (nI_1 y) (nm_r (nI_1 a) H))
theorem dy_o61f {post : Int32 → SY → Prop} {J : Int32 → Int32 → Int32 → Int32 → Int32 → (Nat → Int32) → (Nat → Int32) → (Nat → Int32) → (Nat → Int32) → (Nat → Int32) → (Nat → Int32) → Prop} {x1 x2 x3 x4 x5 x6 x8 C : Int32} {K P Q R D V : Nat → Int32} {a : Nat} (e : ¬ x8 = x4) (H : J x4 x5 x6 (nI (a + 1)) C K P Q R D V) : wY_optimum_61 post J x1 x2 x3 x4 x5 x6 (nI a) x8 C K P Q R D V :=
  br_f e (nm_r (nI_1 a) H)
theorem dy_opt18 {post : Int32 → SY → Prop} {w : Nat} {q : Int32} {K P Q R D : Nat → Int32} {c : Nat} {l : Int32} {S : Nat → Bool} (hSe : dn_sb D K P Q R c (bt l) = S) (hc : c ≤ 10) (hp : ∀ i, i < c → dn_pr (K i) (P i) (Q i) (R i)) (hw : w < 2 ^ 31) (h : ∀ V, ((q = 0 → post (dn_op S (fun b => dn_sm w (dn_d b) 4) 1296).1 (nI c, K, P, Q, R, D, V)) ∧ (¬ q = 0 → ((q = 1 → post (nI (dn_op S (fun b => dn_sm w (dn_d b) 4) 1296).2.1) (nI c, K, P, Q, R, D, V)) ∧ (¬ q = 1 → (((dn_op S (fun b => dn_sm w (dn_d b) 4) 1296).1 = 61 → post (-1002) (nI c, K, P, Q, R, D, V)) ∧ (¬ (dn_op S (fun b => dn_sm w (dn_d b) 4) 1296).1 = 61 → post (nI (dn_op S (fun b => dn_sm w (dn_d b) 4) 1296).2.2) (nI c, K, P, Q, R, D, V)))))))) : ∀ k a n V, a + k = 1296 → k < n → wY_optimum_18 post (nI w) q l n (dn_op S (fun b => dn_sm w (dn_d b) 4) a).1 (nI (dn_op S (fun b => dn_sm w (dn_d b) 4) a).2.1) (nI (dn_op S (fun b => dn_sm w (dn_d b) 4) a).2.2) (nI a) (nI c) K P Q R D V := by
  have hfe : ∀ b, (fun b => dn_sm w (dn_d b) 4) b = dn_sm w (dn_d b) 4 := fun b => rfl
  generalize (fun b => dn_sm w (dn_d b) 4) = f at h hfe ⊢
  intro k
  induction k with
  | zero =>
    intro a n V ha hn
    obtain ⟨m, rfl⟩ : ∃ m, n = m + 1 := ⟨n - 1, by omega⟩
    obtain rfl : a = 1296 := by omega
    exact br_t (nI_le (a := 1296) (b := 1296) (by decide) (by decide)) (h V)
  | succ k ih =>
    intro a n V ha hn
    obtain ⟨m, rfl⟩ : ∃ m, n = m + 1 := ⟨n - 1, by omega⟩
    refine br_f (nI_ge (b := 1296) (by omega) (by decide)) ?_
    refine dy_sol hc hp (by omega) (fun V' hV' hS => br_f (by decide) (dy_sum hw hV' ?_)) (fun V' hV' hS => ?_)
    · rw [hSe] at hS
      rw [← hfe a]
      have t := ih (a + 1) m V' (by omega) (by omega)
      refine br_c (fun y => ?_) (fun y => ?_)
      · have hnl : ¬ f a < (dn_op S f a).1 := Int32.not_lt.mpr y
        by_cases e : f a = (dn_op S f a).1
        · rw [dn_ope hS hnl e] at t
          exact dy_o61t e t
        · rw [dn_opg hS hnl e] at t
          exact dy_o61f e t
      · rw [dn_opl hS (Int32.not_le.mp y)] at t
        exact dy_o61t (y := 0) rfl t
    · rw [hSe] at hS
      have t := ih (a + 1) m V' (by omega) (by omega)
      rw [dn_opf hS] at t
      exact br_t rfl (nm_r (nI_1 a) t)
theorem dy_opt {post : Int32 → SY → Prop} {w : Nat} {q : Int32} {K P Q R D V : Nat → Int32} {c : Nat} {S : Nat → Bool} (hSe : dn_sb D K P Q R c (dn_in 0) = S) (hc : c ≤ 10) (hp : ∀ i, i < c → dn_pr (K i) (P i) (Q i) (R i)) (hw : w < 2 ^ 31) (h : ∀ V, ((q = 0 → post (dn_op S (fun b => dn_sm w (dn_d b) 4) 1296).1 (nI c, K, P, Q, R, D, V)) ∧ (¬ q = 0 → ((q = 1 → post (nI (dn_op S (fun b => dn_sm w (dn_d b) 4) 1296).2.1) (nI c, K, P, Q, R, D, V)) ∧ (¬ q = 1 → (((dn_op S (fun b => dn_sm w (dn_d b) 4) 1296).1 = 61 → post (-1002) (nI c, K, P, Q, R, D, V)) ∧ (¬ (dn_op S (fun b => dn_sm w (dn_d b) 4) 1296).1 = 61 → post (nI (dn_op S (fun b => dn_sm w (dn_d b) 4) 1296).2.2) (nI c, K, P, Q, R, D, V)))))))) : wpY_optimum post (nI c, K, P, Q, R, D, V) (nI w) q :=
  ⟨1297, dy_opt18 ((dn_allS hc).trans hSe) hc hp hw h 1296 0 1297 V (by omega) (by omega)⟩
/-! blame -/
theorem dy_blame17 {post : Int32 → SY → Prop} {K P Q R D : Nat → Int32} {c : Nat} (hc : c ≤ 10) (hp : ∀ i, i < c → dn_pr (K i) (P i) (Q i) (R i)) (h : ∀ V b, (∀ j, j < 32 → bt b j = (decide (j < c) && !dn_lo (dn_E D K P Q R c) c j)) → post b (nI c, K, P, Q, R, D, V)) : ∀ k i n V s, i + k = c → k < n → (∀ j, j < 32 → bt s j = (decide (j < c) && !dn_lo (dn_E D K P Q R c) i j)) → wY_blame_17 post n s (nI i) (nI c) K P Q R D V := by
  intro k
  induction k with
  | zero =>
    intro i n V s hi hn hs
    obtain ⟨m, rfl⟩ : ∃ m, n = m + 1 := ⟨n - 1, by omega⟩
    obtain rfl : i = c := by omega
    exact br_t (nI_le (Nat.le_refl _) (by omega)) (h V s hs)
  | succ k ih =>
    intro i n V s hi hn hs
    obtain ⟨m, rfl⟩ : ∃ m, n = m + 1 := ⟨n - 1, by omega⟩
    refine br_f (nI_ge (by omega) (by omega)) (nm_e ?_)
    have hs' : ∀ j, j < 32 → bt (s &&& (((1 : Int32) <<< (nI i &&& 31)) ^^^ (-1))) j = (decide (j < c) && !(dn_lo (dn_E D K P Q R c) i j || decide (j = i))) := by
      intro j hj
      rw [b_and, hs j hj, dn_not _ j hj, dn_one i j (by omega) hj, Bool.not_or, Bool.and_assoc]
    generalize (s &&& (((1 : Int32) <<< (nI i &&& 31)) ^^^ (-1))) = s2 at hs' ⊢
    have hcn := dn_cnb (dn_sb D K P Q R c (bt s2)) 1296
    have hE : dn_cn (dn_sb D K P Q R c (bt s2)) 1296 = dn_cn (dn_sb D K P Q R c (fun j => !(dn_lo (dn_E D K P Q R c) i j || decide (j = i)))) 1296 :=
      dn_Ec (fun j hj => by rw [hs' j (by omega), decide_eq_true hj, Bool.true_and])
    refine dy_cntOf hc hp (fun V' => ?_)
    refine pk_eq (dn_cn (dn_sb D K P Q R c (bt s2)) 1296) 0 (fun e => ?_) (fun e => ?_) rfl rfl (by omega) (by omega)
    · have hlo := dn_lot (E := dn_E D K P Q R c) (i := i) (decide_eq_true (hE.symm.trans e))
      refine nm_r (nI_1 i) (ih (i + 1) m V' s2 (by omega) (by omega) (fun j hj => ?_))
      rw [hlo]
      exact hs' j hj
    · have hlo := dn_lof (E := dn_E D K P Q R c) (i := i) (decide_eq_false (fun z => e (hE.trans z)))
      refine nm_r (nI_1 i) (ih (i + 1) m V' s (by omega) (by omega) (fun j hj => ?_))
      rw [hlo]
      exact hs j hj
