/-! the calls that ask -/
theorem dn_b1296 (S : Nat → Bool) : dn_cn S 1296 < 2 ^ 31 := Nat.lt_of_le_of_lt (dn_cnb S 1296) (by decide)
theorem i_vc_solvable {k : Nat} {u : SX} {v : SY} (I : i_Rel k u v) (hk : k + 5 ≤ 2560) : wpX_solvable (fun r u' => wpY_solvable (fun r' v' => r' = r ∧ i_Rel (k + 5) u' v') v) u := by
  obtain ⟨c, W, F, D, K, P, Q, R, V, Z, V', rfl, rfl, hc, hp⟩ := I
  unfold wpX_solvable wpY_solvable
  refine dx_find hc hp (fun V1 Z1 hL => ?_)
  refine pk_le (dn_cn (dn_sb D K P Q R c (dn_in 0)) 1296) 0 (fun z => ?_) (fun z => ?_) rfl rfl (dn_b1296 _) (by decide)
  · refine dy_count hc hp (fun V2 => ?_)
    exact pk_le (dn_cn (dn_sb D K P Q R c (dn_in 0)) 1296) 0 (fun _ => ⟨rfl, dn_rel hc hp⟩) (fun y => absurd z (by omega)) rfl rfl (dn_b1296 _) (by decide)
  · refine dy_count hc hp (fun V2 => ?_)
    exact pk_le (dn_cn (dn_sb D K P Q R c (dn_in 0)) 1296) 0 (fun y => absurd z (by omega)) (fun _ => ⟨rfl, dn_rel hc hp⟩) rfl rfl (dn_b1296 _) (by decide)
theorem i_vc_count {k : Nat} {u : SX} {v : SY} (I : i_Rel k u v) (hk : k + 5 ≤ 2560) : wpX_count (fun r u' => wpY_count (fun r' v' => r' = r ∧ i_Rel (k + 5) u' v') v) u := by
  obtain ⟨c, W, F, D, K, P, Q, R, V, Z, V', rfl, rfl, hc, hp⟩ := I
  unfold wpX_count
  refine dx_find hc hp (fun V1 Z1 hL => ?_)
  exact dy_count hc hp (fun V2 => ⟨rfl, dn_rel hc hp⟩)
theorem i_vc_first {k : Nat} {u : SX} {v : SY} (I : i_Rel k u v) (hk : k + 5 ≤ 2560) (v1 : Int32) : wpX_first (fun r u' => wpY_first (fun r' v' => r' = r ∧ i_Rel (k + 5) u' v') v v1) u v1 := by
  obtain ⟨c, W, F, D, K, P, Q, R, V, Z, V', rfl, rfl, hc, hp⟩ := I
  unfold wpX_first wpY_first
  refine dx_var (fun a => br_f (by decide) ?_) (fun a => br_t rfl (dy_inF a (br_t rfl ⟨rfl, dn_rel hc hp⟩)))
  obtain ⟨j, hj, rfl⟩ := dn_rn a (n := 3) (by decide)
  refine dx_find hc hp (fun V1 Z1 hL => ?_)
  refine pk_eq (dn_cn (dn_sb D K P Q R c (dn_in 0)) 1296) 0 (fun z => ?_) (fun z => ?_) rfl rfl (dn_b1296 _) (by decide)
  · refine dy_inT a (br_f (by decide) ⟨1297, dy_firstN hc hp ?_ (fun V2 => ⟨rfl, dn_rel hc hp⟩) 1296 0 1297 V' (by omega) (by omega)⟩)
    intro b hb
    rw [dn_allS hc]
    cases hs : dn_sb D K P Q R c (dn_in 0) b
    · rfl
    · have := dn_cnl _ hb hs
      omega
  · obtain ⟨b, hb, hS, h0, hN⟩ := dn_fst (S := dn_sb D K P Q R c (dn_in 0)) (k := 1296) (by omega)
    have hz : Z1 0 = nI b := by
      have := hL b hb hS
      rw [h0] at this
      exact this
    rw [hz]
    refine dx_look hb (fun V2 hV2 => ⟨vp_in_nI (by omega) (by decide), ?_⟩)
    rw [nI_clamp (by omega), hV2 j (by omega)]
    refine dy_inT a (br_f (by decide) ⟨1297, dy_firstS hc hp (by omega) hb ?_ ?_ (fun V3 => ⟨rfl, dn_rel hc hp⟩) b 0 1297 V' (by omega) (by omega)⟩)
    · rw [dn_allS hc]; exact hS
    · rw [dn_allS hc]; exact hN
theorem i_vc_possible {k : Nat} {u : SX} {v : SY} (I : i_Rel k u v) (hk : k + 5 ≤ 2560) (v1 : Int32) : wpX_possible (fun r u' => wpY_possible (fun r' v' => r' = r ∧ i_Rel (k + 5) u' v') v v1) u v1 := by
  obtain ⟨c, W, F, D, K, P, Q, R, V, Z, V', rfl, rfl, hc, hp⟩ := I
  unfold wpX_possible wpY_possible
  refine dx_var (fun a => br_f (by decide) ?_) (fun a => br_t rfl (dy_inF a (br_t rfl ⟨rfl, dn_rel hc hp⟩)))
  obtain ⟨j, hj, rfl⟩ := dn_rn a (n := 3) (by decide)
  refine dx_find hc hp (fun V1 Z1 hL => ?_)
  refine ⟨1297, dx_pos20 (by omega) hL (fun V2 => ?_) 1296 0 1297 V1 (by omega) (by omega)⟩
  refine dy_inT a (br_f (by decide) ⟨1297, dy_pos24 hc hp (by omega) (fun V3 => ⟨?_, dn_rel hc hp⟩) 1296 0 1297 V' (by omega) (by omega)⟩)
  rw [dn_allS hc]
theorem i_vc_countWith {k : Nat} {u : SX} {v : SY} (I : i_Rel k u v) (hk : k + 5 ≤ 2560) (v1 : Int32) (v2 : Int32) : wpX_countWith (fun r u' => wpY_countWith (fun r' v' => r' = r ∧ i_Rel (k + 5) u' v') v v1 v2) u v1 v2 := by
  obtain ⟨c, W, F, D, K, P, Q, R, V, Z, V', rfl, rfl, hc, hp⟩ := I
  unfold wpX_countWith wpY_countWith
  refine dx_var (fun a => br_f (by decide) (dx_in (fun b => br_f (by decide) ?_) (fun b => br_t rfl (dy_inT a (br_f (by decide) (dy_inF b (br_t rfl ⟨rfl, dn_rel hc hp⟩))))))) (fun a => br_t rfl (dy_inF a (br_t rfl ⟨rfl, dn_rel hc hp⟩)))
  obtain ⟨j, hj, rfl⟩ := dn_rn a (n := 3) (by decide)
  obtain ⟨x, hx, rfl⟩ := dn_rn b (n := 5) (by decide)
  refine dx_find hc hp (fun V1 Z1 hL => ?_)
  refine ⟨1297, dx_cw30 (by omega) (by omega) hL (fun V2 => ?_) 1296 0 1297 V1 (by omega) (by omega)⟩
  refine dy_inT a (br_f (by decide) (dy_inT b (br_f (by decide) ⟨1297, dy_cw35 hc hp (by omega) (by omega) (fun V3 => ⟨?_, dn_rel hc hp⟩) 1296 0 1297 V' (by omega) (by omega)⟩)))
  rw [dn_allS hc]
theorem i_vc_best {k : Nat} {u : SX} {v : SY} (I : i_Rel k u v) (hk : k + 5 ≤ 2560) (v1 : Int32) : wpX_best (fun r u' => wpY_best (fun r' v' => r' = r ∧ i_Rel (k + 5) u' v') v v1) u v1 := by
  obtain ⟨c, W, F, D, K, P, Q, R, V, Z, V', rfl, rfl, hc, hp⟩ := I
  unfold wpX_best wpY_best
  refine dx_wei (fun a => br_f (by decide) ?_) (fun a => br_t rfl (dy_inF a (br_t rfl ⟨rfl, dn_rel hc hp⟩)))
  obtain ⟨w, hw, rfl⟩ := dn_rn a (n := 2400) (by decide)
  refine dx_find hc hp (fun V1 Z1 hL => ?_)
  refine dx_keep (by omega) hL (fun V2 Z2 h0 => ?_)
  exact dy_inT a (br_f (by decide) (dy_opt rfl hc hp (by omega) (fun V3 => br_f (by decide) (br_t rfl ⟨rfl, dn_rel hc hp⟩))))
theorem i_vc_least {k : Nat} {u : SX} {v : SY} (I : i_Rel k u v) (hk : k + 5 ≤ 2560) (v1 : Int32) : wpX_least (fun r u' => wpY_least (fun r' v' => r' = r ∧ i_Rel (k + 5) u' v') v v1) u v1 := by
  obtain ⟨c, W, F, D, K, P, Q, R, V, Z, V', rfl, rfl, hc, hp⟩ := I
  unfold wpX_least wpY_least
  refine dx_wei (fun a => br_f (by decide) ?_) (fun a => br_t rfl (dy_inF a (br_t rfl ⟨rfl, dn_rel hc hp⟩)))
  obtain ⟨w, hw, rfl⟩ := dn_rn a (n := 2400) (by decide)
  refine dx_find hc hp (fun V1 Z1 hL => ?_)
  refine dx_keep (by omega) hL (fun V2 Z2 h0 => ?_)
  have hn := dn_opn (S := dn_sb D K P Q R c (dn_in 0)) (f := fun b => dn_sm w (dn_d b) 4) (fun b => dn_sm61 w b) 1296
  have hb := dn_b1296 (dn_sb D K P Q R c (dn_in 0))
  refine pk_eq (dn_op (dn_sb D K P Q R c (dn_in 0)) (fun b => dn_sm w (dn_d b) 4) 1296).2.1 0 (fun z => ?_) (fun z => ?_) rfl rfl (by omega) (by decide)
  · refine dy_inT a (br_f (by decide) (dy_opt rfl hc hp (by omega) (fun V3 => br_t rfl ?_)))
    rcases dn_opi (S := dn_sb D K P Q R c (dn_in 0)) (f := fun b => dn_sm w (dn_d b) 4) (fun b => dn_sm61 w b) 1296 with ⟨y, _⟩ | ⟨y, _⟩
    · exact br_t (by rw [y]) ⟨rfl, dn_rel hc hp⟩
    · omega
  · rcases dn_opi (S := dn_sb D K P Q R c (dn_in 0)) (f := fun b => dn_sm w (dn_d b) 4) (fun b => dn_sm61 w b) 1296 with ⟨y, _⟩ | ⟨y1, y2, y3, y4⟩
    · rw [y] at z; exact absurd rfl z
    · rw [h0 y1]
      refine dx_look y3 (fun V3 hV3 => dx_sum (by omega) hV3 ?_)
      refine dy_inT a (br_f (by decide) (dy_opt rfl hc hp (by omega) (fun V4 => br_t rfl (br_f ?_ ⟨y4, dn_rel hc hp⟩))))
      rw [y4]
      exact Int32.ne_of_lt (dn_sm61 w _)
theorem i_vc_bestOne {k : Nat} {u : SX} {v : SY} (I : i_Rel k u v) (hk : k + 5 ≤ 2560) (v1 : Int32) : wpX_bestOne (fun r u' => wpY_bestOne (fun r' v' => r' = r ∧ i_Rel (k + 5) u' v') v v1) u v1 := by
  obtain ⟨c, W, F, D, K, P, Q, R, V, Z, V', rfl, rfl, hc, hp⟩ := I
  unfold wpX_bestOne wpY_bestOne
  refine dx_wei (fun a => br_f (by decide) ?_) (fun a => br_t rfl (dy_inF a (br_t rfl ⟨rfl, dn_rel hc hp⟩)))
  obtain ⟨w, hw, rfl⟩ := dn_rn a (n := 2400) (by decide)
  refine dx_find hc hp (fun V1 Z1 hL => ?_)
  refine dx_keep (by omega) hL (fun V2 Z2 h0 => ?_)
  have hn := dn_opn (S := dn_sb D K P Q R c (dn_in 0)) (f := fun b => dn_sm w (dn_d b) 4) (fun b => dn_sm61 w b) 1296
  have hb := dn_b1296 (dn_sb D K P Q R c (dn_in 0))
  refine pk_eq (dn_op (dn_sb D K P Q R c (dn_in 0)) (fun b => dn_sm w (dn_d b) 4) 1296).2.1 0 (fun z => ?_) (fun z => ?_) rfl rfl (by omega) (by decide)
  · refine dy_inT a (br_f (by decide) (dy_opt rfl hc hp (by omega) (fun V3 => br_f (by decide) (br_f (by decide) ?_))))
    rcases dn_opi (S := dn_sb D K P Q R c (dn_in 0)) (f := fun b => dn_sm w (dn_d b) 4) (fun b => dn_sm61 w b) 1296 with ⟨y, _⟩ | ⟨y, _⟩
    · exact br_t (by rw [y]) ⟨rfl, dn_rel hc hp⟩
    · omega
  · rcases dn_opi (S := dn_sb D K P Q R c (dn_in 0)) (f := fun b => dn_sm w (dn_d b) 4) (fun b => dn_sm61 w b) 1296 with ⟨y, _⟩ | ⟨y1, y2, y3, y4⟩
    · rw [y] at z; exact absurd rfl z
    · refine dy_inT a (br_f (by decide) (dy_opt rfl hc hp (by omega) (fun V4 => br_f (by decide) (br_f (by decide) (br_f ?_ ⟨(h0 y1).symm, dn_rel hc hp⟩)))))
      rw [y4]
      exact Int32.ne_of_lt (dn_sm61 w _)
theorem i_vc_needless {k : Nat} {u : SX} {v : SY} (I : i_Rel k u v) (hk : k + 5 ≤ 2560) (v1 : Int32) : wpX_needless (fun r u' => wpY_needless (fun r' v' => r' = r ∧ i_Rel (k + 5) u' v') v v1) u v1 := by
  obtain ⟨c, W, F, D, K, P, Q, R, V, Z, V', rfl, rfl, hc, hp⟩ := I
  unfold wpX_needless wpY_needless
  refine dx_con (fun a => br_f (by decide) ?_) (fun a => br_t rfl (dy_inF a (br_t rfl ⟨rfl, dn_rel hc hp⟩)))
  obtain ⟨i, hi, rfl⟩ := dn_rc hc a
  have e : dn_sb D K P Q R c (bt ((((1 : Int32) <<< (nI c &&& 31)) - 1) &&& (((1 : Int32) <<< (nI i &&& 31)) ^^^ (-1)))) = dn_sb D K P Q R c (dn_in ((1 : Int32) <<< (nI i &&& 31))) := by
    apply dn_soc
    intro j hj
    rw [b_and, dn_all c (by omega) j (by omega), decide_eq_true hj, dn_not _ j (by omega), Bool.true_and]
    rfl
  refine dx_find hc hp (fun V1 Z1 hL => ?_)
  refine dx_find hc hp (fun V2 Z2 hL2 => ?_)
  refine br_c (fun z => ?_) (fun z => ?_)
  · refine dy_inT a (br_f (by decide) (nm_e (dy_cntOf hc hp (fun V3 => dy_count hc hp (fun V4 => ?_)))))
    rw [e]
    exact br_t z ⟨rfl, dn_rel hc hp⟩
  · refine dy_inT a (br_f (by decide) (nm_e (dy_cntOf hc hp (fun V3 => dy_count hc hp (fun V4 => ?_)))))
    rw [e]
    exact br_f z ⟨rfl, dn_rel hc hp⟩
theorem i_vc_blame {k : Nat} {u : SX} {v : SY} (I : i_Rel k u v) (hk : k + 5 ≤ 2560) : wpX_blame (fun r u' => wpY_blame (fun r' v' => r' = r ∧ i_Rel (k + 5) u' v') v) u := by
  obtain ⟨c, W, F, D, K, P, Q, R, V, Z, V', rfl, rfl, hc, hp⟩ := I
  unfold wpX_blame wpY_blame
  refine dx_find hc hp (fun V1 Z1 hL => ?_)
  refine pk_le (dn_cn (dn_sb D K P Q R c (dn_in 0)) 1296) 0 (fun z => ?_) (fun z => ?_) rfl rfl (dn_b1296 _) (by decide)
  · refine ⟨c + 1, dx_blame20 hc hp (fun F2 V2 Z2 b hb => ?_) c 0 (c + 1) _ V1 Z1 0 0 (by omega) (by omega) (fun j hj => b_0 j) (fun j hj => ?_)⟩
    · refine dy_cntOf hc hp (fun V3 => ?_)
      rw [dn_allS hc]
      refine pk_le (dn_cn (dn_sb D K P Q R c (dn_in 0)) 1296) 0 (fun _ => ?_) (fun y => absurd z (by omega)) rfl rfl (dn_b1296 _) (by decide)
      refine ⟨c + 1, dy_blame17 hc hp (fun V4 s hs => ⟨b_ext (fun j hj => (hs j hj).trans (hb j hj).symm), dn_rel hc hp⟩) c 0 (c + 1) V3 _ (by omega) (by omega) (fun j hj => ?_)⟩
      rw [dn_all c (by omega) j hj]
      show _ = (decide (j < c) && !false)
      rw [Bool.not_false, Bool.and_true]
    · rw [b_0, decide_eq_false (by omega), Bool.false_and]
  · refine dy_cntOf hc hp (fun V3 => ?_)
    rw [dn_allS hc]
    exact pk_le (dn_cn (dn_sb D K P Q R c (dn_in 0)) 1296) 0 (fun y => absurd z (by omega)) (fun _ => ⟨rfl, dn_rel hc hp⟩) rfl rfl (dn_b1296 _) (by decide)
