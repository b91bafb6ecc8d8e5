/-! the class: blame -/
noncomputable def dn_E (D K P Q R : Nat → Int32) (c : Nat) (inc : Nat → Bool) : Bool := decide (dn_cn (dn_sb D K P Q R c inc) 1296 = 0)
theorem dn_Ec {D K P Q R : Nat → Int32} {c : Nat} {inc jnc : Nat → Bool} (h : ∀ i, i < c → inc i = jnc i) : dn_cn (dn_sb D K P Q R c inc) 1296 = dn_cn (dn_sb D K P Q R c jnc) 1296 := by rw [dn_soc h]
theorem dx_blame20 {post : Int32 → SX → Prop} {W : Int32} {D K P Q R : Nat → Int32} {c : Nat} (hc : c ≤ 10) (hp : ∀ i, i < c → dn_pr (K i) (P i) (Q i) (R i)) (h : ∀ F V Z b, (∀ j, j < 32 → bt b j = (decide (j < c) && !dn_lo (dn_E D K P Q R c) c j)) → post b (nI c, W, F, D, K, P, Q, R, V, Z)) : ∀ k i n F V Z l b, i + k = c → k < n → (∀ j, j < 32 → bt l j = dn_lo (dn_E D K P Q R c) i j) → (∀ j, j < 32 → bt b j = (decide (j < i) && !dn_lo (dn_E D K P Q R c) i j)) → wX_blame_20 post n l b (nI i) (nI c) W F D K P Q R V Z := by
  intro k
  induction k with
  | zero =>
    intro i n F V Z l b hi hn hl hb
    obtain ⟨m, rfl⟩ : ∃ m, n = m + 1 := ⟨n - 1, by omega⟩
    obtain rfl : i = c := by omega
    exact br_t (nI_le (Nat.le_refl _) (by omega)) (h F V Z b hb)
  | succ k ih =>
    intro i n F V Z l b hi hn hl hb
    obtain ⟨m, rfl⟩ : ∃ m, n = m + 1 := ⟨n - 1, by omega⟩
    have hl' : ∀ j, j < 32 → bt (l ||| ((1 : Int32) <<< (nI i &&& 31))) j = (dn_lo (dn_E D K P Q R c) i j || decide (j = i)) := by
      intro j hj
      rw [b_or, hl j hj, dn_one i j (by omega) hj]
    have hb' : ∀ j, j < 32 → bt (b ||| ((1 : Int32) <<< (nI i &&& 31))) j = ((decide (j < i) && !dn_lo (dn_E D K P Q R c) i j) || decide (j = i)) := by
      intro j hj
      rw [b_or, hb j hj, dn_one i j (by omega) hj]
    have hcn := dn_cnb (dn_sb D K P Q R c (dn_in (l ||| ((1 : Int32) <<< (nI i &&& 31))))) 1296
    have hE : dn_cn (dn_sb D K P Q R c (dn_in (l ||| ((1 : Int32) <<< (nI i &&& 31))))) 1296 = dn_cn (dn_sb D K P Q R c (fun j => !(dn_lo (dn_E D K P Q R c) i j || decide (j = i)))) 1296 :=
      dn_Ec (fun j hj => congrArg (fun z => !z) (hl' j (by omega)))
    refine br_f (nI_ge (by omega) (by omega)) ?_
    refine dx_find hc hp (fun V' Z' _ => ?_)
    refine pk_eq (dn_cn (dn_sb D K P Q R c (dn_in (l ||| ((1 : Int32) <<< (nI i &&& 31))))) 1296) 0 (fun e => ?_) (fun e => ?_) rfl rfl (by omega) (by omega)
    · have hlo := dn_lot (E := dn_E D K P Q R c) (i := i) (decide_eq_true (hE.symm.trans e))
      refine nm_e (nm_r (nI_1 i) (ih (i + 1) m _ V' Z' _ b (by omega) (by omega) (fun j hj => ?_) (fun j hj => ?_)))
      · rw [hlo]; exact hl' j hj
      · rw [hlo, hb j hj]
        show _ = (decide (j < i + 1) && !(dn_lo (dn_E D K P Q R c) i j || decide (j = i)))
        by_cases z : j = i
        · rw [decide_eq_true z, decide_eq_false (by omega), Bool.or_true, Bool.false_and, Bool.not_true, Bool.and_false]
        · rw [decide_eq_false z, Bool.or_false]
          by_cases y : j < i
          · rw [decide_eq_true y, decide_eq_true (by omega)]
          · rw [decide_eq_false y, decide_eq_false (by omega)]
    · have hlo := dn_lof (E := dn_E D K P Q R c) (i := i) (decide_eq_false (fun z => e (hE.trans z)))
      refine nm_e (nm_r (nI_1 i) (ih (i + 1) m _ V' Z' l _ (by omega) (by omega) (fun j hj => ?_) (fun j hj => ?_)))
      · rw [hlo]; exact hl j hj
      · rw [hlo, hb' j hj]
        by_cases z : j = i
        · rw [decide_eq_true z, Bool.or_true, z, dn_lob i i (Nat.le_refl i), decide_eq_true (show i < i + 1 by omega)]
          rfl
        · rw [decide_eq_false z, Bool.or_false]
          by_cases y : j < i
          · rw [decide_eq_true y, decide_eq_true (by omega)]
          · rw [decide_eq_false y, decide_eq_false (by omega)]
