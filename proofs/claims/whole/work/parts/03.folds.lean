/-! pure: the folds over the solutions -/
/-- the least sum so far (61: none), how many have it, the first that has it -/
def dn_op (S : Nat → Bool) (f : Nat → Int32) : Nat → Int32 × Nat × Nat
  | 0 => (61, 0, 0)
  | a + 1 =>
    if S a = true then
      if f a < (dn_op S f a).1 then (f a, 1, a)
      else if f a = (dn_op S f a).1 then ((dn_op S f a).1, (dn_op S f a).2.1 + 1, (dn_op S f a).2.2)
      else dn_op S f a
    else dn_op S f a
theorem dn_opf {S : Nat → Bool} {f : Nat → Int32} {a : Nat} (h : S a = false) : dn_op S f (a + 1) = dn_op S f a := if_neg (by rw [h]; decide)
theorem dn_opl {S : Nat → Bool} {f : Nat → Int32} {a : Nat} (h : S a = true) (hl : f a < (dn_op S f a).1) : dn_op S f (a + 1) = (f a, 1, a) :=
  (if_pos h).trans (if_pos hl)
theorem dn_ope {S : Nat → Bool} {f : Nat → Int32} {a : Nat} (h : S a = true) (hl : ¬ f a < (dn_op S f a).1) (he : f a = (dn_op S f a).1) : dn_op S f (a + 1) = ((dn_op S f a).1, (dn_op S f a).2.1 + 1, (dn_op S f a).2.2) :=
  (if_pos h).trans ((if_neg hl).trans (if_pos he))
theorem dn_opg {S : Nat → Bool} {f : Nat → Int32} {a : Nat} (h : S a = true) (hl : ¬ f a < (dn_op S f a).1) (he : ¬ f a = (dn_op S f a).1) : dn_op S f (a + 1) = dn_op S f a :=
  (if_pos h).trans ((if_neg hl).trans (if_neg he))
/-- none yet, or the first of the least has the least sum -/
def dn_opI (S : Nat → Bool) (f : Nat → Int32) (a : Nat) : Prop :=
  (dn_op S f a = (61, 0, 0) ∧ dn_cn S a = 0) ∨ (0 < (dn_op S f a).2.1 ∧ (dn_op S f a).2.1 ≤ dn_cn S a ∧ (dn_op S f a).2.2 < a ∧ (dn_op S f a).1 = f (dn_op S f a).2.2)
theorem dn_opi {S : Nat → Bool} {f : Nat → Int32} (hf : ∀ a, f a < 61) : ∀ a, dn_opI S f a := by
  intro a
  induction a with
  | zero => exact Or.inl ⟨rfl, rfl⟩
  | succ a ih =>
    cases h : S a
    · unfold dn_opI
      rw [dn_opf h, dn_cnf h]
      rcases ih with z | ⟨z1, z2, z3, z4⟩
      · exact Or.inl z
      · exact Or.inr ⟨z1, z2, by omega, z4⟩
    · by_cases hl : f a < (dn_op S f a).1
      · unfold dn_opI
        rw [dn_opl h hl, dn_cnt h]
        exact Or.inr ⟨by show 0 < 1; omega, by show 1 ≤ _; omega, by show a < a + 1; omega, rfl⟩
      · rcases ih with ⟨z, _⟩ | ⟨z1, z2, z3, z4⟩
        · rw [z] at hl
          exact (hl (hf a)).elim
        · by_cases he : f a = (dn_op S f a).1
          · unfold dn_opI
            rw [dn_ope h hl he, dn_cnt h]
            exact Or.inr ⟨by show 0 < (dn_op S f a).2.1 + 1; omega, by show (dn_op S f a).2.1 + 1 ≤ _; omega, by show (dn_op S f a).2.2 < _; omega, z4⟩
          · unfold dn_opI
            rw [dn_opg h hl he, dn_cnt h]
            exact Or.inr ⟨z1, by omega, by omega, z4⟩
theorem dn_opn {S : Nat → Bool} {f : Nat → Int32} (hf : ∀ a, f a < 61) (a : Nat) : (dn_op S f a).2.1 ≤ dn_cn S a := by
  rcases dn_opi hf a with ⟨z, w⟩ | ⟨_, z, _⟩
  · rw [z, w]; exact Nat.le_refl 0
  · exact z
theorem dn_opp {S : Nat → Bool} {f : Nat → Int32} (hf : ∀ a, f a < 61) {a : Nat} (h : 0 < dn_cn S a) : 0 < (dn_op S f a).2.1 ∧ (dn_op S f a).2.2 < a ∧ (dn_op S f a).1 = f (dn_op S f a).2.2 := by
  rcases dn_opi (S := S) hf a with ⟨_, w⟩ | ⟨z1, _, z2, z3⟩
  · omega
  · exact ⟨z1, z2, z3⟩
/-- the values that a variable takes -/
def dn_ps (S : Nat → Bool) (v : Nat) : Nat → Int32
  | 0 => 0
  | a + 1 => if S a = true then dn_ps S v a ||| ((1 : Int32) <<< (nI (dn_d a v) &&& 31)) else dn_ps S v a
theorem dn_pst {S : Nat → Bool} {v a : Nat} (h : S a = true) : dn_ps S v (a + 1) = dn_ps S v a ||| ((1 : Int32) <<< (nI (dn_d a v) &&& 31)) := if_pos h
theorem dn_psf {S : Nat → Bool} {v a : Nat} (h : S a = false) : dn_ps S v (a + 1) = dn_ps S v a := if_neg (by rw [h]; decide)
/-- the solutions with value x at v -/
def dn_wx (S : Nat → Bool) (v x : Nat) : Nat → Bool := fun a => S a && decide (dn_d a v = x)
/-! what is left out on the way to the blamed ones; E says of a set of those that are in whether they have no solution -/
def dn_lo (E : (Nat → Bool) → Bool) : Nat → Nat → Bool
  | 0 => fun _ => false
  | i + 1 => if E (fun j => !(dn_lo E i j || decide (j = i))) = true then fun j => dn_lo E i j || decide (j = i) else dn_lo E i
theorem dn_lot {E : (Nat → Bool) → Bool} {i : Nat} (h : E (fun j => !(dn_lo E i j || decide (j = i))) = true) : dn_lo E (i + 1) = fun j => dn_lo E i j || decide (j = i) := if_pos h
theorem dn_lof {E : (Nat → Bool) → Bool} {i : Nat} (h : E (fun j => !(dn_lo E i j || decide (j = i))) = false) : dn_lo E (i + 1) = dn_lo E i := if_neg (by rw [h]; decide)
theorem dn_lob {E : (Nat → Bool) → Bool} : ∀ i j, i ≤ j → dn_lo E i j = false := by
  intro i
  induction i with
  | zero => intro _ _; rfl
  | succ i ih =>
    intro j hj
    cases h : E (fun j => !(dn_lo E i j || decide (j = i)))
    · rw [dn_lof h]; exact ih j (by omega)
    · rw [dn_lot h]
      show (dn_lo E i j || decide (j = i)) = false
      rw [ih j (by omega), decide_eq_false (by omega)]
      rfl
/-! where the search is stuck: no solution has the same digits up to s -/
def dn_no (D K P Q R : Nat → Int32) (c : Nat) (inc : Nat → Bool) (a s : Nat) : Prop := ∀ b, (∀ w, w ≤ s → dn_d b w = dn_d a w) → ¬ dn_so D K P Q R c inc b
theorem dn_noD {D K P Q R : Nat → Int32} {c : Nat} {inc : Nat → Bool} {a v s : Nat} (hv : v < 4) (hs : v ≤ s) (hf : bt (D v) (dn_d a v) = false) : dn_no D K P Q R c inc a s := by
  intro b hb z
  have h := z.1 v hv
  rw [hb v hs, hf] at h
  cases h
theorem dn_noC {D K P Q R : Nat → Int32} {c : Nat} {inc : Nat → Bool} {a i s : Nat} (hi : i < c) (hinc : inc i = true) (hp : dn_pr (K i) (P i) (Q i) (R i)) (hu : ∀ v, v < 4 → dn_us (K i) (P i) (Q i) (R i) v → v ≤ s) (hf : ¬ dn_hs (K i) (P i) (Q i) (R i) (dn_d a)) : dn_no D K P Q R c inc a s := by
  intro b hb z
  exact hf (dn_hc hp (fun v hv h => hb v (hu v hv h)) (z.2 i hi hinc))
/-- what stuckAt has found when the domains of the variables from v on are looked at -/
def dn_sD (D K P Q R : Nat → Int32) (c : Nat) (inc : Nat → Bool) (a v s : Nat) : Prop :=
  s ≤ 4 ∧ (s = 4 → ∀ w, v ≤ w → w < 4 → bt (D w) (dn_d a w) = true) ∧ (s < 4 → dn_no D K P Q R c inc a s)
/-- .. and when the constraints below i are -/
def dn_sC (D K P Q R : Nat → Int32) (c : Nat) (inc : Nat → Bool) (a i s : Nat) : Prop :=
  s ≤ 4 ∧ (s = 4 → (∀ w, w < 4 → bt (D w) (dn_d a w) = true) ∧ ∀ j, j < i → inc j = true → dn_hs (K j) (P j) (Q j) (R j) (dn_d a)) ∧ (s < 4 → dn_no D K P Q R c inc a s)
theorem dn_sD4 (D K P Q R : Nat → Int32) (c : Nat) (inc : Nat → Bool) (a : Nat) : dn_sD D K P Q R c inc a 4 4 :=
  ⟨by omega, fun _ w h1 h2 => by omega, fun h => by omega⟩
theorem dn_sDC {D K P Q R : Nat → Int32} {c : Nat} {inc : Nat → Bool} {a s : Nat} (h : dn_sD D K P Q R c inc a 0 s) : dn_sC D K P Q R c inc a 0 s :=
  ⟨h.1, fun e => ⟨fun w hw => h.2.1 e w (by omega) hw, fun j hj => by omega⟩, h.2.2⟩
theorem dn_sCe {D K P Q R : Nat → Int32} {c : Nat} {inc : Nat → Bool} {a s : Nat} (h : dn_sC D K P Q R c inc a c s) : s ≤ 4 ∧ (s = 4 → dn_sb D K P Q R c inc a = true) ∧ (s < 4 → dn_no D K P Q R c inc a s) :=
  ⟨h.1, fun e => dn_sbt.mpr (h.2.1 e), h.2.2⟩
/-- no solution in the rest of the block -/
theorem dn_skip {D K P Q R : Nat → Int32} {c : Nat} {inc : Nat → Bool} {a s : Nat} (hs : s < 4) (h : dn_no D K P Q R c inc a s) : ∀ b, a ≤ b → b < a - a % 6 ^ (3 - s) + 6 ^ (3 - s) → dn_sb D K P Q R c inc b = false := by
  intro b h1 h2
  apply dn_sbf.mpr
  exact h b (fun w hw => (dn_blk hs (dn_nx (Nat.pos_of_ne_zero (by simp)) h1 h2) w hw).symm)
