/-! the class: its small methods -/
theorem dx_in {post : Int32 → Prop} {x a b : Int32} (h1 : dn_rg x a b → post 1) (h0 : ¬ dn_rg x a b → post 0) : wpX_isWithin post x a b :=
  br_c (fun h => h0 (fun z => Int32.not_le.mpr h z.1)) (fun h => br_c (fun g => h0 (fun z => Int32.not_le.mpr g z.2)) (fun g => h1 ⟨Int32.not_lt.mp h, Int32.not_lt.mp g⟩))
theorem dx_var {post : Int32 → Prop} {x : Int32} (h1 : dn_rg x 0 3 → post 1) (h0 : ¬ dn_rg x 0 3 → post 0) : wpX_isVariable post x := by
  unfold wpX_isVariable
  exact dx_in (fun h => ⟨rfl, h1 h⟩) (fun h => ⟨rfl, h0 h⟩)
theorem dx_wei {post : Int32 → Prop} {x : Int32} (h1 : dn_rg x 0 2400 → post 1) (h0 : ¬ dn_rg x 0 2400 → post 0) : wpX_isWeighting post x := by
  unfold wpX_isWeighting
  exact dx_in (fun h => ⟨rfl, h1 h⟩) (fun h => ⟨rfl, h0 h⟩)
theorem dx_vset {post : Int32 → Prop} {x : Int32} (h1 : dn_rg x 0 15 → post 1) (h0 : ¬ dn_rg x 0 15 → post 0) : wpX_isVariableSet post x := by
  unfold wpX_isVariableSet
  exact dx_in (fun h => ⟨rfl, h1 h⟩) (fun h => ⟨rfl, h0 h⟩)
theorem dx_vval {post : Int32 → Prop} {x : Int32} (h1 : dn_rg x 0 23 → post 1) (h0 : ¬ dn_rg x 0 23 → post 0) : wpX_isVariableAndValue post x := by
  unfold wpX_isVariableAndValue
  exact dx_in (fun h => ⟨rfl, h1 h⟩) (fun h => ⟨rfl, h0 h⟩)
theorem dx_con {post : Int32 → Prop} {C W F : Int32} {D K P Q R V Z : Nat → Int32} {x : Int32} (h1 : dn_rg x 0 (C - 1) → post 1) (h0 : ¬ dn_rg x 0 (C - 1) → post 0) : wpX_isConstraint post (C, W, F, D, K, P, Q, R, V, Z) x := by
  unfold wpX_isConstraint
  exact dx_in (fun h => ⟨rfl, h1 h⟩) (fun h => ⟨rfl, h0 h⟩)
theorem dn_pr0 (p q r : Int32) : dn_pr 0 p q r = (dn_rg p 0 2400 ∧ dn_rg q (-60) 60) := by simp [dn_pr]
theorem dn_pr1 (p q r : Int32) : dn_pr 1 p q r = (dn_rg p 0 2400 ∧ dn_rg q (-60) 60) := by simp [dn_pr]
theorem dn_pr2 (p q r : Int32) : dn_pr 2 p q r = dn_rg p 0 15 := by simp [dn_pr]
theorem dn_pr3 (p q r : Int32) : dn_pr 3 p q r = (dn_rg p 0 3 ∧ dn_rg q 0 3 ∧ dn_rg r 0 46655) := by simp [dn_pr]
theorem dn_pr4 (p q r : Int32) : dn_pr 4 p q r = (dn_rg p 0 3 ∧ dn_rg q 0 3 ∧ dn_rg r 0 3) := by simp [dn_pr]
theorem dn_pr5 (p q r : Int32) : dn_pr 5 p q r = (dn_rg p 0 23 ∧ dn_rg q 0 23) := by simp [dn_pr]
theorem dn_pr6 (p q r : Int32) : dn_pr 6 p q r = (dn_rg p 0 3 ∧ dn_rg q 0 3 ∧ dn_rg r 0 5) := by simp [dn_pr]
theorem dn_pr7 (p q r : Int32) : dn_pr 7 p q r = (dn_rg p 0 15 ∧ dn_rg q 0 4 ∧ dn_rg r 0 5) := by simp [dn_pr]
theorem dn_pr8 (p q r : Int32) : dn_pr 8 p q r = (dn_rg p 0 3 ∧ dn_rg q 0 3 ∧ dn_rg r 0 15) := by simp [dn_pr]
theorem dx_proper {post : Int32 → Prop} {k p q r : Int32} (h1 : dn_pr k p q r → post 1) (h0 : ¬ dn_pr k p q r → post 0) : wpX_isProper post k p q r := by
  unfold wpX_isProper
  refine br_c (fun h => h0 (fun z => ?_)) (fun h => br_c (fun g => h0 (fun z => ?_)) (fun g => ?_))
  · rcases dn_kinds z with rfl | rfl | rfl | rfl | rfl | rfl | rfl | rfl | rfl <;> exact absurd h (by decide)
  · rcases dn_kinds z with rfl | rfl | rfl | rfl | rfl | rfl | rfl | rfl | rfl <;> exact absurd g (by decide)
  refine br_c (fun e => ?_) (fun e0 => ?_)
  · subst e
    rw [dn_pr0] at h1 h0
    unfold wX_isProper_52
    exact dx_wei (fun a => br_f (by decide) (dx_in (fun b => br_f (by decide) (h1 ⟨a, b⟩)) (fun b => br_t rfl (h0 (fun z => b z.2))))) (fun a => br_t rfl (h0 (fun z => a z.1)))
  refine br_c (fun e => ?_) (fun e1 => ?_)
  · subst e
    rw [dn_pr1] at h1 h0
    unfold wX_isProper_52
    exact dx_wei (fun a => br_f (by decide) (dx_in (fun b => br_f (by decide) (h1 ⟨a, b⟩)) (fun b => br_t rfl (h0 (fun z => b z.2))))) (fun a => br_t rfl (h0 (fun z => a z.1)))
  refine br_c (fun e => ?_) (fun e2 => ?_)
  · subst e
    rw [dn_pr2] at h1 h0
    exact dx_vset (fun a => ⟨rfl, h1 a⟩) (fun a => ⟨rfl, h0 a⟩)
  refine br_c (fun e => ?_) (fun e3 => ?_)
  · subst e
    rw [dn_pr3] at h1 h0
    exact dx_var (fun a => br_f (by decide) (dx_var (fun b => br_f (by decide) (dx_in (fun c => br_f (by decide) (h1 ⟨a, b, c⟩)) (fun c => br_t rfl (h0 (fun z => c z.2.2))))) (fun b => br_t rfl (h0 (fun z => b z.2.1))))) (fun a => br_t rfl (h0 (fun z => a z.1)))
  refine br_c (fun e => ?_) (fun e4 => ?_)
  · subst e
    rw [dn_pr4] at h1 h0
    exact dx_var (fun a => br_f (by decide) (dx_var (fun b => br_f (by decide) (dx_var (fun c => br_f (by decide) (h1 ⟨a, b, c⟩)) (fun c => br_t rfl (h0 (fun z => c z.2.2))))) (fun b => br_t rfl (h0 (fun z => b z.2.1))))) (fun a => br_t rfl (h0 (fun z => a z.1)))
  refine br_c (fun e => ?_) (fun e5 => ?_)
  · subst e
    rw [dn_pr5] at h1 h0
    exact dx_vval (fun a => br_f (by decide) (dx_vval (fun b => br_f (by decide) (h1 ⟨a, b⟩)) (fun b => br_t rfl (h0 (fun z => b z.2))))) (fun a => br_t rfl (h0 (fun z => a z.1)))
  refine br_c (fun e => ?_) (fun e6 => ?_)
  · subst e
    rw [dn_pr6] at h1 h0
    exact dx_var (fun a => br_f (by decide) (dx_var (fun b => br_f (by decide) (dx_in (fun c => br_f (by decide) (h1 ⟨a, b, c⟩)) (fun c => br_t rfl (h0 (fun z => c z.2.2))))) (fun b => br_t rfl (h0 (fun z => b z.2.1))))) (fun a => br_t rfl (h0 (fun z => a z.1)))
  refine br_c (fun e => ?_) (fun e7 => ?_)
  · subst e
    rw [dn_pr7] at h1 h0
    exact dx_vset (fun a => br_f (by decide) (dx_in (fun b => br_f (by decide) (dx_in (fun c => br_f (by decide) (h1 ⟨a, b, c⟩)) (fun c => br_t rfl (h0 (fun z => c z.2.2))))) (fun b => br_t rfl (h0 (fun z => b z.2.1))))) (fun a => br_t rfl (h0 (fun z => a z.1)))
  refine br_c (fun e => ?_) (fun e8 => trivial)
  subst e
  rw [dn_pr8] at h1 h0
  exact dx_var (fun a => br_f (by decide) (dx_var (fun b => br_f (by decide) (dx_in (fun c => br_f (by decide) (h1 ⟨a, b, c⟩)) (fun c => br_t rfl (h0 (fun z => c z.2.2))))) (fun b => br_t rfl (h0 (fun z => b z.2.1))))) (fun a => br_t rfl (h0 (fun z => a z.1)))
/-! looking at a code -/
def dn_V (a : Nat) (V : Nat → Int32) : Prop := ∀ j, j < 4 → V j = nI (dn_d a j)
theorem dx_look4 {post : SX → Prop} {C W F : Int32} {D K P Q R Z : Nat → Int32} {a : Nat} (ha : a < 1296) (h : ∀ V', dn_V a V' → post (C, W, F, D, K, P, Q, R, V', Z)) : ∀ v n (V : Nat → Int32), v ≤ 4 → v < n → (∀ j, v ≤ j → j < 4 → V j = nI (dn_d a j)) → wX_lookAt_4 post C W F n (nI (a / 6 ^ (4 - v))) (nI v + (-1)) D K P Q R V Z := by
  intro v
  induction v with
  | zero =>
    intro n V _ hn hV
    obtain ⟨m, rfl⟩ : ∃ m, n = m + 1 := ⟨n - 1, by omega⟩
    exact br_t (by decide) (h V (fun j hj => hV j (by omega) hj))
  | succ v ih =>
    intro n V hv hn hV
    obtain ⟨m, rfl⟩ : ∃ m, n = m + 1 := ⟨n - 1, by omega⟩
    have hq : a / 6 ^ (3 - v) < 2 ^ 31 := Nat.lt_of_le_of_lt (Nat.div_le_self _ _) (by omega)
    rw [pk_m1, show 4 - (v + 1) = 3 - v by omega]
    refine br_f (nI_pos (by omega)) ⟨by decide, vp_in_nI (by omega) (by decide), nm_r (e' := upd V v (nI (dn_d a v))) ?_ ⟨by decide, nm_r (e' := nI (a / 6 ^ (4 - v))) ?_ (nm_e (ih m _ (by omega) (by omega) ?_))⟩⟩
    · rw [nI_clamp (by omega)]
      exact congrArg (upd V v) (pk_rem (d := 6) hq (by decide) (by decide))
    · refine (pk_div (d := 6) hq (by decide) (by decide)).trans (congrArg nI ?_)
      rw [Nat.div_div_eq_div_mul, ← Nat.pow_succ, show (3 - v).succ = 4 - v by omega]
    · intro j h1 h2
      by_cases e : j = v
      · subst e; exact pk_us
      · rw [pk_un e]; exact hV j (by omega) h2
theorem dx_look {post : SX → Prop} {C W F : Int32} {D K P Q R V Z : Nat → Int32} {a : Nat} (ha : a < 1296) (h : ∀ V', dn_V a V' → post (C, W, F, D, K, P, Q, R, V', Z)) : wpX_lookAt post (C, W, F, D, K, P, Q, R, V, Z) (nI a) := by
  have t := dx_look4 ha h 4 5 V (by omega) (by omega) (fun j h1 h2 => by omega)
  rw [show 4 - 4 = 0 from rfl, Nat.pow_zero, Nat.div_one] at t
  exact ⟨5, t⟩
/-! the sum, differences, digits, occurrences -/
theorem dx_sum7 {post : Int32 → Prop} {C W F : Int32} {D K P Q R V Z : Nat → Int32} {w : Nat} {d : Nat → Nat} (hw : w < 2 ^ 31) (hV : ∀ j, j < 4 → V j = nI (d j)) (h : post (dn_sm w d 4)) : ∀ k v n, v + k = 4 → k < n → wX_sumUnder_7 post C W F D K P Q R V Z n (nI (w / 7 ^ v)) (dn_sm w d v) (nI v) := by
  intro k
  induction k with
  | zero =>
    intro v n hv hn
    obtain ⟨m, rfl⟩ : ∃ m, n = m + 1 := ⟨n - 1, by omega⟩
    rw [show v = 4 by omega]
    exact br_t (nI_le (a := 4) (b := 4) (by decide) (by decide)) h
  | succ k ih =>
    intro v n hv hn
    obtain ⟨m, rfl⟩ : ∃ m, n = m + 1 := ⟨n - 1, by omega⟩
    have hq : w / 7 ^ v < 2 ^ 31 := Nat.lt_of_le_of_lt (Nat.div_le_self _ _) hw
    refine br_f (nI_ge (b := 4) (by omega) (by decide)) ⟨by decide, vp_in_nI (by omega) (by decide), nm_r (e' := dn_sm w d (v + 1)) ?_ ⟨by decide, nm_r (e' := nI (w / 7 ^ (v + 1))) ?_ (nm_r (nI_1 v) (ih (v + 1) m (by omega) (by omega)))⟩⟩
    · rw [nI_clamp (by omega), hV v (by omega)]
      exact congrArg (fun z => dn_sm w d v + (z - 3) * nI (d v)) (pk_rem (d := 7) hq (by decide) (by decide))
    · refine (pk_div (d := 7) hq (by decide) (by decide)).trans (congrArg nI ?_)
      rw [Nat.div_div_eq_div_mul, ← Nat.pow_succ]
theorem dx_sum {post : Int32 → Prop} {C W F : Int32} {D K P Q R V Z : Nat → Int32} {w : Nat} {d : Nat → Nat} (hw : w < 2 ^ 31) (hV : ∀ j, j < 4 → V j = nI (d j)) (h : post (dn_sm w d 4)) : wpX_sumUnder post (C, W, F, D, K, P, Q, R, V, Z) (nI w) := by
  have t := dx_sum7 (C := C) (W := W) (F := F) (D := D) (K := K) (P := P) (Q := Q) (R := R) (Z := Z) hw hV h 4 0 5 (by omega) (by omega)
  rw [Nat.pow_zero, Nat.div_one] at t
  exact ⟨5, t⟩
