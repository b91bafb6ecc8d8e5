/-! pure: bits, digits, sums, what a constraint says, which variables it looks at -/
theorem dn_bt1 (j : Nat) : bt 1 j = decide (j = 0) := by
  rcases Nat.lt_or_ge j 32 with h | h
  · exact (by decide +kernel : ∀ j, j < 32 → bt 1 j = decide (j = 0)) j h
  · rw [b_big h, decide_eq_false (by omega)]
theorem dn_tst (x : Int32) (i : Nat) (hi : i < 31) : (x >>> (nI i &&& 31)) &&& 1 = if bt x i = true then 1 else 0 := by
  apply b_ext
  intro j hj
  rw [b_and, b_sshr i (by omega) x hj, dn_bt1]
  by_cases h0 : j = 0
  · subst h0
    rw [if_pos (by omega), Nat.add_zero]
    cases h : bt x i
    · rw [if_neg (by decide), b_0]; rfl
    · rw [if_pos rfl, dn_bt1]; rfl
  · rw [decide_eq_false h0, Bool.and_false]
    cases h : bt x i
    · rw [if_neg (by decide), b_0]
    · rw [if_pos rfl, dn_bt1, decide_eq_false h0]
theorem dn_tst0 (x : Int32) (i : Nat) (hi : i < 31) : (x >>> (nI i &&& 31)) &&& 1 = 0 ↔ bt x i = false := by
  rw [dn_tst x i hi]
  cases bt x i <;> simp
theorem dn_tst1 (x : Int32) (i : Nat) (hi : i < 31) : (x >>> (nI i &&& 31)) &&& 1 = 1 ↔ bt x i = true := by
  rw [dn_tst x i hi]
  cases bt x i <;> simp
theorem dn_one (i j : Nat) (hi : i < 32) (hj : j < 32) : bt ((1 : Int32) <<< (nI i &&& 31)) j = decide (j = i) := by
  rw [b_shl i hi 1 hj, dn_bt1]
  by_cases h : j = i
  · subst h; simp
  · rw [decide_eq_false h]
    by_cases h2 : i ≤ j
    · rw [decide_eq_false (by omega : ¬ j - i = 0), Bool.and_false]
    · rw [decide_eq_false h2, Bool.false_and]
theorem dn_all : ∀ n, n < 11 → ∀ j, j < 32 → bt (((1 : Int32) <<< (nI n &&& 31)) - 1) j = decide (j < n) := by decide +kernel
theorem dn_not (x : Int32) (j : Nat) (hj : j < 32) : bt (x ^^^ (-1)) j = !bt x j := by
  rw [b_xor, b_m1 j hj, Bool.xor_true]
/-! digits of a code -/
def dn_d (a v : Nat) : Nat := a / 6 ^ (3 - v) % 6
theorem dn_dlt (a v : Nat) : dn_d a v < 6 := Nat.mod_lt _ (by decide)
theorem dn_d3 (a : Nat) : dn_d a 3 = a % 6 := by show a / 6 ^ 0 % 6 = _; rw [Nat.pow_zero, Nat.div_one]
theorem dn_d2 (a : Nat) : dn_d a 2 = a / 6 % 6 := rfl
theorem dn_d1 (a : Nat) : dn_d a 1 = a / 36 % 6 := rfl
theorem dn_d0 {a : Nat} (h : a < 1296) : dn_d a 0 = a / 216 := by
  show a / 216 % 6 = _
  omega
theorem dn_blk {a b v : Nat} (hv : v < 4) (h : a / 6 ^ (3 - v) = b / 6 ^ (3 - v)) : ∀ w, w ≤ v → dn_d a w = dn_d b w := by
  intro w hw
  unfold dn_d
  rw [show 3 - w = (3 - v) + (v - w) by omega, Nat.pow_add, ← Nat.div_div_eq_div_mul, ← Nat.div_div_eq_div_mul, h]
theorem dn_nx {a b B : Nat} (hB : 0 < B) (h1 : a ≤ b) (h2 : b < a - a % B + B) : a / B = b / B := by
  have e := Nat.div_add_mod' a B
  have l := Nat.mod_lt a hB
  symm
  apply Nat.div_eq_of_lt_le
  · omega
  · rw [Nat.add_mul, Nat.one_mul]; omega
/-! the sum under a weighting -/
def dn_sm (w : Nat) (d : Nat → Nat) : Nat → Int32
  | 0 => 0
  | v + 1 => dn_sm w d v + (nI (w / 7 ^ v % 7) - 3) * nI (d v)
theorem dn_term : ∀ x, x < 7 → ∀ d, d < 6 → -15 ≤ ((nI x - 3) * nI d).toInt ∧ ((nI x - 3) * nI d).toInt ≤ 15 := by decide +kernel
theorem dn_smb (w : Nat) (d : Nat → Nat) (hd : ∀ v, d v < 6) : ∀ v : Nat, v ≤ 4 → -(15 * (v : Int)) ≤ (dn_sm w d v).toInt ∧ (dn_sm w d v).toInt ≤ 15 * (v : Int) := by
  intro v
  induction v with
  | zero =>
    intro _
    show -(15 * ((0 : Nat) : Int)) ≤ (0 : Int32).toInt ∧ (0 : Int32).toInt ≤ 15 * ((0 : Nat) : Int)
    exact ⟨by decide, by decide⟩
  | succ v ih =>
    intro hv
    have ⟨h1, h2⟩ := ih (by omega)
    have ⟨t1, t2⟩ := dn_term (w / 7 ^ v % 7) (Nat.mod_lt _ (by decide)) (d v) (hd v)
    have e : (dn_sm w d (v + 1)).toInt = (dn_sm w d v).toInt + ((nI (w / 7 ^ v % 7) - 3) * nI (d v)).toInt := by
      show (dn_sm w d v + (nI (w / 7 ^ v % 7) - 3) * nI (d v)).toInt = _
      rw [Int32.toInt_add]
      exact Int.bmod_eq_of_le (by omega) (by omega)
    rw [e]
    omega
theorem dn_sm60 (w a : Nat) : dn_sm w (dn_d a) 4 ≤ 60 := by
  have h := dn_smb w (dn_d a) (dn_dlt a) 4 (by omega)
  rw [Int32.le_iff_toInt_le, show (60 : Int32).toInt = 60 from by decide]
  omega
theorem dn_sm61 (w a : Nat) : dn_sm w (dn_d a) 4 < 61 := by
  have h := dn_smb w (dn_d a) (dn_dlt a) 4 (by omega)
  rw [Int32.lt_iff_toInt_lt, show (61 : Int32).toInt = 61 from by decide]
  omega
theorem dn_smc (w : Nat) {d e : Nat → Nat} : ∀ v, (∀ k, k < v → d k = e k) → dn_sm w d v = dn_sm w e v := by
  intro v
  induction v with
  | zero => intro _; rfl
  | succ v ih =>
    intro h
    show dn_sm w d v + _ * nI (d v) = dn_sm w e v + _ * nI (e v)
    rw [ih (fun k hk => h k (by omega)), h v (by omega)]
/-! different values, occurrences -/
def dn_df (p : Int32) (d : Nat → Nat) (k : Nat) : Prop := ∀ v, v < k → ∀ w, w < v → bt p v = true → bt p w = true → d v ≠ d w
def dn_oc (p : Int32) (x : Nat) (d : Nat → Nat) : Nat → Nat
  | 0 => 0
  | v + 1 => if bt p v = true ∧ d v = x then dn_oc p x d v + 1 else dn_oc p x d v
theorem dn_ocl (p : Int32) (x : Nat) (d : Nat → Nat) : ∀ v, dn_oc p x d v ≤ v := by
  intro v
  induction v with
  | zero => exact Nat.le_refl 0
  | succ v ih =>
    show (if bt p v = true ∧ d v = x then dn_oc p x d v + 1 else dn_oc p x d v) ≤ v + 1
    split <;> omega
theorem dn_occ (p : Int32) (x : Nat) {d e : Nat → Nat} : ∀ v, (∀ k, k < v → bt p k = true → d k = e k) → dn_oc p x d v = dn_oc p x e v := by
  intro v
  induction v with
  | zero => intro _; rfl
  | succ v ih =>
    intro h
    show (if bt p v = true ∧ d v = x then dn_oc p x d v + 1 else dn_oc p x d v) = (if bt p v = true ∧ e v = x then dn_oc p x e v + 1 else dn_oc p x e v)
    rw [ih (fun k hk => h k (by omega))]
    by_cases hb : bt p v = true
    · rw [h v (by omega) hb]
    · simp [hb]
theorem dn_dfc {p : Int32} {d e : Nat → Nat} {k : Nat} (h : ∀ v, v < k → bt p v = true → d v = e v) (H : dn_df p d k) : dn_df p e k := by
  intro v hv w hw bv bw
  rw [← h v hv bv, ← h w (by omega) bw]
  exact H v hv w hw bv bw
/-! proper constraints, what they say, what they look at -/
def dn_rg (x a b : Int32) : Prop := a ≤ x ∧ x ≤ b
theorem dn_rn {x B : Int32} {n : Nat} (h : dn_rg x 0 B) (hB : B.toInt = n) : ∃ j : Nat, j ≤ n ∧ x = nI j := nI_of2 hB (Int32.not_lt.mpr h.1) h.2
def dn_pr (k p q r : Int32) : Prop :=
  if k = 0 then dn_rg p 0 2400 ∧ dn_rg q (-60) 60
  else if k = 1 then dn_rg p 0 2400 ∧ dn_rg q (-60) 60
  else if k = 2 then dn_rg p 0 15
  else if k = 3 then dn_rg p 0 3 ∧ dn_rg q 0 3 ∧ dn_rg r 0 46655
  else if k = 4 then dn_rg p 0 3 ∧ dn_rg q 0 3 ∧ dn_rg r 0 3
  else if k = 5 then dn_rg p 0 23 ∧ dn_rg q 0 23
  else if k = 6 then dn_rg p 0 3 ∧ dn_rg q 0 3 ∧ dn_rg r 0 5
  else if k = 7 then dn_rg p 0 15 ∧ dn_rg q 0 4 ∧ dn_rg r 0 5
  else if k = 8 then dn_rg p 0 3 ∧ dn_rg q 0 3 ∧ dn_rg r 0 15
  else False
def dn_hs (k p q r : Int32) (d : Nat → Nat) : Prop :=
  if k = 0 then dn_sm p.toNatClampNeg d 4 ≤ q
  else if k = 1 then dn_sm p.toNatClampNeg d 4 = q
  else if k = 2 then dn_df p d 4
  else if k = 3 then d p.toNatClampNeg = r.toNatClampNeg / 6 ^ d q.toNatClampNeg % 6
  else if k = 4 then d p.toNatClampNeg * d q.toNatClampNeg = d r.toNatClampNeg
  else if k = 5 then (d (p.toNatClampNeg / 6) = p.toNatClampNeg % 6 ↔ q.toNatClampNeg % 6 ≤ d (q.toNatClampNeg / 6))
  else if k = 6 then d q.toNatClampNeg + r.toNatClampNeg ≤ d p.toNatClampNeg ∨ d p.toNatClampNeg + r.toNatClampNeg ≤ d q.toNatClampNeg
  else if k = 7 then nI (dn_oc p r.toNatClampNeg d 4) = q
  else d p.toNatClampNeg < d q.toNatClampNeg ∨ (d p.toNatClampNeg = d q.toNatClampNeg ∧ d (r.toNatClampNeg % 4) ≤ d (r.toNatClampNeg / 4))
def dn_us (k p q r : Int32) (v : Nat) : Prop :=
  if k = 0 then True
  else if k = 1 then True
  else if k = 2 then bt p v = true
  else if k = 3 then v = p.toNatClampNeg ∨ v = q.toNatClampNeg
  else if k = 4 then v = p.toNatClampNeg ∨ v = q.toNatClampNeg ∨ v = r.toNatClampNeg
  else if k = 5 then v = p.toNatClampNeg / 6 ∨ v = q.toNatClampNeg / 6
  else if k = 6 then v = p.toNatClampNeg ∨ v = q.toNatClampNeg
  else if k = 7 then bt p v = true
  else v = p.toNatClampNeg ∨ v = q.toNatClampNeg ∨ v = r.toNatClampNeg % 4 ∨ v = r.toNatClampNeg / 4
/-- the nine kinds of a proper constraint -/
theorem dn_kinds {k p q r : Int32} (h : dn_pr k p q r) : k = 0 ∨ k = 1 ∨ k = 2 ∨ k = 3 ∨ k = 4 ∨ k = 5 ∨ k = 6 ∨ k = 7 ∨ k = 8 := by
  unfold dn_pr at h
  split at h
  · simp_all
  split at h
  · simp_all
  split at h
  · simp_all
  split at h
  · simp_all
  split at h
  · simp_all
  split at h
  · simp_all
  split at h
  · simp_all
  split at h
  · simp_all
  split at h
  · simp_all
  · exact h.elim
theorem dn_rcl {x B : Int32} {n : Nat} (h : dn_rg x 0 B) (hB : B.toInt = n) (hn : n < 2 ^ 31) : x.toNatClampNeg ≤ n ∧ x = nI x.toNatClampNeg := by
  obtain ⟨j, hj, rfl⟩ := dn_rn h hB
  rw [nI_clamp (by omega)]
  exact ⟨hj, rfl⟩
theorem dn_hc {k p q r : Int32} {d e : Nat → Nat} (hp : dn_pr k p q r) (h : ∀ v, v < 4 → dn_us k p q r v → d v = e v) : dn_hs k p q r d → dn_hs k p q r e := by
  rcases dn_kinds hp with rfl | rfl | rfl | rfl | rfl | rfl | rfl | rfl | rfl
  · simp [dn_us] at h
    simp only [dn_hs, if_true]
    rw [dn_smc _ 4 h]
    exact id
  · simp [dn_us] at h
    simp [dn_hs]
    rw [dn_smc _ 4 h]
    exact id
  · simp [dn_us] at h
    simp [dn_hs]
    exact dn_dfc h
  · simp [dn_us] at h
    simp [dn_pr] at hp
    have a := (dn_rcl hp.1 (n := 3) (by decide) (by decide)).1
    have b := (dn_rcl hp.2.1 (n := 3) (by decide) (by decide)).1
    simp [dn_hs]
    rw [h _ (by omega) (Or.inl rfl), h _ (by omega) (Or.inr rfl)]
    exact id
  · simp [dn_us] at h
    simp [dn_pr] at hp
    have a := (dn_rcl hp.1 (n := 3) (by decide) (by decide)).1
    have b := (dn_rcl hp.2.1 (n := 3) (by decide) (by decide)).1
    have c := (dn_rcl hp.2.2 (n := 3) (by decide) (by decide)).1
    simp [dn_hs]
    rw [h _ (by omega) (Or.inl rfl), h _ (by omega) (Or.inr (Or.inl rfl)), h _ (by omega) (Or.inr (Or.inr rfl))]
    exact id
  · simp [dn_us] at h
    simp [dn_pr] at hp
    have a := (dn_rcl hp.1 (n := 23) (by decide) (by decide)).1
    have b := (dn_rcl hp.2 (n := 23) (by decide) (by decide)).1
    simp [dn_hs]
    rw [h _ (by omega) (Or.inl rfl), h _ (by omega) (Or.inr rfl)]
    exact id
  · simp [dn_us] at h
    simp [dn_pr] at hp
    have a := (dn_rcl hp.1 (n := 3) (by decide) (by decide)).1
    have b := (dn_rcl hp.2.1 (n := 3) (by decide) (by decide)).1
    simp [dn_hs]
    rw [h _ (by omega) (Or.inl rfl), h _ (by omega) (Or.inr rfl)]
    exact id
  · simp [dn_us] at h
    simp [dn_hs]
    rw [dn_occ _ _ 4 h]
    exact id
  · simp [dn_us] at h
    simp [dn_pr] at hp
    have a := (dn_rcl hp.1 (n := 3) (by decide) (by decide)).1
    have b := (dn_rcl hp.2.1 (n := 3) (by decide) (by decide)).1
    have c := (dn_rcl hp.2.2 (n := 15) (by decide) (by decide)).1
    simp [dn_hs]
    rw [h _ (by omega) (Or.inl rfl), h _ (by omega) (Or.inr (Or.inl rfl)), h _ (by omega) (Or.inr (Or.inr (Or.inl rfl))), h _ (by omega) (Or.inr (Or.inr (Or.inr rfl)))]
    exact id
/-! solutions -/
def dn_so (D K P Q R : Nat → Int32) (c : Nat) (inc : Nat → Bool) (a : Nat) : Prop :=
  (∀ v, v < 4 → bt (D v) (dn_d a v) = true) ∧ (∀ i, i < c → inc i = true → dn_hs (K i) (P i) (Q i) (R i) (dn_d a))
noncomputable def dn_sb (D K P Q R : Nat → Int32) (c : Nat) (inc : Nat → Bool) (a : Nat) : Bool := @decide (dn_so D K P Q R c inc a) (Classical.propDecidable _)
theorem dn_sbt {D K P Q R : Nat → Int32} {c : Nat} {inc : Nat → Bool} {a : Nat} : dn_sb D K P Q R c inc a = true ↔ dn_so D K P Q R c inc a := @decide_eq_true_iff _ (Classical.propDecidable _)
theorem dn_sbf {D K P Q R : Nat → Int32} {c : Nat} {inc : Nat → Bool} {a : Nat} : dn_sb D K P Q R c inc a = false ↔ ¬ dn_so D K P Q R c inc a := @decide_eq_false_iff_not _ (Classical.propDecidable _)
theorem dn_soc {D K P Q R : Nat → Int32} {c : Nat} {inc jnc : Nat → Bool} (h : ∀ i, i < c → inc i = jnc i) : dn_sb D K P Q R c inc = dn_sb D K P Q R c jnc := by
  funext a
  have e : dn_so D K P Q R c inc a ↔ dn_so D K P Q R c jnc a := by
    constructor
    · exact fun z => ⟨z.1, fun i hi hj => z.2 i hi ((h i hi).trans hj)⟩
    · exact fun z => ⟨z.1, fun i hi hj => z.2 i hi ((h i hi).symm.trans hj)⟩
  rw [Bool.eq_iff_iff, dn_sbt, dn_sbt]
  exact e
/-- the number of solutions below a -/
def dn_cn (S : Nat → Bool) : Nat → Nat
  | 0 => 0
  | a + 1 => if S a = true then dn_cn S a + 1 else dn_cn S a
theorem dn_cnt {S : Nat → Bool} {a : Nat} (h : S a = true) : dn_cn S (a + 1) = dn_cn S a + 1 := if_pos h
theorem dn_cnf {S : Nat → Bool} {a : Nat} (h : S a = false) : dn_cn S (a + 1) = dn_cn S a := if_neg (by rw [h]; decide)
theorem dn_cns (S : Nat → Bool) (a : Nat) : dn_cn S a ≤ dn_cn S (a + 1) := by
  cases h : S a
  · rw [dn_cnf h]; exact Nat.le_refl _
  · rw [dn_cnt h]; omega
theorem dn_cnm (S : Nat → Bool) {a b : Nat} (h : a ≤ b) : dn_cn S a ≤ dn_cn S b := by
  induction b with
  | zero => rw [Nat.le_zero.mp h]; exact Nat.le_refl _
  | succ b ih =>
    rcases Nat.lt_or_ge b a with z | z
    · rw [show a = b + 1 by omega]; exact Nat.le_refl _
    · exact Nat.le_trans (ih z) (dn_cns S b)
theorem dn_cnl (S : Nat → Bool) {a b : Nat} (h : a < b) (hs : S a = true) : dn_cn S a < dn_cn S b := by
  have := dn_cnm S (show a + 1 ≤ b from h)
  rw [dn_cnt hs] at this
  omega
theorem dn_cnb (S : Nat → Bool) (a : Nat) : dn_cn S a ≤ a := by
  induction a with
  | zero => exact Nat.le_refl 0
  | succ a ih =>
    cases h : S a
    · rw [dn_cnf h]; omega
    · rw [dn_cnt h]; omega
theorem dn_cn0 {S : Nat → Bool} {a : Nat} (h : ∀ b, b < a → S b = false) : dn_cn S a = 0 := by
  induction a with
  | zero => rfl
  | succ a ih => rw [dn_cnf (h a (by omega)), ih (fun b hb => h b (by omega))]
/-- the list of the solutions below k, each at its place -/
def dn_Li (S : Nat → Bool) (k : Nat) (f : Nat → Int32) : Prop := ∀ a, a < k → S a = true → f (dn_cn S a) = nI a
theorem dn_Lit {S : Nat → Bool} {k : Nat} {f : Nat → Int32} (h : dn_Li S k f) : dn_Li S (k + 1) (upd f (dn_cn S k) (nI k)) := by
  intro a ha hs
  rcases Nat.lt_or_ge a k with z | z
  · have := dn_cnl S z hs
    rw [pk_un (by omega)]
    exact h a z hs
  · rw [show a = k by omega, pk_us]
theorem dn_Lif {S : Nat → Bool} {k : Nat} {f : Nat → Int32} (h : dn_Li S k f) (hk : S k = false) : dn_Li S (k + 1) f := by
  intro a ha hs
  rcases Nat.lt_or_ge a k with z | z
  · exact h a z hs
  · rw [show a = k by omega, hk] at hs
    cases hs
/-- the first solution, if there is one -/
theorem dn_fst {S : Nat → Bool} {k : Nat} (h : 0 < dn_cn S k) : ∃ a, a < k ∧ S a = true ∧ dn_cn S a = 0 ∧ ∀ b, b < a → S b = false := by
  have e : ∃ a, a < k ∧ S a = true := by
    apply Classical.byContradiction
    intro z
    rw [dn_cn0 (fun b hb => by
      cases hs : S b
      · rfl
      · exact (z ⟨b, hb, hs⟩).elim)] at h
    exact Nat.lt_irrefl 0 h
  obtain ⟨a, ⟨ha, hs⟩, hm⟩ := pk_least _ e
  have hf : ∀ b, b < a → S b = false := fun b hb => by
    cases z : S b
    · rfl
    · exact (hm b hb ⟨by omega, z⟩).elim
  exact ⟨a, ha, hs, dn_cn0 hf, hf⟩
