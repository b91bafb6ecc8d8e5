section
/-! pasted from the rows to paste: stores, numbers, branches by naturals, bits -/
theorem pk_us {f : Nat → Int32} {k : Nat} {x : Int32} : upd f k x k = x := if_pos rfl
theorem pk_un {f : Nat → Int32} {k j : Nat} {x : Int32} (h : j ≠ k) : upd f k x j = f j := if_neg h
theorem pk_sub {a b : Nat} (h : b ≤ a) : nI a - nI b = nI (a - b) := by
  obtain ⟨c, rfl⟩ : ∃ c, a = c + b := ⟨a - b, by omega⟩
  rw [← nI_add, Int32.add_sub_cancel, Nat.add_sub_cancel]
theorem pk_m1 (n : Nat) : nI (n + 1) + (-1) = nI n := by
  rw [← nI_1, Int32.add_assoc, show (1 : Int32) + (-1) = 0 from rfl, Int32.add_zero]
theorem pk_mul (a b : Nat) : nI a * nI b = nI (a * b) := (Int32.ofNat_mul a b).symm
theorem pk_div {a d : Nat} (ha : a < 2 ^ 31) (h0 : 0 < d) (hd : d < 2 ^ 31) : nI a / nI d = nI (a / d) := by
  apply Int32.toInt_inj.mp
  rw [lg_idiv_nonneg (by rw [nI_toInt ha]; omega) (by rw [nI_toInt hd]; omega), nI_toInt ha, nI_toInt hd, nI_toInt (Nat.lt_of_le_of_lt (Nat.div_le_self a d) ha)]
  first | rfl | exact (Int.natCast_ediv _ _).symm
theorem pk_rem {a d : Nat} (ha : a < 2 ^ 31) (h0 : 0 < d) (hd : d < 2 ^ 31) : nI a - nI a / nI d * nI d = nI (a % d) := by
  rw [pk_div ha h0 hd, pk_mul, pk_sub (Nat.div_mul_le_self a d)]
  exact congrArg nI (by have := Nat.div_add_mod' a d; omega)
theorem pk_sub_toInt {a b : Nat} (ha : a < 2 ^ 30) (hb : b < 2 ^ 30) : (nI a - nI b).toInt = (a : Int) - b := by
  rw [Int32.toInt_sub, nI_toInt (by omega), nI_toInt (by omega)]
  exact Int.bmod_eq_of_le (by omega) (by omega)
theorem pk_ix (x : Int32) {n : Nat} (hn : n < 2 ^ 31) : x < 0 ∨ nI n ≤ x ∨ ∃ j : Nat, j < n ∧ x = nI j := by
  by_cases h : x < 0
  · exact Or.inl h
  · obtain ⟨j, hj, rfl⟩ := nI_of h
    by_cases h2 : j < n
    · exact Or.inr (Or.inr ⟨j, h2, rfl⟩)
    · exact Or.inr (Or.inl (nI_le (by omega) hj))
theorem pk_le {x y : Int32} {A B : Prop} (a b : Nat) (f : a ≤ b → A) (g : b < a → B) (hx : x = nI a := by rfl) (hy : y = nI b := by rfl) (ha : a < 2 ^ 31 := by omega) (hb : b < 2 ^ 31 := by omega) : (x ≤ y → A) ∧ (¬ x ≤ y → B) := by
  subst hx hy
  rw [nI_leI ha hb]
  exact ⟨f, fun z => g (by omega)⟩
theorem pk_lt {x y : Int32} {A B : Prop} (a b : Nat) (f : a < b → A) (g : b ≤ a → B) (hx : x = nI a := by rfl) (hy : y = nI b := by rfl) (ha : a < 2 ^ 31 := by omega) (hb : b < 2 ^ 31 := by omega) : (x < y → A) ∧ (¬ x < y → B) := by
  subst hx hy
  rw [nI_ltI ha hb]
  exact ⟨f, fun z => g (by omega)⟩
theorem pk_eq {x y : Int32} {A B : Prop} (a b : Nat) (f : a = b → A) (g : a ≠ b → B) (hx : x = nI a := by rfl) (hy : y = nI b := by rfl) (ha : a < 2 ^ 31 := by omega) (hb : b < 2 ^ 31 := by omega) : (x = y → A) ∧ (¬ x = y → B) := by
  subst hx hy
  rw [nI_eq ha hb]
  exact ⟨f, g⟩
theorem pk_in {x : Int32} (n N : Nat) (h : n < N) (hx : x = nI n := by rfl) (hN : N < 2 ^ 31 := by omega) : vp_in x N := by
  subst hx
  exact vp_in_nI h hN
theorem pk_cl {x : Int32} (n : Nat) (hx : x = nI n := by rfl) (h : n < 2 ^ 31 := by omega) : x.toNatClampNeg = n := by
  subst hx
  exact nI_clamp h
theorem pk_tn {n : Nat} (h : n < 2 ^ 32) : (nI n).toBitVec.toNat = n := Nat.mod_eq_of_lt h
theorem pk_loop {σ : Type} (W : Nat → Nat → σ → Prop) (I : Nat → σ → Prop) (e i0 : Nat) (s : σ) (hi : i0 ≤ e) (h0 : I i0 s) (hx : ∀ n s, I e s → W (n + 1) e s)
    (hs : ∀ n i s, i < e → I i s → (∀ s', I (i + 1) s' → W n (i + 1) s') → W (n + 1) i s) : ∃ n, W n i0 s :=
  ⟨e + 1, loop_i W I e hx hs (e + 1) i0 s hi (by omega) h0⟩
theorem pk_least (P : Nat → Prop) (h : ∃ k, P k) : ∃ k, P k ∧ ∀ j, j < k → ¬ P j := by
  obtain ⟨k, hk⟩ := h
  induction k using Nat.strongRecOn with
  | ind k ih =>
    by_cases e : ∃ j, j < k ∧ P j
    · obtain ⟨j, hj, pj⟩ := e
      exact ih j hj pj
    · exact ⟨k, hk, fun j hj pj => e ⟨j, hj, pj⟩⟩
def bt (x : Int32) (i : Nat) : Bool := x.toBitVec.getLsbD i
theorem b_ext {x y : Int32} (h : ∀ i, i < 32 → bt x i = bt y i) : x = y := Int32.toBitVec_inj.mp (BitVec.eq_of_getLsbD_eq (fun i hi => h i hi))
theorem b_or (x y : Int32) (i : Nat) : bt (x ||| y) i = (bt x i || bt y i) := by unfold bt; rw [Int32.toBitVec_or, BitVec.getLsbD_or]
theorem b_and (x y : Int32) (i : Nat) : bt (x &&& y) i = (bt x i && bt y i) := by unfold bt; rw [Int32.toBitVec_and, BitVec.getLsbD_and]
theorem b_xor (x y : Int32) (i : Nat) : bt (x ^^^ y) i = (bt x i ^^ bt y i) := by unfold bt; rw [Int32.toBitVec_xor, BitVec.getLsbD_xor]
theorem b_big {x : Int32} {i : Nat} (h : 32 ≤ i) : bt x i = false := BitVec.getLsbD_of_ge _ _ h
theorem b_m1 : ∀ i, i < 32 → bt (-1) i = true := by decide +kernel
theorem b_0 (i : Nat) : bt 0 i = false := BitVec.getLsbD_zero
theorem s_l : ∀ n, n < 32 → ((nI n &&& 31).toBitVec.smod 32).toNat = n := by decide +kernel
theorem b_shl (n : Nat) (hn : n < 32) (x : Int32) {i : Nat} (hi : i < 32) : bt (x <<< (nI n &&& 31)) i = (decide (n ≤ i) && bt x (i - n)) := by
  unfold bt
  rw [Int32.toBitVec_shiftLeft]
  show (x.toBitVec <<< ((nI n &&& 31).toBitVec.smod 32).toNat).getLsbD i = _
  rw [s_l n hn, BitVec.getLsbD_shiftLeft]
  rcases Nat.lt_or_ge i n with h | h
  · simp [h, Nat.not_le.mpr h]
  · simp [hi, h, Nat.not_lt.mpr h]
theorem b_sshr (n : Nat) (hn : n < 32) (x : Int32) {i : Nat} (hi : i < 32) : bt (x >>> (nI n &&& 31)) i = if n + i < 32 then bt x (n + i) else bt x 31 := by
  unfold bt
  rw [Int32.toBitVec_shiftRight]
  show (x.toBitVec.sshiftRight ((nI n &&& 31).toBitVec.smod 32).toNat).getLsbD i = _
  rw [s_l n hn, BitVec.getLsbD_sshiftRight, BitVec.msb_eq_getLsbD_last]
  simp [hi]
theorem nx_and (a b : Nat) : nI a &&& nI b = nI (a &&& b) := by
  apply Int32.toBitVec_inj.1
  show BitVec.ofNat 32 a &&& BitVec.ofNat 32 b = BitVec.ofNat 32 (a &&& b)
  apply BitVec.eq_of_getLsbD_eq
  intro i hi
  simp [hi]
end
section
/-! pure: bits, digits, sums, what a constraint says, which variables it looks at -/
theorem dn_bt1 (j : Nat) : bt 1 j = decide (j = 0) := by
  rcases Nat.lt_or_ge j 32 with h | h
  · exact (by decide +kernel : ∀ j, j < 32 → bt 1 j = decide (j = 0)) j h
  · rw [b_big h, decide_eq_false (by omega)]
theorem dn_tst (x : Int32) (i : Nat) (hi : i < 31) : (x >>> (nI i &&& 31)) &&& 1 = if bt x i = true then 1 else 0 := by
  apply b_ext
  intro j hj
  rw [b_and, b_sshr i (by omega) x hj, dn_bt1]
  by_cases h0 : j = 0
  · subst h0
    rw [if_pos (by omega), Nat.add_zero]
    cases h : bt x i
    · rw [if_neg (by decide), b_0]; rfl
    · rw [if_pos rfl, dn_bt1]; rfl
  · rw [decide_eq_false h0, Bool.and_false]
    cases h : bt x i
    · rw [if_neg (by decide), b_0]
    · rw [if_pos rfl, dn_bt1, decide_eq_false h0]
theorem dn_tst0 (x : Int32) (i : Nat) (hi : i < 31) : (x >>> (nI i &&& 31)) &&& 1 = 0 ↔ bt x i = false := by
  rw [dn_tst x i hi]
  cases bt x i <;> simp
theorem dn_tst1 (x : Int32) (i : Nat) (hi : i < 31) : (x >>> (nI i &&& 31)) &&& 1 = 1 ↔ bt x i = true := by
  rw [dn_tst x i hi]
  cases bt x i <;> simp
theorem dn_one (i j : Nat) (hi : i < 32) (hj : j < 32) : bt ((1 : Int32) <<< (nI i &&& 31)) j = decide (j = i) := by
  rw [b_shl i hi 1 hj, dn_bt1]
  by_cases h : j = i
  · subst h; simp
  · rw [decide_eq_false h]
    by_cases h2 : i ≤ j
    · rw [decide_eq_false (by omega : ¬ j - i = 0), Bool.and_false]
    · rw [decide_eq_false h2, Bool.false_and]
theorem dn_all : ∀ n, n < 11 → ∀ j, j < 32 → bt (((1 : Int32) <<< (nI n &&& 31)) - 1) j = decide (j < n) := by decide +kernel
theorem dn_not (x : Int32) (j : Nat) (hj : j < 32) : bt (x ^^^ (-1)) j = !bt x j := by
  rw [b_xor, b_m1 j hj, Bool.xor_true]
/-! digits of a code -/
def dn_d (a v : Nat) : Nat := a / 6 ^ (3 - v) % 6
theorem dn_dlt (a v : Nat) : dn_d a v < 6 := Nat.mod_lt _ (by decide)
theorem dn_d3 (a : Nat) : dn_d a 3 = a % 6 := by show a / 6 ^ 0 % 6 = _; rw [Nat.pow_zero, Nat.div_one]
theorem dn_d2 (a : Nat) : dn_d a 2 = a / 6 % 6 := rfl
theorem dn_d1 (a : Nat) : dn_d a 1 = a / 36 % 6 := rfl
theorem dn_d0 {a : Nat} (h : a < 1296) : dn_d a 0 = a / 216 := by
  show a / 216 % 6 = _
  omega
theorem dn_blk {a b v : Nat} (hv : v < 4) (h : a / 6 ^ (3 - v) = b / 6 ^ (3 - v)) : ∀ w, w ≤ v → dn_d a w = dn_d b w := by
  intro w hw
  unfold dn_d
  rw [show 3 - w = (3 - v) + (v - w) by omega, Nat.pow_add, ← Nat.div_div_eq_div_mul, ← Nat.div_div_eq_div_mul, h]
theorem dn_nx {a b B : Nat} (hB : 0 < B) (h1 : a ≤ b) (h2 : b < a - a % B + B) : a / B = b / B := by
  have e := Nat.div_add_mod' a B
  have l := Nat.mod_lt a hB
  symm
  apply Nat.div_eq_of_lt_le
  · omega
  · rw [Nat.add_mul, Nat.one_mul]; omega
/-! the sum under a weighting -/
def dn_sm (w : Nat) (d : Nat → Nat) : Nat → Int32
  | 0 => 0
  | v + 1 => dn_sm w d v + (nI (w / 7 ^ v % 7) - 3) * nI (d v)
theorem dn_term : ∀ x, x < 7 → ∀ d, d < 6 → -15 ≤ ((nI x - 3) * nI d).toInt ∧ ((nI x - 3) * nI d).toInt ≤ 15 := by decide +kernel
theorem dn_smb (w : Nat) (d : Nat → Nat) (hd : ∀ v, d v < 6) : ∀ v : Nat, v ≤ 4 → -(15 * (v : Int)) ≤ (dn_sm w d v).toInt ∧ (dn_sm w d v).toInt ≤ 15 * (v : Int) := by
  intro v
  induction v with
  | zero =>
    intro _
    show -(15 * ((0 : Nat) : Int)) ≤ (0 : Int32).toInt ∧ (0 : Int32).toInt ≤ 15 * ((0 : Nat) : Int)
    exact ⟨by decide, by decide⟩
  | succ v ih =>
    intro hv
    have ⟨h1, h2⟩ := ih (by omega)
    have ⟨t1, t2⟩ := dn_term (w / 7 ^ v % 7) (Nat.mod_lt _ (by decide)) (d v) (hd v)
    have e : (dn_sm w d (v + 1)).toInt = (dn_sm w d v).toInt + ((nI (w / 7 ^ v % 7) - 3) * nI (d v)).toInt := by
      show (dn_sm w d v + (nI (w / 7 ^ v % 7) - 3) * nI (d v)).toInt = _
      rw [Int32.toInt_add]
      exact Int.bmod_eq_of_le (by omega) (by omega)
    rw [e]
    omega
theorem dn_sm60 (w a : Nat) : dn_sm w (dn_d a) 4 ≤ 60 := by
  have h := dn_smb w (dn_d a) (dn_dlt a) 4 (by omega)
  rw [Int32.le_iff_toInt_le, show (60 : Int32).toInt = 60 from by decide]
  omega
theorem dn_sm61 (w a : Nat) : dn_sm w (dn_d a) 4 < 61 := by
  have h := dn_smb w (dn_d a) (dn_dlt a) 4 (by omega)
  rw [Int32.lt_iff_toInt_lt, show (61 : Int32).toInt = 61 from by decide]
  omega
theorem dn_smc (w : Nat) {d e : Nat → Nat} : ∀ v, (∀ k, k < v → d k = e k) → dn_sm w d v = dn_sm w e v := by
  intro v
  induction v with
  | zero => intro _; rfl
  | succ v ih =>
    intro h
    show dn_sm w d v + _ * nI (d v) = dn_sm w e v + _ * nI (e v)
    rw [ih (fun k hk => h k (by omega)), h v (by omega)]
/-! different values, occurrences -/
def dn_df (p : Int32) (d : Nat → Nat) (k : Nat) : Prop := ∀ v, v < k → ∀ w, w < v → bt p v = true → bt p w = true → d v ≠ d w
def dn_oc (p : Int32) (x : Nat) (d : Nat → Nat) : Nat → Nat
  | 0 => 0
  | v + 1 => if bt p v = true ∧ d v = x then dn_oc p x d v + 1 else dn_oc p x d v
theorem dn_ocl (p : Int32) (x : Nat) (d : Nat → Nat) : ∀ v, dn_oc p x d v ≤ v := by
  intro v
  induction v with
  | zero => exact Nat.le_refl 0
  | succ v ih =>
    show (if bt p v = true ∧ d v = x then dn_oc p x d v + 1 else dn_oc p x d v) ≤ v + 1
    split <;> omega
theorem dn_occ (p : Int32) (x : Nat) {d e : Nat → Nat} : ∀ v, (∀ k, k < v → bt p k = true → d k = e k) → dn_oc p x d v = dn_oc p x e v := by
  intro v
  induction v with
  | zero => intro _; rfl
  | succ v ih =>
    intro h
    show (if bt p v = true ∧ d v = x then dn_oc p x d v + 1 else dn_oc p x d v) = (if bt p v = true ∧ e v = x then dn_oc p x e v + 1 else dn_oc p x e v)
    rw [ih (fun k hk => h k (by omega))]
    by_cases hb : bt p v = true
    · rw [h v (by omega) hb]
    · simp [hb]
theorem dn_dfc {p : Int32} {d e : Nat → Nat} {k : Nat} (h : ∀ v, v < k → bt p v = true → d v = e v) (H : dn_df p d k) : dn_df p e k := by
  intro v hv w hw bv bw
  rw [← h v hv bv, ← h w (by omega) bw]
  exact H v hv w hw bv bw
/-! proper constraints, what they say, what they look at -/
def dn_rg (x a b : Int32) : Prop := a ≤ x ∧ x ≤ b
theorem dn_rn {x B : Int32} {n : Nat} (h : dn_rg x 0 B) (hB : B.toInt = n) : ∃ j : Nat, j ≤ n ∧ x = nI j := nI_of2 hB (Int32.not_lt.mpr h.1) h.2
def dn_pr (k p q r : Int32) : Prop :=
  if k = 0 then dn_rg p 0 2400 ∧ dn_rg q (-60) 60
  else if k = 1 then dn_rg p 0 2400 ∧ dn_rg q (-60) 60
  else if k = 2 then dn_rg p 0 15
  else if k = 3 then dn_rg p 0 3 ∧ dn_rg q 0 3 ∧ dn_rg r 0 46655
  else if k = 4 then dn_rg p 0 3 ∧ dn_rg q 0 3 ∧ dn_rg r 0 3
  else if k = 5 then dn_rg p 0 23 ∧ dn_rg q 0 23
  else if k = 6 then dn_rg p 0 3 ∧ dn_rg q 0 3 ∧ dn_rg r 0 5
  else if k = 7 then dn_rg p 0 15 ∧ dn_rg q 0 4 ∧ dn_rg r 0 5
  else if k = 8 then dn_rg p 0 3 ∧ dn_rg q 0 3 ∧ dn_rg r 0 15
  else False
def dn_hs (k p q r : Int32) (d : Nat → Nat) : Prop :=
  if k = 0 then dn_sm p.toNatClampNeg d 4 ≤ q
  else if k = 1 then dn_sm p.toNatClampNeg d 4 = q
  else if k = 2 then dn_df p d 4
  else if k = 3 then d p.toNatClampNeg = r.toNatClampNeg / 6 ^ d q.toNatClampNeg % 6
  else if k = 4 then d p.toNatClampNeg * d q.toNatClampNeg = d r.toNatClampNeg
  else if k = 5 then (d (p.toNatClampNeg / 6) = p.toNatClampNeg % 6 ↔ q.toNatClampNeg % 6 ≤ d (q.toNatClampNeg / 6))
  else if k = 6 then d q.toNatClampNeg + r.toNatClampNeg ≤ d p.toNatClampNeg ∨ d p.toNatClampNeg + r.toNatClampNeg ≤ d q.toNatClampNeg
  else if k = 7 then nI (dn_oc p r.toNatClampNeg d 4) = q
  else d p.toNatClampNeg < d q.toNatClampNeg ∨ (d p.toNatClampNeg = d q.toNatClampNeg ∧ d (r.toNatClampNeg % 4) ≤ d (r.toNatClampNeg / 4))
def dn_us (k p q r : Int32) (v : Nat) : Prop :=
  if k = 0 then True
  else if k = 1 then True
  else if k = 2 then bt p v = true
  else if k = 3 then v = p.toNatClampNeg ∨ v = q.toNatClampNeg
  else if k = 4 then v = p.toNatClampNeg ∨ v = q.toNatClampNeg ∨ v = r.toNatClampNeg
  else if k = 5 then v = p.toNatClampNeg / 6 ∨ v = q.toNatClampNeg / 6
  else if k = 6 then v = p.toNatClampNeg ∨ v = q.toNatClampNeg
  else if k = 7 then bt p v = true
  else v = p.toNatClampNeg ∨ v = q.toNatClampNeg ∨ v = r.toNatClampNeg % 4 ∨ v = r.toNatClampNeg / 4
/-- the nine kinds of a proper constraint -/
theorem dn_kinds {k p q r : Int32} (h : dn_pr k p q r) : k = 0 ∨ k = 1 ∨ k = 2 ∨ k = 3 ∨ k = 4 ∨ k = 5 ∨ k = 6 ∨ k = 7 ∨ k = 8 := by
  unfold dn_pr at h
  split at h
  · simp_all
  split at h
  · simp_all
  split at h
  · simp_all
  split at h
  · simp_all
  split at h
  · simp_all
  split at h
  · simp_all
  split at h
  · simp_all
  split at h
  · simp_all
  split at h
  · simp_all
  · exact h.elim
theorem dn_rcl {x B : Int32} {n : Nat} (h : dn_rg x 0 B) (hB : B.toInt = n) (hn : n < 2 ^ 31) : x.toNatClampNeg ≤ n ∧ x = nI x.toNatClampNeg := by
  obtain ⟨j, hj, rfl⟩ := dn_rn h hB
  rw [nI_clamp (by omega)]
  exact ⟨hj, rfl⟩
theorem dn_hc {k p q r : Int32} {d e : Nat → Nat} (hp : dn_pr k p q r) (h : ∀ v, v < 4 → dn_us k p q r v → d v = e v) : dn_hs k p q r d → dn_hs k p q r e := by
  rcases dn_kinds hp with rfl | rfl | rfl | rfl | rfl | rfl | rfl | rfl | rfl
  · simp [dn_us] at h
    simp only [dn_hs, if_true]
    rw [dn_smc _ 4 h]
    exact id
  · simp [dn_us] at h
    simp [dn_hs]
    rw [dn_smc _ 4 h]
    exact id
  · simp [dn_us] at h
    simp [dn_hs]
    exact dn_dfc h
  · simp [dn_us] at h
    simp [dn_pr] at hp
    have a := (dn_rcl hp.1 (n := 3) (by decide) (by decide)).1
    have b := (dn_rcl hp.2.1 (n := 3) (by decide) (by decide)).1
    simp [dn_hs]
    rw [h _ (by omega) (Or.inl rfl), h _ (by omega) (Or.inr rfl)]
    exact id
  · simp [dn_us] at h
    simp [dn_pr] at hp
    have a := (dn_rcl hp.1 (n := 3) (by decide) (by decide)).1
    have b := (dn_rcl hp.2.1 (n := 3) (by decide) (by decide)).1
    have c := (dn_rcl hp.2.2 (n := 3) (by decide) (by decide)).1
    simp [dn_hs]
    rw [h _ (by omega) (Or.inl rfl), h _ (by omega) (Or.inr (Or.inl rfl)), h _ (by omega) (Or.inr (Or.inr rfl))]
    exact id
  · simp [dn_us] at h
    simp [dn_pr] at hp
    have a := (dn_rcl hp.1 (n := 23) (by decide) (by decide)).1
    have b := (dn_rcl hp.2 (n := 23) (by decide) (by decide)).1
    simp [dn_hs]
    rw [h _ (by omega) (Or.inl rfl), h _ (by omega) (Or.inr rfl)]
    exact id
  · simp [dn_us] at h
    simp [dn_pr] at hp
    have a := (dn_rcl hp.1 (n := 3) (by decide) (by decide)).1
    have b := (dn_rcl hp.2.1 (n := 3) (by decide) (by decide)).1
    simp [dn_hs]
    rw [h _ (by omega) (Or.inl rfl), h _ (by omega) (Or.inr rfl)]
    exact id
  · simp [dn_us] at h
    simp [dn_hs]
    rw [dn_occ _ _ 4 h]
    exact id
  · simp [dn_us] at h
    simp [dn_pr] at hp
    have a := (dn_rcl hp.1 (n := 3) (by decide) (by decide)).1
    have b := (dn_rcl hp.2.1 (n := 3) (by decide) (by decide)).1
    have c := (dn_rcl hp.2.2 (n := 15) (by decide) (by decide)).1
    simp [dn_hs]
    rw [h _ (by omega) (Or.inl rfl), h _ (by omega) (Or.inr (Or.inl rfl)), h _ (by omega) (Or.inr (Or.inr (Or.inl rfl))), h _ (by omega) (Or.inr (Or.inr (Or.inr rfl)))]
    exact id
/-! solutions -/
def dn_so (D K P Q R : Nat → Int32) (c : Nat) (inc : Nat → Bool) (a : Nat) : Prop :=
  (∀ v, v < 4 → bt (D v) (dn_d a v) = true) ∧ (∀ i, i < c → inc i = true → dn_hs (K i) (P i) (Q i) (R i) (dn_d a))
noncomputable def dn_sb (D K P Q R : Nat → Int32) (c : Nat) (inc : Nat → Bool) (a : Nat) : Bool := @decide (dn_so D K P Q R c inc a) (Classical.propDecidable _)
theorem dn_sbt {D K P Q R : Nat → Int32} {c : Nat} {inc : Nat → Bool} {a : Nat} : dn_sb D K P Q R c inc a = true ↔ dn_so D K P Q R c inc a := @decide_eq_true_iff _ (Classical.propDecidable _)
theorem dn_sbf {D K P Q R : Nat → Int32} {c : Nat} {inc : Nat → Bool} {a : Nat} : dn_sb D K P Q R c inc a = false ↔ ¬ dn_so D K P Q R c inc a := @decide_eq_false_iff_not _ (Classical.propDecidable _)
theorem dn_soc {D K P Q R : Nat → Int32} {c : Nat} {inc jnc : Nat → Bool} (h : ∀ i, i < c → inc i = jnc i) : dn_sb D K P Q R c inc = dn_sb D K P Q R c jnc := by
  funext a
  have e : dn_so D K P Q R c inc a ↔ dn_so D K P Q R c jnc a := by
    constructor
    · exact fun z => ⟨z.1, fun i hi hj => z.2 i hi ((h i hi).trans hj)⟩
    · exact fun z => ⟨z.1, fun i hi hj => z.2 i hi ((h i hi).symm.trans hj)⟩
  rw [Bool.eq_iff_iff, dn_sbt, dn_sbt]
  exact e
/-- the number of solutions below a -/
def dn_cn (S : Nat → Bool) : Nat → Nat
  | 0 => 0
  | a + 1 => if S a = true then dn_cn S a + 1 else dn_cn S a
theorem dn_cnt {S : Nat → Bool} {a : Nat} (h : S a = true) : dn_cn S (a + 1) = dn_cn S a + 1 := if_pos h
theorem dn_cnf {S : Nat → Bool} {a : Nat} (h : S a = false) : dn_cn S (a + 1) = dn_cn S a := if_neg (by rw [h]; decide)
theorem dn_cns (S : Nat → Bool) (a : Nat) : dn_cn S a ≤ dn_cn S (a + 1) := by
  cases h : S a
  · rw [dn_cnf h]; exact Nat.le_refl _
  · rw [dn_cnt h]; omega
theorem dn_cnm (S : Nat → Bool) {a b : Nat} (h : a ≤ b) : dn_cn S a ≤ dn_cn S b := by
  induction b with
  | zero => rw [Nat.le_zero.mp h]; exact Nat.le_refl _
  | succ b ih =>
    rcases Nat.lt_or_ge b a with z | z
    · rw [show a = b + 1 by omega]; exact Nat.le_refl _
    · exact Nat.le_trans (ih z) (dn_cns S b)
theorem dn_cnl (S : Nat → Bool) {a b : Nat} (h : a < b) (hs : S a = true) : dn_cn S a < dn_cn S b := by
  have := dn_cnm S (show a + 1 ≤ b from h)
  rw [dn_cnt hs] at this
  omega
theorem dn_cnb (S : Nat → Bool) (a : Nat) : dn_cn S a ≤ a := by
  induction a with
  | zero => exact Nat.le_refl 0
  | succ a ih =>
    cases h : S a
    · rw [dn_cnf h]; omega
    · rw [dn_cnt h]; omega
theorem dn_cn0 {S : Nat → Bool} {a : Nat} (h : ∀ b, b < a → S b = false) : dn_cn S a = 0 := by
  induction a with
  | zero => rfl
  | succ a ih => rw [dn_cnf (h a (by omega)), ih (fun b hb => h b (by omega))]
/-- the list of the solutions below k, each at its place -/
def dn_Li (S : Nat → Bool) (k : Nat) (f : Nat → Int32) : Prop := ∀ a, a < k → S a = true → f (dn_cn S a) = nI a
theorem dn_Lit {S : Nat → Bool} {k : Nat} {f : Nat → Int32} (h : dn_Li S k f) : dn_Li S (k + 1) (upd f (dn_cn S k) (nI k)) := by
  intro a ha hs
  rcases Nat.lt_or_ge a k with z | z
  · have := dn_cnl S z hs
    rw [pk_un (by omega)]
    exact h a z hs
  · rw [show a = k by omega, pk_us]
theorem dn_Lif {S : Nat → Bool} {k : Nat} {f : Nat → Int32} (h : dn_Li S k f) (hk : S k = false) : dn_Li S (k + 1) f := by
  intro a ha hs
  rcases Nat.lt_or_ge a k with z | z
  · exact h a z hs
  · rw [show a = k by omega, hk] at hs
    cases hs
/-- the first solution, if there is one -/
theorem dn_fst {S : Nat → Bool} {k : Nat} (h : 0 < dn_cn S k) : ∃ a, a < k ∧ S a = true ∧ dn_cn S a = 0 ∧ ∀ b, b < a → S b = false := by
  have e : ∃ a, a < k ∧ S a = true := by
    apply Classical.byContradiction
    intro z
    rw [dn_cn0 (fun b hb => by
      cases hs : S b
      · rfl
      · exact (z ⟨b, hb, hs⟩).elim)] at h
    exact Nat.lt_irrefl 0 h
  obtain ⟨a, ⟨ha, hs⟩, hm⟩ := pk_least _ e
  have hf : ∀ b, b < a → S b = false := fun b hb => by
    cases z : S b
    · rfl
    · exact (hm b hb ⟨by omega, z⟩).elim
  exact ⟨a, ha, hs, dn_cn0 hf, hf⟩
end
section
/-! pure: the folds over the solutions -/
/-- the least sum so far (61: none), how many have it, the first that has it -/
def dn_op (S : Nat → Bool) (f : Nat → Int32) : Nat → Int32 × Nat × Nat
  | 0 => (61, 0, 0)
  | a + 1 =>
    if S a = true then
      if f a < (dn_op S f a).1 then (f a, 1, a)
      else if f a = (dn_op S f a).1 then ((dn_op S f a).1, (dn_op S f a).2.1 + 1, (dn_op S f a).2.2)
      else dn_op S f a
    else dn_op S f a
theorem dn_opf {S : Nat → Bool} {f : Nat → Int32} {a : Nat} (h : S a = false) : dn_op S f (a + 1) = dn_op S f a := if_neg (by rw [h]; decide)
theorem dn_opl {S : Nat → Bool} {f : Nat → Int32} {a : Nat} (h : S a = true) (hl : f a < (dn_op S f a).1) : dn_op S f (a + 1) = (f a, 1, a) :=
  (if_pos h).trans (if_pos hl)
theorem dn_ope {S : Nat → Bool} {f : Nat → Int32} {a : Nat} (h : S a = true) (hl : ¬ f a < (dn_op S f a).1) (he : f a = (dn_op S f a).1) : dn_op S f (a + 1) = ((dn_op S f a).1, (dn_op S f a).2.1 + 1, (dn_op S f a).2.2) :=
  (if_pos h).trans ((if_neg hl).trans (if_pos he))
theorem dn_opg {S : Nat → Bool} {f : Nat → Int32} {a : Nat} (h : S a = true) (hl : ¬ f a < (dn_op S f a).1) (he : ¬ f a = (dn_op S f a).1) : dn_op S f (a + 1) = dn_op S f a :=
  (if_pos h).trans ((if_neg hl).trans (if_neg he))
/-- none yet, or the first of the least has the least sum -/
def dn_opI (S : Nat → Bool) (f : Nat → Int32) (a : Nat) : Prop :=
  (dn_op S f a = (61, 0, 0) ∧ dn_cn S a = 0) ∨ (0 < (dn_op S f a).2.1 ∧ (dn_op S f a).2.1 ≤ dn_cn S a ∧ (dn_op S f a).2.2 < a ∧ (dn_op S f a).1 = f (dn_op S f a).2.2)
theorem dn_opi {S : Nat → Bool} {f : Nat → Int32} (hf : ∀ a, f a < 61) : ∀ a, dn_opI S f a := by
  intro a
  induction a with
  | zero => exact Or.inl ⟨rfl, rfl⟩
  | succ a ih =>
    cases h : S a
    · unfold dn_opI
      rw [dn_opf h, dn_cnf h]
      rcases ih with z | ⟨z1, z2, z3, z4⟩
      · exact Or.inl z
      · exact Or.inr ⟨z1, z2, by omega, z4⟩
    · by_cases hl : f a < (dn_op S f a).1
      · unfold dn_opI
        rw [dn_opl h hl, dn_cnt h]
        exact Or.inr ⟨by show 0 < 1; omega, by show 1 ≤ _; omega, by show a < a + 1; omega, rfl⟩
      · rcases ih with ⟨z, _⟩ | ⟨z1, z2, z3, z4⟩
        · rw [z] at hl
          exact (hl (hf a)).elim
        · by_cases he : f a = (dn_op S f a).1
          · unfold dn_opI
            rw [dn_ope h hl he, dn_cnt h]
            exact Or.inr ⟨by show 0 < (dn_op S f a).2.1 + 1; omega, by show (dn_op S f a).2.1 + 1 ≤ _; omega, by show (dn_op S f a).2.2 < _; omega, z4⟩
          · unfold dn_opI
            rw [dn_opg h hl he, dn_cnt h]
            exact Or.inr ⟨z1, by omega, by omega, z4⟩
theorem dn_opn {S : Nat → Bool} {f : Nat → Int32} (hf : ∀ a, f a < 61) (a : Nat) : (dn_op S f a).2.1 ≤ dn_cn S a := by
  rcases dn_opi hf a with ⟨z, w⟩ | ⟨_, z, _⟩
  · rw [z, w]; exact Nat.le_refl 0
  · exact z
theorem dn_opp {S : Nat → Bool} {f : Nat → Int32} (hf : ∀ a, f a < 61) {a : Nat} (h : 0 < dn_cn S a) : 0 < (dn_op S f a).2.1 ∧ (dn_op S f a).2.2 < a ∧ (dn_op S f a).1 = f (dn_op S f a).2.2 := by
  rcases dn_opi (S := S) hf a with ⟨_, w⟩ | ⟨z1, _, z2, z3⟩
  · omega
  · exact ⟨z1, z2, z3⟩
/-- the values that a variable takes -/
def dn_ps (S : Nat → Bool) (v : Nat) : Nat → Int32
  | 0 => 0
  | a + 1 => if S a = true then dn_ps S v a ||| ((1 : Int32) <<< (nI (dn_d a v) &&& 31)) else dn_ps S v a
theorem dn_pst {S : Nat → Bool} {v a : Nat} (h : S a = true) : dn_ps S v (a + 1) = dn_ps S v a ||| ((1 : Int32) <<< (nI (dn_d a v) &&& 31)) := if_pos h
theorem dn_psf {S : Nat → Bool} {v a : Nat} (h : S a = false) : dn_ps S v (a + 1) = dn_ps S v a := if_neg (by rw [h]; decide)
/-- the solutions with value x at v -/
def dn_wx (S : Nat → Bool) (v x : Nat) : Nat → Bool := fun a => S a && decide (dn_d a v = x)
/-! what is left out on the way to the blamed ones; E says of a set of those that are in whether they have no solution -/
def dn_lo (E : (Nat → Bool) → Bool) : Nat → Nat → Bool
  | 0 => fun _ => false
  | i + 1 => if E (fun j => !(dn_lo E i j || decide (j = i))) = true then fun j => dn_lo E i j || decide (j = i) else dn_lo E i
theorem dn_lot {E : (Nat → Bool) → Bool} {i : Nat} (h : E (fun j => !(dn_lo E i j || decide (j = i))) = true) : dn_lo E (i + 1) = fun j => dn_lo E i j || decide (j = i) := if_pos h
theorem dn_lof {E : (Nat → Bool) → Bool} {i : Nat} (h : E (fun j => !(dn_lo E i j || decide (j = i))) = false) : dn_lo E (i + 1) = dn_lo E i := if_neg (by rw [h]; decide)
theorem dn_lob {E : (Nat → Bool) → Bool} : ∀ i j, i ≤ j → dn_lo E i j = false := by
  intro i
  induction i with
  | zero => intro _ _; rfl
  | succ i ih =>
    intro j hj
    cases h : E (fun j => !(dn_lo E i j || decide (j = i)))
    · rw [dn_lof h]; exact ih j (by omega)
    · rw [dn_lot h]
      show (dn_lo E i j || decide (j = i)) = false
      rw [ih j (by omega), decide_eq_false (by omega)]
      rfl
/-! where the search is stuck: no solution has the same digits up to s -/
def dn_no (D K P Q R : Nat → Int32) (c : Nat) (inc : Nat → Bool) (a s : Nat) : Prop := ∀ b, (∀ w, w ≤ s → dn_d b w = dn_d a w) → ¬ dn_so D K P Q R c inc b
theorem dn_noD {D K P Q R : Nat → Int32} {c : Nat} {inc : Nat → Bool} {a v s : Nat} (hv : v < 4) (hs : v ≤ s) (hf : bt (D v) (dn_d a v) = false) : dn_no D K P Q R c inc a s := by
  intro b hb z
  have h := z.1 v hv
  rw [hb v hs, hf] at h
  cases h
theorem dn_noC {D K P Q R : Nat → Int32} {c : Nat} {inc : Nat → Bool} {a i s : Nat} (hi : i < c) (hinc : inc i = true) (hp : dn_pr (K i) (P i) (Q i) (R i)) (hu : ∀ v, v < 4 → dn_us (K i) (P i) (Q i) (R i) v → v ≤ s) (hf : ¬ dn_hs (K i) (P i) (Q i) (R i) (dn_d a)) : dn_no D K P Q R c inc a s := by
  intro b hb z
  exact hf (dn_hc hp (fun v hv h => hb v (hu v hv h)) (z.2 i hi hinc))
/-- what stuckAt has found when the domains of the variables from v on are looked at -/
def dn_sD (D K P Q R : Nat → Int32) (c : Nat) (inc : Nat → Bool) (a v s : Nat) : Prop :=
  s ≤ 4 ∧ (s = 4 → ∀ w, v ≤ w → w < 4 → bt (D w) (dn_d a w) = true) ∧ (s < 4 → dn_no D K P Q R c inc a s)
/-- .. and when the constraints below i are -/
def dn_sC (D K P Q R : Nat → Int32) (c : Nat) (inc : Nat → Bool) (a i s : Nat) : Prop :=
  s ≤ 4 ∧ (s = 4 → (∀ w, w < 4 → bt (D w) (dn_d a w) = true) ∧ ∀ j, j < i → inc j = true → dn_hs (K j) (P j) (Q j) (R j) (dn_d a)) ∧ (s < 4 → dn_no D K P Q R c inc a s)
theorem dn_sD4 (D K P Q R : Nat → Int32) (c : Nat) (inc : Nat → Bool) (a : Nat) : dn_sD D K P Q R c inc a 4 4 :=
  ⟨by omega, fun _ w h1 h2 => by omega, fun h => by omega⟩
theorem dn_sDC {D K P Q R : Nat → Int32} {c : Nat} {inc : Nat → Bool} {a s : Nat} (h : dn_sD D K P Q R c inc a 0 s) : dn_sC D K P Q R c inc a 0 s :=
  ⟨h.1, fun e => ⟨fun w hw => h.2.1 e w (by omega) hw, fun j hj => by omega⟩, h.2.2⟩
theorem dn_sCe {D K P Q R : Nat → Int32} {c : Nat} {inc : Nat → Bool} {a s : Nat} (h : dn_sC D K P Q R c inc a c s) : s ≤ 4 ∧ (s = 4 → dn_sb D K P Q R c inc a = true) ∧ (s < 4 → dn_no D K P Q R c inc a s) :=
  ⟨h.1, fun e => dn_sbt.mpr (h.2.1 e), h.2.2⟩
/-- no solution in the rest of the block -/
theorem dn_skip {D K P Q R : Nat → Int32} {c : Nat} {inc : Nat → Bool} {a s : Nat} (hs : s < 4) (h : dn_no D K P Q R c inc a s) : ∀ b, a ≤ b → b < a - a % 6 ^ (3 - s) + 6 ^ (3 - s) → dn_sb D K P Q R c inc b = false := by
  intro b h1 h2
  apply dn_sbf.mpr
  exact h b (fun w hw => (dn_blk hs (dn_nx (Nat.pos_of_ne_zero (by simp)) h1 h2) w hw).symm)
end
section
/-! the class: its small methods -/
theorem dx_in {post : Int32 → Prop} {x a b : Int32} (h1 : dn_rg x a b → post 1) (h0 : ¬ dn_rg x a b → post 0) : wpX_isWithin post x a b :=
  br_c (fun h => h0 (fun z => Int32.not_le.mpr h z.1)) (fun h => br_c (fun g => h0 (fun z => Int32.not_le.mpr g z.2)) (fun g => h1 ⟨Int32.not_lt.mp h, Int32.not_lt.mp g⟩))
theorem dx_var {post : Int32 → Prop} {x : Int32} (h1 : dn_rg x 0 3 → post 1) (h0 : ¬ dn_rg x 0 3 → post 0) : wpX_isVariable post x := by
  unfold wpX_isVariable
  exact dx_in (fun h => ⟨rfl, h1 h⟩) (fun h => ⟨rfl, h0 h⟩)
theorem dx_wei {post : Int32 → Prop} {x : Int32} (h1 : dn_rg x 0 2400 → post 1) (h0 : ¬ dn_rg x 0 2400 → post 0) : wpX_isWeighting post x := by
  unfold wpX_isWeighting
  exact dx_in (fun h => ⟨rfl, h1 h⟩) (fun h => ⟨rfl, h0 h⟩)
theorem dx_vset {post : Int32 → Prop} {x : Int32} (h1 : dn_rg x 0 15 → post 1) (h0 : ¬ dn_rg x 0 15 → post 0) : wpX_isVariableSet post x := by
  unfold wpX_isVariableSet
  exact dx_in (fun h => ⟨rfl, h1 h⟩) (fun h => ⟨rfl, h0 h⟩)
theorem dx_vval {post : Int32 → Prop} {x : Int32} (h1 : dn_rg x 0 23 → post 1) (h0 : ¬ dn_rg x 0 23 → post 0) : wpX_isVariableAndValue post x := by
  unfold wpX_isVariableAndValue
  exact dx_in (fun h => ⟨rfl, h1 h⟩) (fun h => ⟨rfl, h0 h⟩)
theorem dx_con {post : Int32 → Prop} {C W F : Int32} {D K P Q R V Z : Nat → Int32} {x : Int32} (h1 : dn_rg x 0 (C - 1) → post 1) (h0 : ¬ dn_rg x 0 (C - 1) → post 0) : wpX_isConstraint post (C, W, F, D, K, P, Q, R, V, Z) x := by
  unfold wpX_isConstraint
  exact dx_in (fun h => ⟨rfl, h1 h⟩) (fun h => ⟨rfl, h0 h⟩)
theorem dn_pr0 (p q r : Int32) : dn_pr 0 p q r = (dn_rg p 0 2400 ∧ dn_rg q (-60) 60) := by simp [dn_pr]
theorem dn_pr1 (p q r : Int32) : dn_pr 1 p q r = (dn_rg p 0 2400 ∧ dn_rg q (-60) 60) := by simp [dn_pr]
theorem dn_pr2 (p q r : Int32) : dn_pr 2 p q r = dn_rg p 0 15 := by simp [dn_pr]
theorem dn_pr3 (p q r : Int32) : dn_pr 3 p q r = (dn_rg p 0 3 ∧ dn_rg q 0 3 ∧ dn_rg r 0 46655) := by simp [dn_pr]
theorem dn_pr4 (p q r : Int32) : dn_pr 4 p q r = (dn_rg p 0 3 ∧ dn_rg q 0 3 ∧ dn_rg r 0 3) := by simp [dn_pr]
theorem dn_pr5 (p q r : Int32) : dn_pr 5 p q r = (dn_rg p 0 23 ∧ dn_rg q 0 23) := by simp [dn_pr]
theorem dn_pr6 (p q r : Int32) : dn_pr 6 p q r = (dn_rg p 0 3 ∧ dn_rg q 0 3 ∧ dn_rg r 0 5) := by simp [dn_pr]
theorem dn_pr7 (p q r : Int32) : dn_pr 7 p q r = (dn_rg p 0 15 ∧ dn_rg q 0 4 ∧ dn_rg r 0 5) := by simp [dn_pr]
theorem dn_pr8 (p q r : Int32) : dn_pr 8 p q r = (dn_rg p 0 3 ∧ dn_rg q 0 3 ∧ dn_rg r 0 15) := by simp [dn_pr]
theorem dx_proper {post : Int32 → Prop} {k p q r : Int32} (h1 : dn_pr k p q r → post 1) (h0 : ¬ dn_pr k p q r → post 0) : wpX_isProper post k p q r := by
  unfold wpX_isProper
  refine br_c (fun h => h0 (fun z => ?_)) (fun h => br_c (fun g => h0 (fun z => ?_)) (fun g => ?_))
  · rcases dn_kinds z with rfl | rfl | rfl | rfl | rfl | rfl | rfl | rfl | rfl <;> exact absurd h (by decide)
  · rcases dn_kinds z with rfl | rfl | rfl | rfl | rfl | rfl | rfl | rfl | rfl <;> exact absurd g (by decide)
  refine br_c (fun e => ?_) (fun e0 => ?_)
  · subst e
    rw [dn_pr0] at h1 h0
    unfold wX_isProper_52
    exact dx_wei (fun a => br_f (by decide) (dx_in (fun b => br_f (by decide) (h1 ⟨a, b⟩)) (fun b => br_t rfl (h0 (fun z => b z.2))))) (fun a => br_t rfl (h0 (fun z => a z.1)))
  refine br_c (fun e => ?_) (fun e1 => ?_)
  · subst e
    rw [dn_pr1] at h1 h0
    unfold wX_isProper_52
    exact dx_wei (fun a => br_f (by decide) (dx_in (fun b => br_f (by decide) (h1 ⟨a, b⟩)) (fun b => br_t rfl (h0 (fun z => b z.2))))) (fun a => br_t rfl (h0 (fun z => a z.1)))
  refine br_c (fun e => ?_) (fun e2 => ?_)
  · subst e
    rw [dn_pr2] at h1 h0
    exact dx_vset (fun a => ⟨rfl, h1 a⟩) (fun a => ⟨rfl, h0 a⟩)
  refine br_c (fun e => ?_) (fun e3 => ?_)
  · subst e
    rw [dn_pr3] at h1 h0
    exact dx_var (fun a => br_f (by decide) (dx_var (fun b => br_f (by decide) (dx_in (fun c => br_f (by decide) (h1 ⟨a, b, c⟩)) (fun c => br_t rfl (h0 (fun z => c z.2.2))))) (fun b => br_t rfl (h0 (fun z => b z.2.1))))) (fun a => br_t rfl (h0 (fun z => a z.1)))
  refine br_c (fun e => ?_) (fun e4 => ?_)
  · subst e
    rw [dn_pr4] at h1 h0
    exact dx_var (fun a => br_f (by decide) (dx_var (fun b => br_f (by decide) (dx_var (fun c => br_f (by decide) (h1 ⟨a, b, c⟩)) (fun c => br_t rfl (h0 (fun z => c z.2.2))))) (fun b => br_t rfl (h0 (fun z => b z.2.1))))) (fun a => br_t rfl (h0 (fun z => a z.1)))
  refine br_c (fun e => ?_) (fun e5 => ?_)
  · subst e
    rw [dn_pr5] at h1 h0
    exact dx_vval (fun a => br_f (by decide) (dx_vval (fun b => br_f (by decide) (h1 ⟨a, b⟩)) (fun b => br_t rfl (h0 (fun z => b z.2))))) (fun a => br_t rfl (h0 (fun z => a z.1)))
  refine br_c (fun e => ?_) (fun e6 => ?_)
  · subst e
    rw [dn_pr6] at h1 h0
    exact dx_var (fun a => br_f (by decide) (dx_var (fun b => br_f (by decide) (dx_in (fun c => br_f (by decide) (h1 ⟨a, b, c⟩)) (fun c => br_t rfl (h0 (fun z => c z.2.2))))) (fun b => br_t rfl (h0 (fun z => b z.2.1))))) (fun a => br_t rfl (h0 (fun z => a z.1)))
  refine br_c (fun e => ?_) (fun e7 => ?_)
  · subst e
    rw [dn_pr7] at h1 h0
    exact dx_vset (fun a => br_f (by decide) (dx_in (fun b => br_f (by decide) (dx_in (fun c => br_f (by decide) (h1 ⟨a, b, c⟩)) (fun c => br_t rfl (h0 (fun z => c z.2.2))))) (fun b => br_t rfl (h0 (fun z => b z.2.1))))) (fun a => br_t rfl (h0 (fun z => a z.1)))
  refine br_c (fun e => ?_) (fun e8 => trivial)
  subst e
  rw [dn_pr8] at h1 h0
  exact dx_var (fun a => br_f (by decide) (dx_var (fun b => br_f (by decide) (dx_in (fun c => br_f (by decide) (h1 ⟨a, b, c⟩)) (fun c => br_t rfl (h0 (fun z => c z.2.2))))) (fun b => br_t rfl (h0 (fun z => b z.2.1))))) (fun a => br_t rfl (h0 (fun z => a z.1)))
/-! looking at a code -/
def dn_V (a : Nat) (V : Nat → Int32) : Prop := ∀ j, j < 4 → V j = nI (dn_d a j)
theorem dx_look4 {post : SX → Prop} {C W F : Int32} {D K P Q R Z : Nat → Int32} {a : Nat} (ha : a < 1296) (h : ∀ V', dn_V a V' → post (C, W, F, D, K, P, Q, R, V', Z)) : ∀ v n (V : Nat → Int32), v ≤ 4 → v < n → (∀ j, v ≤ j → j < 4 → V j = nI (dn_d a j)) → wX_lookAt_4 post C W F n (nI (a / 6 ^ (4 - v))) (nI v + (-1)) D K P Q R V Z := by
  intro v
  induction v with
  | zero =>
    intro n V _ hn hV
    obtain ⟨m, rfl⟩ : ∃ m, n = m + 1 := ⟨n - 1, by omega⟩
    exact br_t (by decide) (h V (fun j hj => hV j (by omega) hj))
  | succ v ih =>
    intro n V hv hn hV
    obtain ⟨m, rfl⟩ : ∃ m, n = m + 1 := ⟨n - 1, by omega⟩
    have hq : a / 6 ^ (3 - v) < 2 ^ 31 := Nat.lt_of_le_of_lt (Nat.div_le_self _ _) (by omega)
    rw [pk_m1, show 4 - (v + 1) = 3 - v by omega]
    refine br_f (nI_pos (by omega)) ⟨by decide, vp_in_nI (by omega) (by decide), nm_r (e' := upd V v (nI (dn_d a v))) ?_ ⟨by decide, nm_r (e' := nI (a / 6 ^ (4 - v))) ?_ (nm_e (ih m _ (by omega) (by omega) ?_))⟩⟩
    · rw [nI_clamp (by omega)]
      exact congrArg (upd V v) (pk_rem (d := 6) hq (by decide) (by decide))
    · refine (pk_div (d := 6) hq (by decide) (by decide)).trans (congrArg nI ?_)
      rw [Nat.div_div_eq_div_mul, ← Nat.pow_succ, show (3 - v).succ = 4 - v by omega]
    · intro j h1 h2
      by_cases e : j = v
      · subst e; exact pk_us
      · rw [pk_un e]; exact hV j (by omega) h2
theorem dx_look {post : SX → Prop} {C W F : Int32} {D K P Q R V Z : Nat → Int32} {a : Nat} (ha : a < 1296) (h : ∀ V', dn_V a V' → post (C, W, F, D, K, P, Q, R, V', Z)) : wpX_lookAt post (C, W, F, D, K, P, Q, R, V, Z) (nI a) := by
  have t := dx_look4 ha h 4 5 V (by omega) (by omega) (fun j h1 h2 => by omega)
  rw [show 4 - 4 = 0 from rfl, Nat.pow_zero, Nat.div_one] at t
  exact ⟨5, t⟩
/-! the sum, differences, digits, occurrences -/
theorem dx_sum7 {post : Int32 → Prop} {C W F : Int32} {D K P Q R V Z : Nat → Int32} {w : Nat} {d : Nat → Nat} (hw : w < 2 ^ 31) (hV : ∀ j, j < 4 → V j = nI (d j)) (h : post (dn_sm w d 4)) : ∀ k v n, v + k = 4 → k < n → wX_sumUnder_7 post C W F D K P Q R V Z n (nI (w / 7 ^ v)) (dn_sm w d v) (nI v) := by
  intro k
  induction k with
  | zero =>
    intro v n hv hn
    obtain ⟨m, rfl⟩ : ∃ m, n = m + 1 := ⟨n - 1, by omega⟩
    rw [show v = 4 by omega]
    exact br_t (nI_le (a := 4) (b := 4) (by decide) (by decide)) h
  | succ k ih =>
    intro v n hv hn
    obtain ⟨m, rfl⟩ : ∃ m, n = m + 1 := ⟨n - 1, by omega⟩
    have hq : w / 7 ^ v < 2 ^ 31 := Nat.lt_of_le_of_lt (Nat.div_le_self _ _) hw
    refine br_f (nI_ge (b := 4) (by omega) (by decide)) ⟨by decide, vp_in_nI (by omega) (by decide), nm_r (e' := dn_sm w d (v + 1)) ?_ ⟨by decide, nm_r (e' := nI (w / 7 ^ (v + 1))) ?_ (nm_r (nI_1 v) (ih (v + 1) m (by omega) (by omega)))⟩⟩
    · rw [nI_clamp (by omega), hV v (by omega)]
      exact congrArg (fun z => dn_sm w d v + (z - 3) * nI (d v)) (pk_rem (d := 7) hq (by decide) (by decide))
    · refine (pk_div (d := 7) hq (by decide) (by decide)).trans (congrArg nI ?_)
      rw [Nat.div_div_eq_div_mul, ← Nat.pow_succ]
theorem dx_sum {post : Int32 → Prop} {C W F : Int32} {D K P Q R V Z : Nat → Int32} {w : Nat} {d : Nat → Nat} (hw : w < 2 ^ 31) (hV : ∀ j, j < 4 → V j = nI (d j)) (h : post (dn_sm w d 4)) : wpX_sumUnder post (C, W, F, D, K, P, Q, R, V, Z) (nI w) := by
  have t := dx_sum7 (C := C) (W := W) (F := F) (D := D) (K := K) (P := P) (Q := Q) (R := R) (Z := Z) hw hV h 4 0 5 (by omega) (by omega)
  rw [Nat.pow_zero, Nat.div_one] at t
  exact ⟨5, t⟩
end
section
/-! the class: different, digits, occurrences, holds -/
def dn_seen (p : Int32) (d : Nat → Nat) (v : Nat) (s : Int32) : Prop := ∀ x, x < 6 → (bt s x = true ↔ ∃ w, w < v ∧ bt p w = true ∧ d w = x)
theorem dn_seen0 (p : Int32) (d : Nat → Nat) : dn_seen p d 0 0 := by
  intro x hx
  rw [b_0]
  exact ⟨fun h => (Bool.noConfusion h), fun ⟨w, hw, _⟩ => absurd hw (by omega)⟩
theorem dn_seenF {p : Int32} {d : Nat → Nat} {v : Nat} {s : Int32} (h : dn_seen p d v s) (hb : bt p v = false) : dn_seen p d (v + 1) s := by
  intro x hx
  rw [h x hx]
  constructor
  · exact fun ⟨w, h1, h2⟩ => ⟨w, by omega, h2⟩
  · intro ⟨w, h1, h2, h3⟩
    refine ⟨w, ?_, h2, h3⟩
    rcases Nat.lt_or_ge w v with z | z
    · exact z
    · rw [show w = v by omega, hb] at h2; cases h2
theorem dn_seenT {p : Int32} {d : Nat → Nat} {v : Nat} {s : Int32} (h : dn_seen p d v s) (hd : d v < 6) (hb : bt p v = true) : dn_seen p d (v + 1) (s ||| ((1 : Int32) <<< (nI (d v) &&& 31))) := by
  intro x hx
  rw [b_or, dn_one (d v) x (by omega) (by omega), Bool.or_eq_true, h x hx, decide_eq_true_iff]
  constructor
  · rintro (⟨w, h1, h2⟩ | rfl)
    · exact ⟨w, by omega, h2⟩
    · exact ⟨v, by omega, hb, rfl⟩
  · intro ⟨w, h1, h2, h3⟩
    rcases Nat.lt_or_ge w v with z | z
    · exact Or.inl ⟨w, z, h2, h3⟩
    · rw [show w = v by omega] at h3; exact Or.inr h3.symm
theorem dn_dfF {p : Int32} {d : Nat → Nat} {v : Nat} (h : dn_df p d v) (hb : bt p v = false) : dn_df p d (v + 1) := by
  intro x hx w hw b1 b2
  rcases Nat.lt_or_ge x v with z | z
  · exact h x z w hw b1 b2
  · rw [show x = v by omega, hb] at b1; cases b1
theorem dn_dfT {p : Int32} {d : Nat → Nat} {v : Nat} (h : dn_df p d v) (hn : ∀ w, w < v → bt p w = true → d v ≠ d w) : dn_df p d (v + 1) := by
  intro x hx w hw b1 b2
  rcases Nat.lt_or_ge x v with z | z
  · exact h x z w hw b1 b2
  · obtain rfl : x = v := by omega
    exact hn w hw b2
theorem dx_dif4 {post : Int32 → Prop} {C W F : Int32} {D K P Q R V Z : Nat → Int32} {p : Int32} {d : Nat → Nat} (hd : ∀ v, d v < 6) (hV : ∀ j, j < 4 → V j = nI (d j)) (h1 : dn_df p d 4 → post 1) (h0 : ¬ dn_df p d 4 → post 0) : ∀ k v n s, v + k = 4 → k < n → dn_seen p d v s → dn_df p d v → wX_areDifferent_4 post p C W F D K P Q R V Z n s (nI v) := by
  intro k
  induction k with
  | zero =>
    intro v n s hv hn hs hf
    obtain ⟨m, rfl⟩ : ∃ m, n = m + 1 := ⟨n - 1, by omega⟩
    obtain rfl : v = 4 := by omega
    exact br_t (nI_le (a := 4) (b := 4) (by decide) (by decide)) (h1 hf)
  | succ k ih =>
    intro v n s hv hn hs hf
    obtain ⟨m, rfl⟩ : ∃ m, n = m + 1 := ⟨n - 1, by omega⟩
    refine br_f (nI_ge (b := 4) (by omega) (by decide)) ?_
    cases hb : bt p v
    · exact br_t ((dn_tst0 p v (by omega)).mpr hb) (nm_r (nI_1 v) (ih (v + 1) m s (by omega) (by omega) (dn_seenF hs hb) (dn_dfF hf hb)))
    · refine br_f (fun z => by rw [dn_tst0 p v (by omega), hb] at z; cases z) ⟨vp_in_nI (by omega) (by decide), ?_⟩
      rw [nI_clamp (by omega), hV v (by omega)]
      have hdv := hd v
      cases hc : bt s (d v)
      · refine br_t ((dn_tst0 s (d v) (by omega)).mpr hc) ⟨vp_in_nI (by omega) (by decide), nm_e (nm_r (nI_1 v) (ih (v + 1) m _ (by omega) (by omega) (dn_seenT hs hdv hb) (dn_dfT hf ?_)))⟩
        intro w hw bw e
        have := (hs (d v) hdv).mpr ⟨w, hw, bw, e.symm⟩
        rw [hc] at this
        cases this
      · refine br_f (fun z => by rw [dn_tst0 s (d v) (by omega), hc] at z; cases z) (h0 (fun z => ?_))
        obtain ⟨w, hw, bw, e⟩ := (hs (d v) hdv).mp hc
        exact z v (by omega) w hw hb bw e.symm
theorem dx_dif {post : Int32 → Prop} {C W F : Int32} {D K P Q R V Z : Nat → Int32} {p : Int32} {d : Nat → Nat} (hd : ∀ v, d v < 6) (hV : ∀ j, j < 4 → V j = nI (d j)) (h1 : dn_df p d 4 → post 1) (h0 : ¬ dn_df p d 4 → post 0) : wpX_areDifferent post (C, W, F, D, K, P, Q, R, V, Z) p :=
  ⟨5, dx_dif4 hd hV h1 h0 4 0 5 0 (by omega) (by omega) (dn_seen0 p d) (fun v hv => absurd hv (by omega))⟩
theorem dx_dig4 {post : Int32 → Prop} {r y : Nat} (hr : r < 2 ^ 31) (hy : y < 2 ^ 31) (h : post (nI (r / 6 ^ y % 6))) : ∀ k v n, v + k = y → k < n → wX_digitOf_4 post (nI y) n (nI (r / 6 ^ v)) (nI v) := by
  intro k
  induction k with
  | zero =>
    intro v n hv hn
    obtain ⟨m, rfl⟩ : ∃ m, n = m + 1 := ⟨n - 1, by omega⟩
    obtain rfl : v = y := by omega
    have hq : r / 6 ^ v < 2 ^ 31 := Nat.lt_of_le_of_lt (Nat.div_le_self _ _) hr
    refine br_t (nI_le (by omega) hy) ⟨by decide, ?_⟩
    rw [show nI (r / 6 ^ v) - nI (r / 6 ^ v) / 6 * 6 = nI (r / 6 ^ v % 6) from pk_rem (d := 6) hq (by decide) (by decide)]
    exact h
  | succ k ih =>
    intro v n hv hn
    obtain ⟨m, rfl⟩ : ∃ m, n = m + 1 := ⟨n - 1, by omega⟩
    have hq : r / 6 ^ v < 2 ^ 31 := Nat.lt_of_le_of_lt (Nat.div_le_self _ _) hr
    refine br_f (nI_ge (by omega) hy) ⟨by decide, nm_r (e' := nI (r / 6 ^ (v + 1))) ?_ (nm_r (nI_1 v) (ih (v + 1) m (by omega) (by omega)))⟩
    refine (pk_div (d := 6) hq (by decide) (by decide)).trans (congrArg nI ?_)
    rw [Nat.div_div_eq_div_mul, ← Nat.pow_succ]
theorem dx_dig {post : Int32 → Prop} {r y : Nat} (hr : r < 2 ^ 31) (hy : y < 2 ^ 31) (h : post (nI (r / 6 ^ y % 6))) : wpX_digitOf post (nI r) (nI y) := by
  have t := dx_dig4 hr hy h y 0 (y + 1) (by omega) (by omega)
  rw [Nat.pow_zero, Nat.div_one] at t
  exact ⟨y + 1, t⟩
theorem dn_oct {p : Int32} {x v : Nat} {d : Nat → Nat} (hb : bt p v = true) (e : d v = x) : dn_oc p x d (v + 1) = dn_oc p x d v + 1 := if_pos ⟨hb, e⟩
theorem dn_ocf {p : Int32} {x v : Nat} {d : Nat → Nat} (h : bt p v = false ∨ d v ≠ x) : dn_oc p x d (v + 1) = dn_oc p x d v := by
  refine if_neg (fun z => ?_)
  rcases h with h | h
  · rw [h] at z; cases z.1
  · exact h z.2
theorem dx_occ5 {post : Int32 → Prop} {C W F : Int32} {D K P Q R V Z : Nat → Int32} {p : Int32} {x : Nat} {d : Nat → Nat} (hd : ∀ v, d v < 6) (hx : x < 2 ^ 31) (hV : ∀ j, j < 4 → V j = nI (d j)) (h : post (nI (dn_oc p x d 4))) : ∀ k v n, v + k = 4 → k < n → wX_occurrences_5 post p (nI x) C W F D K P Q R V Z n (nI (dn_oc p x d v)) (nI v) := by
  intro k
  induction k with
  | zero =>
    intro v n hv hn
    obtain ⟨m, rfl⟩ : ∃ m, n = m + 1 := ⟨n - 1, by omega⟩
    obtain rfl : v = 4 := by omega
    exact br_t (nI_le (a := 4) (b := 4) (by decide) (by decide)) h
  | succ k ih =>
    intro v n hv hn
    obtain ⟨m, rfl⟩ : ∃ m, n = m + 1 := ⟨n - 1, by omega⟩
    have t := ih (v + 1) m (by omega) (by omega)
    refine br_f (nI_ge (b := 4) (by omega) (by decide)) ?_
    cases hb : bt p v
    · rw [dn_ocf (Or.inl hb)] at t
      exact br_t ((dn_tst0 p v (by omega)).mpr hb) (nm_r (nI_1 v) t)
    · refine br_f (fun z => by rw [dn_tst0 p v (by omega), hb] at z; cases z) ⟨vp_in_nI (by omega) (by decide), ?_⟩
      rw [nI_clamp (by omega), hV v (by omega)]
      have hdv := hd v
      refine pk_eq (d v) x (fun e => ?_) (fun e => ?_) rfl rfl (by omega) hx
      · rw [dn_oct hb e] at t
        exact nm_r (nI_1 _) (nm_r (nI_1 v) t)
      · rw [dn_ocf (Or.inr e)] at t
        exact nm_r (nI_1 v) t
theorem dx_occ {post : Int32 → Prop} {C W F : Int32} {D K P Q R V Z : Nat → Int32} {p : Int32} {x : Nat} {d : Nat → Nat} (hd : ∀ v, d v < 6) (hx : x < 2 ^ 31) (hV : ∀ j, j < 4 → V j = nI (d j)) (h : post (nI (dn_oc p x d 4))) : wpX_occurrences post (C, W, F, D, K, P, Q, R, V, Z) p (nI x) :=
  ⟨5, dx_occ5 hd hx hV h 4 0 5 (by omega) (by omega)⟩
/-! what a constraint says, kind by kind -/
theorem dn_hs0 (p q r : Int32) (d : Nat → Nat) : dn_hs 0 p q r d = (dn_sm p.toNatClampNeg d 4 ≤ q) := by simp [dn_hs]
theorem dn_hs1 (p q r : Int32) (d : Nat → Nat) : dn_hs 1 p q r d = (dn_sm p.toNatClampNeg d 4 = q) := by simp [dn_hs]
theorem dn_hs2 (p q r : Int32) (d : Nat → Nat) : dn_hs 2 p q r d = dn_df p d 4 := by simp [dn_hs]
theorem dn_hs3 (p q r : Int32) (d : Nat → Nat) : dn_hs 3 p q r d = (d p.toNatClampNeg = r.toNatClampNeg / 6 ^ d q.toNatClampNeg % 6) := by simp [dn_hs]
theorem dn_hs4 (p q r : Int32) (d : Nat → Nat) : dn_hs 4 p q r d = (d p.toNatClampNeg * d q.toNatClampNeg = d r.toNatClampNeg) := by simp [dn_hs]
theorem dn_hs5 (p q r : Int32) (d : Nat → Nat) : dn_hs 5 p q r d = (d (p.toNatClampNeg / 6) = p.toNatClampNeg % 6 ↔ q.toNatClampNeg % 6 ≤ d (q.toNatClampNeg / 6)) := by simp [dn_hs]
theorem dn_hs6 (p q r : Int32) (d : Nat → Nat) : dn_hs 6 p q r d = (d q.toNatClampNeg + r.toNatClampNeg ≤ d p.toNatClampNeg ∨ d p.toNatClampNeg + r.toNatClampNeg ≤ d q.toNatClampNeg) := by simp [dn_hs]
theorem dn_hs7 (p q r : Int32) (d : Nat → Nat) : dn_hs 7 p q r d = (nI (dn_oc p r.toNatClampNeg d 4) = q) := by simp [dn_hs]
theorem dn_hs8 (p q r : Int32) (d : Nat → Nat) : dn_hs 8 p q r d = (d p.toNatClampNeg < d q.toNatClampNeg ∨ (d p.toNatClampNeg = d q.toNatClampNeg ∧ d (r.toNatClampNeg % 4) ≤ d (r.toNatClampNeg / 4))) := by simp [dn_hs]
/-- differences of small numbers -/
theorem dn_dge {a b r : Nat} (ha : a < 6) (hb : b < 6) (hr : r < 6) : nI r ≤ nI a - nI b ↔ b + r ≤ a := by
  rw [Int32.le_iff_toInt_le, nI_toInt (by omega), pk_sub_toInt (by omega) (by omega)]
  omega
theorem dn_dlt' {a b r : Nat} (ha : a < 6) (hb : b < 6) (hr : r < 6) : nI a - nI b < nI r ↔ ¬ b + r ≤ a := by
  rw [← Int32.not_le, dn_dge ha hb hr]
theorem dx_h192 {post : Int32 → Prop} {C W F : Int32} {D K P Q R V Z : Nat → Int32} {d : Nat → Nat} {q : Nat} {z : Int32} (hq : q ≤ 23) (hd : ∀ v, d v < 6) (hV : ∀ j, j < 4 → V j = nI (d j)) (hlt : d (q / 6) < q % 6 → (z = 0 → post 1) ∧ (¬ z = 0 → post 0)) (hge : q % 6 ≤ d (q / 6) → (z = 1 → post 1) ∧ (¬ z = 1 → post 0)) : wX_holds_192 post (nI q) z C W F D K P Q R V Z := by
  have e1 : nI q / 6 = nI (q / 6) := pk_div (d := 6) (by omega) (by decide) (by decide)
  have e2 : nI q - nI q / 6 * 6 = nI (q % 6) := pk_rem (d := 6) (by omega) (by decide) (by decide)
  unfold wX_holds_192
  rw [e2, e1, nI_clamp (by omega), hV (q / 6) (by omega)]
  have := hd (q / 6)
  exact ⟨by decide, vp_in_nI (by omega) (by decide), by decide, pk_lt (d (q / 6)) (q % 6) hlt hge rfl rfl (by omega) (by omega)⟩
theorem dx_holds {post : Int32 → Prop} {C W F : Int32} {D K P Q R V Z : Nat → Int32} {i : Nat} {d : Nat → Nat} (hi : i < 10) (hp : dn_pr (K i) (P i) (Q i) (R i)) (hd : ∀ v, d v < 6) (hV : ∀ j, j < 4 → V j = nI (d j)) (h1 : dn_hs (K i) (P i) (Q i) (R i) d → post 1) (h0 : ¬ dn_hs (K i) (P i) (Q i) (R i) d → post 0) : wpX_holds post (C, W, F, D, K, P, Q, R, V, Z) (nI i) := by
  have hc : (nI i).toNatClampNeg = i := nI_clamp (by omega)
  have hin : vp_in (nI i) 10 := vp_in_nI hi (by decide)
  refine ⟨hin, nm_r (congrArg P hc) ⟨hin, nm_r (congrArg Q hc) ⟨hin, nm_r (congrArg R hc) ⟨hin, nm_r (congrArg K hc) ?_⟩⟩⟩⟩
  generalize K i = k at hp h1 h0 ⊢
  generalize P i = p at hp h1 h0 ⊢
  generalize Q i = q at hp h1 h0 ⊢
  generalize R i = r at hp h1 h0 ⊢
  rcases dn_kinds hp with rfl | rfl | rfl | rfl | rfl | rfl | rfl | rfl | rfl
  · rw [dn_hs0] at h1 h0
    rw [dn_pr0] at hp
    obtain ⟨w, hw, rfl⟩ := dn_rn hp.1 (n := 2400) (by decide)
    rw [nI_clamp (by omega)] at h1 h0
    exact br_f (by decide) (br_f (by decide) (br_t rfl (dx_sum (by omega) hV (br_c (fun z => h0 (Int32.not_le.mpr z)) (fun z => h1 (Int32.not_lt.mp z))))))
  · rw [dn_hs1] at h1 h0
    rw [dn_pr1] at hp
    obtain ⟨w, hw, rfl⟩ := dn_rn hp.1 (n := 2400) (by decide)
    rw [nI_clamp (by omega)] at h1 h0
    exact br_f (by decide) (br_f (by decide) (br_f (by decide) (br_t rfl (dx_sum (by omega) hV (br_c h1 h0)))))
  · rw [dn_hs2] at h1 h0
    exact br_f (by decide) (br_f (by decide) (br_f (by decide) (br_f (by decide) (br_t rfl (dx_dif hd hV (fun z => ⟨rfl, h1 z⟩) (fun z => ⟨rfl, h0 z⟩))))))
  · rw [dn_hs3] at h1 h0
    rw [dn_pr3] at hp
    obtain ⟨a, ha, rfl⟩ := dn_rn hp.1 (n := 3) (by decide)
    obtain ⟨b, hb, rfl⟩ := dn_rn hp.2.1 (n := 3) (by decide)
    obtain ⟨c, hc, rfl⟩ := dn_rn hp.2.2 (n := 46655) (by decide)
    have da := hd a
    have db := hd b
    rw [nI_clamp (n := a) (by omega), nI_clamp (n := b) (by omega), nI_clamp (n := c) (by omega)] at h1 h0
    refine br_f (by decide) (br_f (by decide) (br_f (by decide) (br_f (by decide) (br_f (by decide) (br_t rfl ⟨vp_in_nI (by omega) (by decide), vp_in_nI (by omega) (by decide), ?_⟩)))))
    rw [nI_clamp (n := a) (by omega), nI_clamp (n := b) (by omega), hV a (by omega), hV b (by omega)]
    exact dx_dig (by omega) (by omega) (pk_eq (d a) (c / 6 ^ d b % 6) h1 h0 rfl rfl (by omega) (by omega))
  · rw [dn_hs4] at h1 h0
    rw [dn_pr4] at hp
    obtain ⟨a, ha, rfl⟩ := dn_rn hp.1 (n := 3) (by decide)
    obtain ⟨b, hb, rfl⟩ := dn_rn hp.2.1 (n := 3) (by decide)
    obtain ⟨c, hc, rfl⟩ := dn_rn hp.2.2 (n := 3) (by decide)
    have da := hd a
    have db := hd b
    have dc := hd c
    have dm : d a * d b ≤ 5 * 5 := Nat.mul_le_mul (by omega) (by omega)
    rw [nI_clamp (n := a) (by omega), nI_clamp (n := b) (by omega), nI_clamp (n := c) (by omega)] at h1 h0
    refine br_f (by decide) (br_f (by decide) (br_f (by decide) (br_f (by decide) (br_f (by decide) (br_f (by decide) (br_t rfl ⟨vp_in_nI (by omega) (by decide), vp_in_nI (by omega) (by decide), vp_in_nI (by omega) (by decide), ?_⟩))))))
    rw [nI_clamp (n := a) (by omega), nI_clamp (n := b) (by omega), nI_clamp (n := c) (by omega), hV a (by omega), hV b (by omega), hV c (by omega), pk_mul]
    exact pk_eq (d a * d b) (d c) h1 h0 rfl rfl (by omega) (by omega)
  · rw [dn_hs5] at h1 h0
    rw [dn_pr5] at hp
    obtain ⟨a, ha, rfl⟩ := dn_rn hp.1 (n := 23) (by decide)
    obtain ⟨b, hb, rfl⟩ := dn_rn hp.2 (n := 23) (by decide)
    rw [nI_clamp (n := a) (by omega), nI_clamp (n := b) (by omega)] at h1 h0
    have e1 : nI a / 6 = nI (a / 6) := pk_div (d := 6) (by omega) (by decide) (by decide)
    have e2 : nI a - nI a / 6 * 6 = nI (a % 6) := pk_rem (d := 6) (by omega) (by decide) (by decide)
    have da := hd (a / 6)
    refine br_f (by decide) (br_f (by decide) (br_f (by decide) (br_f (by decide) (br_f (by decide) (br_f (by decide) (br_f (by decide) (br_t rfl ⟨by decide, ?_⟩)))))))
    rw [e2, e1, nI_clamp (n := a / 6) (by omega), hV (a / 6) (by omega)]
    refine ⟨vp_in_nI (by omega) (by decide), by decide, pk_eq (d (a / 6)) (a % 6) (fun e => ?_) (fun e => ?_) rfl rfl (by omega) (by omega)⟩
    · exact dx_h192 hb hd hV (fun z => br_f (by decide) (h0 (fun y => absurd (y.mp e) (by omega)))) (fun z => br_t rfl (h1 ⟨fun _ => z, fun _ => e⟩))
    · exact dx_h192 hb hd hV (fun z => br_t rfl (h1 ⟨fun y => absurd y e, fun y => absurd y (by omega)⟩)) (fun z => br_f (by decide) (h0 (fun y => e (y.mpr z))))
  · rw [dn_hs6] at h1 h0
    rw [dn_pr6] at hp
    obtain ⟨a, ha, rfl⟩ := dn_rn hp.1 (n := 3) (by decide)
    obtain ⟨b, hb, rfl⟩ := dn_rn hp.2.1 (n := 3) (by decide)
    obtain ⟨c, hc, rfl⟩ := dn_rn hp.2.2 (n := 5) (by decide)
    have da := hd a
    have db := hd b
    rw [nI_clamp (n := a) (by omega), nI_clamp (n := b) (by omega), nI_clamp (n := c) (by omega)] at h1 h0
    refine br_f (by decide) (br_f (by decide) (br_f (by decide) (br_f (by decide) (br_f (by decide) (br_f (by decide) (br_f (by decide) (br_f (by decide) (br_t rfl ⟨vp_in_nI (by omega) (by decide), vp_in_nI (by omega) (by decide), ?_⟩))))))))
    rw [nI_clamp (n := a) (by omega), nI_clamp (n := b) (by omega), hV a (by omega), hV b (by omega)]
    refine br_c (fun z => h1 (Or.inl ((dn_dge da db (by omega)).mp z))) (fun z => ⟨vp_in_nI (by omega) (by decide), vp_in_nI (by omega) (by decide), br_c (fun y => h0 ?_) (fun y => h1 (Or.inr ?_))⟩)
    · rw [dn_dge da db (by omega)] at z
      rw [dn_dlt' db da (by omega)] at y
      exact fun x => x.elim z y
    · rw [dn_dlt' db da (by omega)] at y
      omega
  · rw [dn_hs7] at h1 h0
    rw [dn_pr7] at hp
    obtain ⟨c, hc, rfl⟩ := dn_rn hp.2.2 (n := 5) (by decide)
    rw [nI_clamp (n := c) (by omega)] at h1 h0
    exact br_f (by decide) (br_f (by decide) (br_f (by decide) (br_f (by decide) (br_f (by decide) (br_f (by decide) (br_f (by decide) (br_f (by decide) (br_f (by decide) (br_t rfl (dx_occ hd (by omega) hV (br_c h1 h0)))))))))))
  · rw [dn_hs8] at h1 h0
    rw [dn_pr8] at hp
    obtain ⟨a, ha, rfl⟩ := dn_rn hp.1 (n := 3) (by decide)
    obtain ⟨b, hb, rfl⟩ := dn_rn hp.2.1 (n := 3) (by decide)
    obtain ⟨c, hc, rfl⟩ := dn_rn hp.2.2 (n := 15) (by decide)
    have da := hd a
    have db := hd b
    have dc := hd (c % 4)
    have de := hd (c / 4)
    rw [nI_clamp (n := a) (by omega), nI_clamp (n := b) (by omega), nI_clamp (n := c) (by omega)] at h1 h0
    have e1 : nI c / 4 = nI (c / 4) := pk_div (d := 4) (by omega) (by decide) (by decide)
    have e2 : nI c - nI c / 4 * 4 = nI (c % 4) := pk_rem (d := 4) (by omega) (by decide) (by decide)
    refine br_f (by decide) (br_f (by decide) (br_f (by decide) (br_f (by decide) (br_f (by decide) (br_f (by decide) (br_f (by decide) (br_f (by decide) (br_f (by decide) (br_f (by decide) (br_t rfl ⟨vp_in_nI (by omega) (by decide), vp_in_nI (by omega) (by decide), ?_⟩))))))))))
    rw [e2, e1, nI_clamp (n := a) (by omega), nI_clamp (n := b) (by omega), nI_clamp (n := c % 4) (by omega), nI_clamp (n := c / 4) (by omega), hV a (by omega), hV b (by omega), hV (c % 4) (by omega), hV (c / 4) (by omega)]
    refine pk_lt (d a) (d b) (fun z => h1 (Or.inl z)) (fun z => ⟨vp_in_nI (by omega) (by decide), vp_in_nI (by omega) (by decide), pk_eq (d a) (d b) (fun e => ⟨by decide, vp_in_nI (by omega) (by decide), by decide, vp_in_nI (by omega) (by decide), pk_lt (d (c / 4)) (d (c % 4)) (fun y => h0 (fun x => by omega)) (fun y => h1 (Or.inr ⟨e, y⟩)) rfl rfl (by omega) (by omega)⟩) (fun e => h0 (fun x => by omega)) rfl rfl (by omega) (by omega)⟩) rfl rfl (by omega) (by omega)
end
section
/-! the class: which variables a constraint looks at, where the search is stuck, the search -/
theorem dn_us2 (p q r : Int32) (v : Nat) : dn_us 2 p q r v = (bt p v = true) := by simp [dn_us]
theorem dn_us3 (p q r : Int32) (v : Nat) : dn_us 3 p q r v = (v = p.toNatClampNeg ∨ v = q.toNatClampNeg) := by simp [dn_us]
theorem dn_us4 (p q r : Int32) (v : Nat) : dn_us 4 p q r v = (v = p.toNatClampNeg ∨ v = q.toNatClampNeg ∨ v = r.toNatClampNeg) := by simp [dn_us]
theorem dn_us5 (p q r : Int32) (v : Nat) : dn_us 5 p q r v = (v = p.toNatClampNeg / 6 ∨ v = q.toNatClampNeg / 6) := by simp [dn_us]
theorem dn_us6 (p q r : Int32) (v : Nat) : dn_us 6 p q r v = (v = p.toNatClampNeg ∨ v = q.toNatClampNeg) := by simp [dn_us]
theorem dn_us7 (p q r : Int32) (v : Nat) : dn_us 7 p q r v = (bt p v = true) := by simp [dn_us]
theorem dn_us8 (p q r : Int32) (v : Nat) : dn_us 8 p q r v = (v = p.toNatClampNeg ∨ v = q.toNatClampNeg ∨ v = r.toNatClampNeg % 4 ∨ v = r.toNatClampNeg / 4) := by simp [dn_us]
theorem dn_b15 : ∀ v, v < 4 → bt 15 v = true := by decide +kernel
theorem dn_or2 {a b v : Nat} (ha : a < 32) (hb : b < 32) (hv : v < 32) (h : v = a ∨ v = b) : bt (((1 : Int32) <<< (nI a &&& 31)) ||| ((1 : Int32) <<< (nI b &&& 31))) v = true := by
  rw [b_or, dn_one a v ha hv, dn_one b v hb hv]
  rcases h with rfl | rfl <;> simp
theorem dn_or3 {a b c v : Nat} (ha : a < 32) (hb : b < 32) (hc : c < 32) (hv : v < 32) (h : v = a ∨ v = b ∨ v = c) : bt ((((1 : Int32) <<< (nI a &&& 31)) ||| ((1 : Int32) <<< (nI b &&& 31))) ||| ((1 : Int32) <<< (nI c &&& 31))) v = true := by
  rw [b_or, b_or, dn_one a v ha hv, dn_one b v hb hv, dn_one c v hc hv]
  rcases h with rfl | rfl | rfl <;> simp
theorem dn_or4 {a b c e v : Nat} (ha : a < 32) (hb : b < 32) (hc : c < 32) (he : e < 32) (hv : v < 32) (h : v = a ∨ v = b ∨ v = c ∨ v = e) : bt (((((1 : Int32) <<< (nI a &&& 31)) ||| ((1 : Int32) <<< (nI b &&& 31))) ||| ((1 : Int32) <<< (nI c &&& 31))) ||| ((1 : Int32) <<< (nI e &&& 31))) v = true := by
  rw [b_or, b_or, b_or, dn_one a v ha hv, dn_one b v hb hv, dn_one c v hc hv, dn_one e v he hv]
  rcases h with rfl | rfl | rfl | rfl <;> simp
theorem dx_vars {post : Int32 → Prop} {C W F : Int32} {D K P Q R V Z : Nat → Int32} {i : Nat} (hi : i < 10) (hp : dn_pr (K i) (P i) (Q i) (R i)) (h : ∀ x, (∀ v, v < 4 → dn_us (K i) (P i) (Q i) (R i) v → bt x v = true) → post x) : wpX_variablesOf post (C, W, F, D, K, P, Q, R, V, Z) (nI i) := by
  have hc : (nI i).toNatClampNeg = i := nI_clamp (by omega)
  have hin : vp_in (nI i) 10 := vp_in_nI hi (by decide)
  refine ⟨hin, nm_r (congrArg P hc) ⟨hin, nm_r (congrArg Q hc) ⟨hin, nm_r (congrArg R hc) ⟨hin, nm_r (congrArg K hc) ?_⟩⟩⟩⟩
  generalize K i = k at hp h ⊢
  generalize P i = p at hp h ⊢
  generalize Q i = q at hp h ⊢
  generalize R i = r at hp h ⊢
  rcases dn_kinds hp with rfl | rfl | rfl | rfl | rfl | rfl | rfl | rfl | rfl
  · exact br_t (by decide) (h _ (fun v hv _ => dn_b15 v hv))
  · exact br_t (by decide) (h _ (fun v hv _ => dn_b15 v hv))
  · refine br_f (by decide) (br_f (by decide) (br_t rfl (h _ (fun v hv z => ?_))))
    rw [dn_us2] at z
    exact z
  · rw [dn_pr3] at hp
    obtain ⟨a, ha, rfl⟩ := dn_rn hp.1 (n := 3) (by decide)
    obtain ⟨b, hb, rfl⟩ := dn_rn hp.2.1 (n := 3) (by decide)
    refine br_f (by decide) (br_f (by decide) (br_f (by decide) (br_t rfl (h _ (fun v hv z => ?_)))))
    rw [dn_us3, nI_clamp (n := a) (by omega), nI_clamp (n := b) (by omega)] at z
    exact dn_or2 (by omega) (by omega) (by omega) z
  · rw [dn_pr4] at hp
    obtain ⟨a, ha, rfl⟩ := dn_rn hp.1 (n := 3) (by decide)
    obtain ⟨b, hb, rfl⟩ := dn_rn hp.2.1 (n := 3) (by decide)
    obtain ⟨c, hc, rfl⟩ := dn_rn hp.2.2 (n := 3) (by decide)
    refine br_f (by decide) (br_f (by decide) (br_f (by decide) (br_f (by decide) (br_t rfl (h _ (fun v hv z => ?_))))))
    rw [dn_us4, nI_clamp (n := a) (by omega), nI_clamp (n := b) (by omega), nI_clamp (n := c) (by omega)] at z
    exact dn_or3 (by omega) (by omega) (by omega) (by omega) z
  · rw [dn_pr5] at hp
    obtain ⟨a, ha, rfl⟩ := dn_rn hp.1 (n := 23) (by decide)
    obtain ⟨b, hb, rfl⟩ := dn_rn hp.2 (n := 23) (by decide)
    have e1 : nI a / 6 = nI (a / 6) := pk_div (d := 6) (by omega) (by decide) (by decide)
    have e2 : nI b / 6 = nI (b / 6) := pk_div (d := 6) (by omega) (by decide) (by decide)
    refine br_f (by decide) (br_f (by decide) (br_f (by decide) (br_f (by decide) (br_f (by decide) (br_t rfl ⟨by decide, by decide, h _ (fun v hv z => ?_)⟩)))))
    rw [dn_us5, nI_clamp (n := a) (by omega), nI_clamp (n := b) (by omega)] at z
    rw [e1, e2]
    exact dn_or2 (by omega) (by omega) (by omega) z
  · rw [dn_pr6] at hp
    obtain ⟨a, ha, rfl⟩ := dn_rn hp.1 (n := 3) (by decide)
    obtain ⟨b, hb, rfl⟩ := dn_rn hp.2.1 (n := 3) (by decide)
    refine br_f (by decide) (br_f (by decide) (br_f (by decide) (br_f (by decide) (br_f (by decide) (br_f (by decide) (br_t rfl (h _ (fun v hv z => ?_))))))))
    rw [dn_us6, nI_clamp (n := a) (by omega), nI_clamp (n := b) (by omega)] at z
    exact dn_or2 (by omega) (by omega) (by omega) z
  · refine br_f (by decide) (br_f (by decide) (br_f (by decide) (br_f (by decide) (br_f (by decide) (br_f (by decide) (br_f (by decide) (br_t rfl (h _ (fun v hv z => ?_)))))))))
    rw [dn_us7] at z
    exact z
  · rw [dn_pr8] at hp
    obtain ⟨a, ha, rfl⟩ := dn_rn hp.1 (n := 3) (by decide)
    obtain ⟨b, hb, rfl⟩ := dn_rn hp.2.1 (n := 3) (by decide)
    obtain ⟨c, hc, rfl⟩ := dn_rn hp.2.2 (n := 15) (by decide)
    have e1 : nI c / 4 = nI (c / 4) := pk_div (d := 4) (by omega) (by decide) (by decide)
    have e2 : nI c - nI c / 4 * 4 = nI (c % 4) := pk_rem (d := 4) (by omega) (by decide) (by decide)
    refine br_f (by decide) (br_f (by decide) (br_f (by decide) (br_f (by decide) (br_f (by decide) (br_f (by decide) (br_f (by decide) (br_f (by decide) (br_t rfl ⟨by decide, by decide, h _ (fun v hv z => ?_)⟩))))))))
    rw [dn_us8, nI_clamp (n := a) (by omega), nI_clamp (n := b) (by omega), nI_clamp (n := c) (by omega)] at z
    rw [e2, e1]
    exact dn_or4 (by omega) (by omega) (by omega) (by omega) (by omega) z
theorem dx_last11 {post : Int32 → Prop} {C W F : Int32} {D K P Q R V Z : Nat → Int32} {x : Int32} (h : ∀ m, m < 4 → (∀ w, w < 4 → bt x w = true → w ≤ m) → post (nI m)) : ∀ k v n m, v + k = 4 → k < n → m < 4 → m < v → (∀ w, w < v → bt x w = true → w ≤ m) → wX_lastVariable_11 post x C W F D K P Q R V Z n (nI m) (nI v) := by
  intro k
  induction k with
  | zero =>
    intro v n m hv hn hm hmv hw
    obtain ⟨m', rfl⟩ : ∃ m, n = m + 1 := ⟨n - 1, by omega⟩
    obtain rfl : v = 4 := by omega
    exact br_t (nI_le (a := 4) (b := 4) (by decide) (by decide)) (h m hm hw)
  | succ k ih =>
    intro v n m hv hn hm hmv hw
    obtain ⟨m', rfl⟩ : ∃ m, n = m + 1 := ⟨n - 1, by omega⟩
    refine br_f (nI_ge (b := 4) (by omega) (by decide)) ?_
    cases hb : bt x v
    · refine br_t ((dn_tst0 x v (by omega)).mpr hb) (nm_r (nI_1 v) (ih (v + 1) m' m (by omega) (by omega) hm (by omega) ?_))
      intro w h1 h2
      rcases Nat.lt_or_ge w v with z | z
      · exact hw w z h2
      · rw [show w = v by omega, hb] at h2; cases h2
    · refine br_f (fun z => by rw [dn_tst0 x v (by omega), hb] at z; cases z) (nm_r (nI_1 v) (ih (v + 1) m' v (by omega) (by omega) (by omega) (by omega) ?_))
      intro w h1 h2
      omega
theorem dx_last {post : Int32 → Prop} {C W F : Int32} {D K P Q R V Z : Nat → Int32} {i : Nat} (hi : i < 10) (hp : dn_pr (K i) (P i) (Q i) (R i)) (h : ∀ m, m < 4 → (∀ v, v < 4 → dn_us (K i) (P i) (Q i) (R i) v → v ≤ m) → post (nI m)) : wpX_lastVariable post (C, W, F, D, K, P, Q, R, V, Z) (nI i) := by
  unfold wpX_lastVariable
  exact dx_vars hi hp (fun x hx => ⟨4, dx_last11 (fun m hm hw => h m hm (fun v hv hu => hw v hv (hx v hv hu))) 3 1 4 0 (by omega) (by omega) (by omega) (by omega) (fun w hw _ => by omega)⟩)
/-! stuck -/
def dn_in (l : Int32) : Nat → Bool := fun j => !bt l j
theorem dx_stuck73 {post : Int32 → Prop} {J : Int32 → Int32 → Prop} {C W F : Int32} {D K P Q R V Z : Nat → Int32} {c a i s m : Nat} {l : Int32} (hc : c ≤ 10) (hi : i < c) (hp : dn_pr (K i) (P i) (Q i) (R i)) (hV : dn_V a V) (hm : m < 4) (hu : ∀ v, v < 4 → dn_us (K i) (P i) (Q i) (R i) v → v ≤ m) (hs : dn_sC D K P Q R c (dn_in l) a i s) (H : ∀ s', dn_sC D K P Q R c (dn_in l) a (i + 1) s' → J (nI s') (nI (i + 1))) : wX_stuckAt_73 post J l (nI s) (nI i) (nI m) C W F D K P Q R V Z := by
  have hs4 := hs.1
  unfold wX_stuckAt_73
  cases hb : bt l i
  · have hin : dn_in l i = true := by show (!bt l i) = true; rw [hb]; rfl
    refine br_t ((dn_tst0 l i (by omega)).mpr hb) (pk_le s m (fun z => ?_) (fun z => ?_) rfl rfl (by omega) (by omega))
    · exact nm_r (nI_1 i) (H s ⟨hs.1, fun e => by omega, hs.2.2⟩)
    · refine dx_holds (by omega) hp (dn_dlt a) hV (fun y => br_f (by decide) (nm_r (nI_1 i) (H s ⟨hs.1, fun e => ⟨(hs.2.1 e).1, fun j hj hjn => ?_⟩, hs.2.2⟩))) (fun y => br_t rfl (nm_r (nI_1 i) (H m ⟨by omega, fun e => by omega, fun _ => dn_noC hi hin hp hu y⟩)))
      rcases Nat.lt_or_ge j i with x | x
      · exact (hs.2.1 e).2 j x hjn
      · rw [show j = i by omega]; exact y
  · refine br_f (fun z => by rw [dn_tst0 l i (by omega), hb] at z; cases z) (nm_r (nI_1 i) (H s ⟨hs.1, fun e => ⟨(hs.2.1 e).1, fun j hj hjn => ?_⟩, hs.2.2⟩))
    rcases Nat.lt_or_ge j i with x | x
    · exact (hs.2.1 e).2 j x hjn
    · rw [show j = i by omega] at hjn
      have : (!bt l i) = true := hjn
      rw [hb] at this
      cases this
theorem dx_stuck48 {post : Int32 → Prop} {W F : Int32} {D K P Q R V Z : Nat → Int32} {c a : Nat} {l : Int32} (hc : c ≤ 10) (hp : ∀ i, i < c → dn_pr (K i) (P i) (Q i) (R i)) (hV : dn_V a V) (h : ∀ s, dn_sC D K P Q R c (dn_in l) a c s → post (nI s)) : ∀ k i n s, i + k = c → k < n → dn_sC D K P Q R c (dn_in l) a i s → wX_stuckAt_48 post l (nI c) W F D K P Q R V Z n (nI s) (nI i) := by
  intro k
  induction k with
  | zero =>
    intro i n s hi hn hs
    obtain ⟨m, rfl⟩ : ∃ m, n = m + 1 := ⟨n - 1, by omega⟩
    obtain rfl : i = c := by omega
    exact br_t (nI_le (by omega) (by omega)) (h s hs)
  | succ k ih =>
    intro i n s hi hn hs
    obtain ⟨m, rfl⟩ : ∃ m, n = m + 1 := ⟨n - 1, by omega⟩
    refine br_f (nI_ge (by omega) (by omega)) (br_c (fun z => ?_) (fun z => ?_))
    · exact dx_stuck73 (m := 3) hc (by omega) (hp i (by omega)) hV (by omega) (fun v hv _ => by omega) hs (fun s' hs' => ih (i + 1) m s' (by omega) (by omega) hs')
    · exact dx_last (by omega) (hp i (by omega)) (fun t ht hu => dx_stuck73 hc (by omega) (hp i (by omega)) hV ht hu hs (fun s' hs' => ih (i + 1) m s' (by omega) (by omega) hs'))
theorem dx_stuck4 {post : Int32 → Prop} {W F : Int32} {D K P Q R V Z : Nat → Int32} {c a : Nat} {l : Int32} (hc : c ≤ 10) (hp : ∀ i, i < c → dn_pr (K i) (P i) (Q i) (R i)) (hV : dn_V a V) (h : ∀ s, dn_sC D K P Q R c (dn_in l) a c s → post (nI s)) : ∀ v n s, v ≤ 4 → v < n → dn_sD D K P Q R c (dn_in l) a v s → wX_stuckAt_4 post l (nI c) W F D K P Q R V Z n (nI s) (nI v + (-1)) := by
  intro v
  induction v with
  | zero =>
    intro n s _ hn hs
    obtain ⟨m, rfl⟩ : ∃ m, n = m + 1 := ⟨n - 1, by omega⟩
    exact br_t (by decide) ⟨c + 1, dx_stuck48 hc hp hV h c 0 (c + 1) s (by omega) (by omega) (dn_sDC hs)⟩
  | succ v ih =>
    intro n s hv hn hs
    obtain ⟨m, rfl⟩ : ∃ m, n = m + 1 := ⟨n - 1, by omega⟩
    rw [pk_m1]
    refine br_f (nI_pos (by omega)) ⟨vp_in_nI (by omega) (by decide), vp_in_nI (by omega) (by decide), ?_⟩
    rw [nI_clamp (by omega), hV v (by omega)]
    have hdv := dn_dlt a v
    cases hb : bt (D v) (dn_d a v)
    · refine br_t ((dn_tst0 (D v) (dn_d a v) (by omega)).mpr hb) (br_c (fun z => ?_) (fun z => ?_))
      · exact nm_e (ih m 3 (by omega) (by omega) ⟨by omega, fun e => by omega, fun _ => dn_noD (by omega) (by omega) hb⟩)
      · exact nm_e (ih m v (by omega) (by omega) ⟨by omega, fun e => by omega, fun _ => dn_noD (by omega) (by omega) hb⟩)
    · refine br_f (fun z => by rw [dn_tst0 (D v) (dn_d a v) (by omega), hb] at z; cases z) (nm_e (ih m s (by omega) (by omega) ⟨hs.1, fun e w h1 h2 => ?_, hs.2.2⟩))
      by_cases hw : w = v
      · rw [hw]; exact hb
      · exact hs.2.1 e w (by omega) h2
theorem dx_stuck {post : Int32 → Prop} {W F : Int32} {D K P Q R V Z : Nat → Int32} {c a : Nat} {l : Int32} (hc : c ≤ 10) (hp : ∀ i, i < c → dn_pr (K i) (P i) (Q i) (R i)) (hV : dn_V a V) (h : ∀ s, dn_sC D K P Q R c (dn_in l) a c s → post (nI s)) : wpX_stuckAt post (nI c, W, F, D, K, P, Q, R, V, Z) l :=
  ⟨5, dx_stuck4 hc hp hV h 4 5 4 (by omega) (by omega) (dn_sD4 D K P Q R c (dn_in l) a)⟩
/-! the next code to look at -/
theorem dx_next6 {post : Int32 → Prop} {a s : Nat} (ha : a < 1296) (hs : s < 4) (h : post (nI (a - a % 6 ^ (3 - s) + 6 ^ (3 - s)))) : ∀ k v n, v + k = 4 → k < n → s + 1 ≤ v → wX_nextWithOtherValue_6 post (nI a) n (nI (6 ^ (v - (s + 1)))) (nI v) := by
  intro k
  induction k with
  | zero =>
    intro v n hv hn hsv
    obtain ⟨m, rfl⟩ : ∃ m, n = m + 1 := ⟨n - 1, by omega⟩
    obtain rfl : v = 4 := by omega
    have hB : 6 ^ (3 - s) ≤ 6 ^ 3 := Nat.pow_le_pow_right (by decide) (by omega)
    have hB0 : 0 < 6 ^ (3 - s) := Nat.pow_pos (by decide)
    rw [show 4 - (s + 1) = 3 - s by omega]
    have e : (nI a - (nI a - nI a / nI (6 ^ (3 - s)) * nI (6 ^ (3 - s)))) + nI (6 ^ (3 - s)) = nI (a - a % 6 ^ (3 - s) + 6 ^ (3 - s)) := by
      rw [pk_rem (by omega) hB0 (by omega), pk_sub (Nat.mod_le _ _), nI_add]
    refine br_t (nI_le (a := 4) (b := 4) (by decide) (by decide)) ⟨nI_ne0 hB0 (by omega), ?_⟩
    rw [e]
    exact h
  | succ k ih =>
    intro v n hv hn hsv
    obtain ⟨m, rfl⟩ : ∃ m, n = m + 1 := ⟨n - 1, by omega⟩
    refine br_f (nI_ge (b := 4) (by omega) (by decide)) (nm_r (e' := nI (6 ^ (v + 1 - (s + 1)))) ?_ (nm_r (nI_1 v) (ih (v + 1) m (by omega) (by omega) (by omega))))
    refine (pk_mul _ 6).trans (congrArg nI ?_)
    rw [show v + 1 - (s + 1) = (v - (s + 1)) + 1 by omega, Nat.pow_succ]
theorem dx_next {post : Int32 → Prop} {a s : Nat} (ha : a < 1296) (hs : s < 4) (h : post (nI (a - a % 6 ^ (3 - s) + 6 ^ (3 - s)))) : wpX_nextWithOtherValue post (nI a) (nI s) := by
  have t := dx_next6 ha hs h (3 - s) (s + 1) 5 (by omega) (by omega) (by omega)
  rw [show s + 1 - (s + 1) = 0 by omega, Nat.pow_zero] at t
  exact nm_r (nI_1 s) ⟨5, t⟩
/-! the search -/
theorem dx_find9 {post : SX → Prop} {W : Int32} {D K P Q R : Nat → Int32} {c : Nat} {l : Int32} (hc : c ≤ 10) (hp : ∀ i, i < c → dn_pr (K i) (P i) (Q i) (R i)) (h : ∀ V Z, dn_Li (dn_sb D K P Q R c (dn_in l)) 1296 Z → post (nI c, W, nI (dn_cn (dn_sb D K P Q R c (dn_in l)) 1296), D, K, P, Q, R, V, Z)) : ∀ k a n t V Z, a + k = 1296 → k < n → t < 2 ^ 31 → dn_Li (dn_sb D K P Q R c (dn_in l)) a Z → (∀ b, a ≤ b → b < t → dn_sb D K P Q R c (dn_in l) b = false) → wX_findSolutions_9 post l n (nI t) (nI a) (nI c) W (nI (dn_cn (dn_sb D K P Q R c (dn_in l)) a)) D K P Q R V Z := by
  intro k
  induction k with
  | zero =>
    intro a n t V Z ha hn ht hZ hb
    obtain ⟨m, rfl⟩ : ∃ m, n = m + 1 := ⟨n - 1, by omega⟩
    obtain rfl : a = 1296 := by omega
    exact br_t (nI_le (a := 1296) (b := 1296) (by decide) (by decide)) (h V Z hZ)
  | succ k ih =>
    intro a n t V Z ha hn ht hZ hb
    obtain ⟨m, rfl⟩ : ∃ m, n = m + 1 := ⟨n - 1, by omega⟩
    have hca := dn_cnb (dn_sb D K P Q R c (dn_in l)) a
    refine br_f (nI_ge (b := 1296) (by omega) (by decide)) (pk_le t a (fun hle => ?_) (fun hlt => ?_) rfl rfl ht (by omega))
    · refine dx_look (by omega) (fun V' hV' => ?_)
      refine dx_stuck hc hp hV' (fun s hs => ?_)
      have hs := dn_sCe hs
      have hs4 := hs.1
      refine pk_eq s 4 (fun e => ?_) (fun e => ?_) rfl rfl (by omega) (by omega)
      · have hS := hs.2.1 e
        have t' := ih (a + 1) m t V' _ (by omega) (by omega) ht (dn_Lit hZ) (fun b h1 h2 => by omega)
        rw [dn_cnt hS] at t'
        exact ⟨vp_in_nI (by omega) (by decide), nm_r (by rw [nI_clamp (by omega)]) (nm_r (nI_1 _) (nm_r (nI_1 a) t'))⟩
      · have hno := dn_skip (by omega) (hs.2.2 (by omega))
        have hB0 : 0 < 6 ^ (3 - s) := Nat.pow_pos (by decide)
        have hB : 6 ^ (3 - s) ≤ 6 ^ 3 := Nat.pow_le_pow_right (by decide) (by omega)
        have hm := Nat.mod_lt a hB0
        have hS := hno a (Nat.le_refl a) (by have := Nat.mod_le a (6 ^ (3 - s)); omega)
        have t' := ih (a + 1) m (a - a % 6 ^ (3 - s) + 6 ^ (3 - s)) V' Z (by omega) (by omega) (by omega) (dn_Lif hZ hS) (fun b h1 h2 => hno b (by omega) h2)
        rw [dn_cnf hS] at t'
        exact dx_next (by omega) (by omega) (nm_r (nI_1 a) t')
    · have hS := hb a (Nat.le_refl a) hlt
      have t' := ih (a + 1) m t V Z (by omega) (by omega) ht (dn_Lif hZ hS) (fun b h1 h2 => hb b (by omega) h2)
      rw [dn_cnf hS] at t'
      exact nm_r (nI_1 a) t'
theorem dx_find {post : SX → Prop} {W F : Int32} {D K P Q R V Z : Nat → Int32} {c : Nat} {l : Int32} (hc : c ≤ 10) (hp : ∀ i, i < c → dn_pr (K i) (P i) (Q i) (R i)) (h : ∀ V Z, dn_Li (dn_sb D K P Q R c (dn_in l)) 1296 Z → post (nI c, W, nI (dn_cn (dn_sb D K P Q R c (dn_in l)) 1296), D, K, P, Q, R, V, Z)) : wpX_findSolutions post (nI c, W, F, D, K, P, Q, R, V, Z) l :=
  ⟨1297, dx_find9 hc hp h 1296 0 1297 0 V Z (by omega) (by omega) (by omega) (fun a ha => absurd ha (by omega)) (fun b _ hb => absurd hb (by omega))⟩
end
section
/-! the class: the loops over the solutions found -/
def dn_sx (S : Nat → Bool) (f : Nat → Int32) (a : Nat) : Int32 := if (dn_op S f a).2.1 = 0 then 60 else (dn_op S f a).1
theorem dx_k50t {post : SX → Prop} {J : Int32 → Int32 → Int32 → Int32 → Int32 → Int32 → (Nat → Int32) → (Nat → Int32) → (Nat → Int32) → (Nat → Int32) → (Nat → Int32) → (Nat → Int32) → (Nat → Int32) → Prop} {w x2 x6 C W F : Int32} {D K P Q R V Z : Nat → Int32} {kp i a : Nat} (hk : kp < 1296) (e : x6 = x2) (H : J x2 (nI (kp + 1)) (nI (i + 1)) C W F D K P Q R V (upd Z kp (nI a))) : wX_keepSmallest_50 post J w x2 (nI kp) (nI i) (nI a) x6 C W F D K P Q R V Z :=
  br_t e ⟨vp_in_nI hk (by decide), nm_r (by rw [nI_clamp (by omega)]) (nm_r (nI_1 kp) (nm_r (nI_1 i) H))⟩
theorem dx_k50f {post : SX → Prop} {J : Int32 → Int32 → Int32 → Int32 → Int32 → Int32 → (Nat → Int32) → (Nat → Int32) → (Nat → Int32) → (Nat → Int32) → (Nat → Int32) → (Nat → Int32) → (Nat → Int32) → Prop} {w x2 x3 x5 x6 C W F : Int32} {D K P Q R V Z : Nat → Int32} {i : Nat} (e : ¬ x6 = x2) (H : J x2 x3 (nI (i + 1)) C W F D K P Q R V Z) : wX_keepSmallest_50 post J w x2 x3 (nI i) x5 x6 C W F D K P Q R V Z :=
  br_f e (nm_r (nI_1 i) H)
/-- from a on the list is as it was, and its head is the first of the least -/
def dn_KZ (S : Nat → Bool) (f : Nat → Int32) (a : Nat) (Z : Nat → Int32) : Prop :=
  (∀ b, a ≤ b → b < 1296 → S b = true → Z (dn_cn S b) = nI b) ∧ (0 < (dn_op S f a).2.1 → Z 0 = nI (dn_op S f a).2.2)
theorem dn_KZf {S : Nat → Bool} {f : Nat → Int32} {a : Nat} {Z : Nat → Int32} (h : dn_KZ S f a Z) (hs : S a = false) : dn_KZ S f (a + 1) Z := by
  unfold dn_KZ
  rw [dn_opf hs]
  exact ⟨fun b h1 h2 => h.1 b (by omega) h2, h.2⟩
theorem dn_KZ1 {S : Nat → Bool} {f : Nat → Int32} {a : Nat} {Z : Nat → Int32} (h : dn_KZ S f a Z) (hs : S a = true) (e : dn_op S f (a + 1) = (f a, 1, a)) : dn_KZ S f (a + 1) (upd Z 0 (nI a)) := by
  unfold dn_KZ
  rw [e]
  refine ⟨fun b h1 h2 h3 => ?_, fun _ => pk_us⟩
  have := dn_cnl S (show a < b by omega) hs
  rw [pk_un (by omega)]
  exact h.1 b (by omega) h2 h3
theorem dn_KZ2 {S : Nat → Bool} {f : Nat → Int32} {a : Nat} {Z : Nat → Int32} (h : dn_KZ S f a Z) (hs : S a = true) (hl : (dn_op S f a).2.1 ≤ dn_cn S a) (h0 : 0 < (dn_op S f a).2.1) (e : dn_op S f (a + 1) = ((dn_op S f a).1, (dn_op S f a).2.1 + 1, (dn_op S f a).2.2)) : dn_KZ S f (a + 1) (upd Z (dn_op S f a).2.1 (nI a)) := by
  unfold dn_KZ
  rw [e]
  refine ⟨fun b h1 h2 h3 => ?_, fun _ => ?_⟩
  · have := dn_cnl S (show a < b by omega) hs
    rw [pk_un (by omega)]
    exact h.1 b (by omega) h2 h3
  · rw [pk_un (by omega)]
    exact h.2 h0
theorem dn_KZ3 {S : Nat → Bool} {f : Nat → Int32} {a : Nat} {Z : Nat → Int32} (h : dn_KZ S f a Z) (e : dn_op S f (a + 1) = dn_op S f a) : dn_KZ S f (a + 1) Z := by
  unfold dn_KZ
  rw [e]
  exact ⟨fun b h1 h2 => h.1 b (by omega) h2, h.2⟩
theorem dx_keep8 {post : SX → Prop} {C W : Int32} {D K P Q R : Nat → Int32} {S : Nat → Bool} {w : Nat} (hw : w < 2 ^ 31) (h : ∀ V Z, (0 < (dn_op S (fun b => dn_sm w (dn_d b) 4) 1296).2.1 → Z 0 = nI (dn_op S (fun b => dn_sm w (dn_d b) 4) 1296).2.2) → post (C, W, nI (dn_op S (fun b => dn_sm w (dn_d b) 4) 1296).2.1, D, K, P, Q, R, V, Z)) : ∀ k a n V Z, a + k = 1296 → k < n → dn_KZ S (fun b => dn_sm w (dn_d b) 4) a Z → wX_keepSmallest_8 post (nI w) n (dn_sx S (fun b => dn_sm w (dn_d b) 4) a) (nI (dn_op S (fun b => dn_sm w (dn_d b) 4) a).2.1) (nI (dn_cn S a)) C W (nI (dn_cn S 1296)) D K P Q R V Z := by
  have hf : ∀ b, (fun b => dn_sm w (dn_d b) 4) b < 61 := fun b => dn_sm61 w b
  have hf6 : ∀ b, (fun b => dn_sm w (dn_d b) 4) b ≤ 60 := fun b => dn_sm60 w b
  have hfe : ∀ b, (fun b => dn_sm w (dn_d b) 4) b = dn_sm w (dn_d b) 4 := fun b => rfl
  generalize (fun b => dn_sm w (dn_d b) 4) = f at h hf hf6 hfe ⊢
  intro k
  have hc12 := dn_cnb S 1296
  induction k with
  | zero =>
    intro a n V Z ha hn hZ
    obtain ⟨m, rfl⟩ : ∃ m, n = m + 1 := ⟨n - 1, by omega⟩
    obtain rfl : a = 1296 := by omega
    exact br_t (nI_le (Nat.le_refl _) (by omega)) (h V Z hZ.2)
  | succ k ih =>
    intro a n V Z ha hn hZ
    cases hS : S a
    · have t := ih (a + 1) n V Z (by omega) (by omega) (dn_KZf hZ hS)
      unfold dn_sx at t ⊢
      rw [dn_opf hS, dn_cnf hS] at t
      exact t
    · obtain ⟨m, rfl⟩ : ∃ m, n = m + 1 := ⟨n - 1, by omega⟩
      have hlt := dn_cnl S (show a < 1296 by omega) hS
      refine br_f (nI_ge hlt (by omega)) ⟨vp_in_nI (by omega) (by decide), nm_r (e' := nI a) ?_ ?_⟩
      · rw [nI_clamp (by omega)]
        exact hZ.1 a (Nat.le_refl a) (by omega) hS
      refine dx_look (by omega) (fun V' hV' => ?_)
      refine dx_sum hw hV' ?_
      rw [← hfe a]
      have hone : dn_op S f (a + 1) = (f a, 1, a) → wX_keepSmallest_8 post (nI w) m (f a) (nI (0 + 1)) (nI (dn_cn S a + 1)) C W (nI (dn_cn S 1296)) D K P Q R V' (upd Z 0 (nI a)) := by
        intro e
        have t := ih (a + 1) m V' _ (by omega) (by omega) (dn_KZ1 hZ hS e)
        unfold dn_sx at t
        rw [e, dn_cnt hS] at t
        exact t
      rcases dn_opi (S := S) hf a with ⟨z, zc⟩ | ⟨z1, z2, z3, z4⟩
      · have e : dn_op S f (a + 1) = (f a, 1, a) := dn_opl hS (by rw [z]; exact hf a)
        have ex : dn_sx S f a = 60 := by unfold dn_sx; rw [z]; rfl
        rw [ex, z]
        refine br_c (fun y => ?_) (fun y => ?_)
        · have e60 : f a = 60 := Int32.le_antisymm (hf6 a) y
          refine dx_k50t (kp := 0) (by decide) e60 ?_
          have t := hone e
          rw [e60] at t
          exact t
        · exact dx_k50t (kp := 0) (by decide) rfl (hone e)
      · have ex : dn_sx S f a = (dn_op S f a).1 := by unfold dn_sx; rw [if_neg (by omega)]
        rw [ex]
        refine br_c (fun y => ?_) (fun y => ?_)
        · have hnl : ¬ f a < (dn_op S f a).1 := Int32.not_lt.mpr y
          by_cases e : f a = (dn_op S f a).1
          · have e2 := dn_ope hS hnl e
            have t := ih (a + 1) m V' _ (by omega) (by omega) (dn_KZ2 hZ hS z2 z1 e2)
            unfold dn_sx at t
            rw [e2, dn_cnt hS] at t
            exact dx_k50t (by omega) e t
          · have e2 := dn_opg hS hnl e
            have t := ih (a + 1) m V' Z (by omega) (by omega) (dn_KZ3 hZ e2)
            unfold dn_sx at t
            rw [e2, dn_cnt hS, if_neg (by omega)] at t
            exact dx_k50f e t
        · exact dx_k50t (kp := 0) (by decide) rfl (hone (dn_opl hS (Int32.not_le.mp y)))
theorem dx_keep {post : SX → Prop} {C W : Int32} {D K P Q R V Z : Nat → Int32} {S : Nat → Bool} {w : Nat} (hw : w < 2 ^ 31) (hZ : dn_Li S 1296 Z) (h : ∀ V Z, (0 < (dn_op S (fun b => dn_sm w (dn_d b) 4) 1296).2.1 → Z 0 = nI (dn_op S (fun b => dn_sm w (dn_d b) 4) 1296).2.2) → post (C, W, nI (dn_op S (fun b => dn_sm w (dn_d b) 4) 1296).2.1, D, K, P, Q, R, V, Z)) : wpX_keepSmallest post (C, W, nI (dn_cn S 1296), D, K, P, Q, R, V, Z) (nI w) :=
  ⟨1297, dx_keep8 hw h 1296 0 1297 V Z (by omega) (by omega) ⟨fun b _ h2 h3 => hZ b h2 h3, fun z => absurd z (Nat.lt_irrefl 0)⟩⟩
/-! possible values -/
theorem dx_pos20 {post : Int32 → SX → Prop} {C W : Int32} {D K P Q R Z : Nat → Int32} {S : Nat → Bool} {v : Nat} (hv : v < 4) (hZ : dn_Li S 1296 Z) (h : ∀ V, post (dn_ps S v 1296) (C, W, nI (dn_cn S 1296), D, K, P, Q, R, V, Z)) : ∀ k a n V, a + k = 1296 → k < n → wX_possible_20 post (nI v) n (dn_ps S v a) (nI (dn_cn S a)) C W (nI (dn_cn S 1296)) D K P Q R V Z := by
  intro k
  have hc12 := dn_cnb S 1296
  induction k with
  | zero =>
    intro a n V ha hn
    obtain ⟨m, rfl⟩ : ∃ m, n = m + 1 := ⟨n - 1, by omega⟩
    obtain rfl : a = 1296 := by omega
    exact br_t (nI_le (Nat.le_refl _) (by omega)) (h V)
  | succ k ih =>
    intro a n V ha hn
    cases hS : S a
    · have t := ih (a + 1) n V (by omega) (by omega)
      rw [dn_psf hS, dn_cnf hS] at t
      exact t
    · obtain ⟨m, rfl⟩ : ∃ m, n = m + 1 := ⟨n - 1, by omega⟩
      have hlt := dn_cnl S (show a < 1296 by omega) hS
      refine br_f (nI_ge hlt (by omega)) ⟨vp_in_nI (by omega) (by decide), ?_⟩
      rw [nI_clamp (n := dn_cn S a) (by omega), hZ a (by omega) hS]
      refine dx_look (by omega) (fun V' hV' => ?_)
      have t := ih (a + 1) m V' (by omega) (by omega)
      rw [dn_pst hS, dn_cnt hS] at t
      exact ⟨vp_in_nI hv (by decide), nm_r (by rw [nI_clamp (by omega), hV' v hv]) (nm_r (nI_1 _) t)⟩
/-! how many with a value -/
theorem dn_wxt {S : Nat → Bool} {v x a : Nat} (hs : S a = true) (e : dn_d a v = x) : dn_wx S v x a = true := by
  show (S a && decide (dn_d a v = x)) = true
  rw [hs, decide_eq_true e]
  rfl
theorem dn_wxf {S : Nat → Bool} {v x a : Nat} (h : S a = false ∨ dn_d a v ≠ x) : dn_wx S v x a = false := by
  show (S a && decide (dn_d a v = x)) = false
  rcases h with h | h
  · rw [h]; rfl
  · rw [decide_eq_false h, Bool.and_false]
theorem dx_cw30 {post : Int32 → SX → Prop} {C W : Int32} {D K P Q R Z : Nat → Int32} {S : Nat → Bool} {v x : Nat} (hv : v < 4) (hx : x < 6) (hZ : dn_Li S 1296 Z) (h : ∀ V, post (nI (dn_cn (dn_wx S v x) 1296)) (C, W, nI (dn_cn S 1296), D, K, P, Q, R, V, Z)) : ∀ k a n V, a + k = 1296 → k < n → wX_countWith_30 post (nI v) (nI x) n (nI (dn_cn (dn_wx S v x) a)) (nI (dn_cn S a)) C W (nI (dn_cn S 1296)) D K P Q R V Z := by
  intro k
  have hc12 := dn_cnb S 1296
  induction k with
  | zero =>
    intro a n V ha hn
    obtain ⟨m, rfl⟩ : ∃ m, n = m + 1 := ⟨n - 1, by omega⟩
    obtain rfl : a = 1296 := by omega
    exact br_t (nI_le (Nat.le_refl _) (by omega)) (h V)
  | succ k ih =>
    intro a n V ha hn
    cases hS : S a
    · have t := ih (a + 1) n V (by omega) (by omega)
      rw [dn_cnf (dn_wxf (Or.inl hS)), dn_cnf hS] at t
      exact t
    · obtain ⟨m, rfl⟩ : ∃ m, n = m + 1 := ⟨n - 1, by omega⟩
      have hlt := dn_cnl S (show a < 1296 by omega) hS
      refine br_f (nI_ge hlt (by omega)) ⟨vp_in_nI (by omega) (by decide), ?_⟩
      rw [nI_clamp (n := dn_cn S a) (by omega), hZ a (by omega) hS]
      refine dx_look (by omega) (fun V' hV' => ⟨vp_in_nI hv (by decide), ?_⟩)
      have hdv := dn_dlt a v
      have t := ih (a + 1) m V' (by omega) (by omega)
      rw [nI_clamp (by omega), hV' v hv]
      refine pk_eq (dn_d a v) x (fun e => ?_) (fun e => ?_) rfl rfl (by omega) (by omega)
      · rw [dn_cnt (dn_wxt hS e), dn_cnt hS] at t
        exact nm_r (nI_1 _) (nm_r (nI_1 _) t)
      · rw [dn_cnf (dn_wxf (Or.inr e)), dn_cnt hS] at t
        exact nm_r (nI_1 _) t
end
section
/-! the class: blame -/
noncomputable def dn_E (D K P Q R : Nat → Int32) (c : Nat) (inc : Nat → Bool) : Bool := decide (dn_cn (dn_sb D K P Q R c inc) 1296 = 0)
theorem dn_Ec {D K P Q R : Nat → Int32} {c : Nat} {inc jnc : Nat → Bool} (h : ∀ i, i < c → inc i = jnc i) : dn_cn (dn_sb D K P Q R c inc) 1296 = dn_cn (dn_sb D K P Q R c jnc) 1296 := by rw [dn_soc h]
theorem dx_blame20 {post : Int32 → SX → Prop} {W : Int32} {D K P Q R : Nat → Int32} {c : Nat} (hc : c ≤ 10) (hp : ∀ i, i < c → dn_pr (K i) (P i) (Q i) (R i)) (h : ∀ F V Z b, (∀ j, j < 32 → bt b j = (decide (j < c) && !dn_lo (dn_E D K P Q R c) c j)) → post b (nI c, W, F, D, K, P, Q, R, V, Z)) : ∀ k i n F V Z l b, i + k = c → k < n → (∀ j, j < 32 → bt l j = dn_lo (dn_E D K P Q R c) i j) → (∀ j, j < 32 → bt b j = (decide (j < i) && !dn_lo (dn_E D K P Q R c) i j)) → wX_blame_20 post n l b (nI i) (nI c) W F D K P Q R V Z := by
  intro k
  induction k with
  | zero =>
    intro i n F V Z l b hi hn hl hb
    obtain ⟨m, rfl⟩ : ∃ m, n = m + 1 := ⟨n - 1, by omega⟩
    obtain rfl : i = c := by omega
    exact br_t (nI_le (Nat.le_refl _) (by omega)) (h F V Z b hb)
  | succ k ih =>
    intro i n F V Z l b hi hn hl hb
    obtain ⟨m, rfl⟩ : ∃ m, n = m + 1 := ⟨n - 1, by omega⟩
    have hl' : ∀ j, j < 32 → bt (l ||| ((1 : Int32) <<< (nI i &&& 31))) j = (dn_lo (dn_E D K P Q R c) i j || decide (j = i)) := by
      intro j hj
      rw [b_or, hl j hj, dn_one i j (by omega) hj]
    have hb' : ∀ j, j < 32 → bt (b ||| ((1 : Int32) <<< (nI i &&& 31))) j = ((decide (j < i) && !dn_lo (dn_E D K P Q R c) i j) || decide (j = i)) := by
      intro j hj
      rw [b_or, hb j hj, dn_one i j (by omega) hj]
    have hcn := dn_cnb (dn_sb D K P Q R c (dn_in (l ||| ((1 : Int32) <<< (nI i &&& 31))))) 1296
    have hE : dn_cn (dn_sb D K P Q R c (dn_in (l ||| ((1 : Int32) <<< (nI i &&& 31))))) 1296 = dn_cn (dn_sb D K P Q R c (fun j => !(dn_lo (dn_E D K P Q R c) i j || decide (j = i)))) 1296 :=
      dn_Ec (fun j hj => congrArg (fun z => !z) (hl' j (by omega)))
    refine br_f (nI_ge (by omega) (by omega)) ?_
    refine dx_find hc hp (fun V' Z' _ => ?_)
    refine pk_eq (dn_cn (dn_sb D K P Q R c (dn_in (l ||| ((1 : Int32) <<< (nI i &&& 31))))) 1296) 0 (fun e => ?_) (fun e => ?_) rfl rfl (by omega) (by omega)
    · have hlo := dn_lot (E := dn_E D K P Q R c) (i := i) (decide_eq_true (hE.symm.trans e))
      refine nm_e (nm_r (nI_1 i) (ih (i + 1) m _ V' Z' _ b (by omega) (by omega) (fun j hj => ?_) (fun j hj => ?_)))
      · rw [hlo]; exact hl' j hj
      · rw [hlo, hb j hj]
        show _ = (decide (j < i + 1) && !(dn_lo (dn_E D K P Q R c) i j || decide (j = i)))
        by_cases z : j = i
        · rw [decide_eq_true z, decide_eq_false (by omega), Bool.or_true, Bool.false_and, Bool.not_true, Bool.and_false]
        · rw [decide_eq_false z, Bool.or_false]
          by_cases y : j < i
          · rw [decide_eq_true y, decide_eq_true (by omega)]
          · rw [decide_eq_false y, decide_eq_false (by omega)]
    · have hlo := dn_lof (E := dn_E D K P Q R c) (i := i) (decide_eq_false (fun z => e (hE.trans z)))
      refine nm_e (nm_r (nI_1 i) (ih (i + 1) m _ V' Z' l _ (by omega) (by omega) (fun j hj => ?_) (fun j hj => ?_)))
      · rw [hlo]; exact hl j hj
      · rw [hlo, hb' j hj]
        by_cases z : j = i
        · rw [decide_eq_true z, Bool.or_true, z, dn_lob i i (Nat.le_refl i), decide_eq_true (show i < i + 1 by omega)]
          rfl
        · rw [decide_eq_false z, Bool.or_false]
          by_cases y : j < i
          · rw [decide_eq_true y, decide_eq_true (by omega)]
          · rw [decide_eq_false y, decide_eq_false (by omega)]
end
section
/-! the reference: its small methods. Its state is (n, kind, p, q, r, domains, values): (C, K, P, Q, R, D, V) -/
theorem dy_in {post : Int32 → Prop} {C : Int32} {K P Q R D V : Nat → Int32} {x a b : Int32} (h1 : dn_rg x a b → post 1) (h0 : ¬ dn_rg x a b → post 0) : wpY_in post (C, K, P, Q, R, D, V) x a b :=
  br_c (fun h => h0 (fun z => Int32.not_le.mpr h z.1)) (fun h => br_c (fun g => h0 (fun z => Int32.not_le.mpr g z.2)) (fun g => h1 ⟨Int32.not_lt.mp h, Int32.not_lt.mp g⟩))
theorem dn_k8 {k : Int32} (h : dn_rg k 0 8) : k = 0 ∨ k = 1 ∨ k = 2 ∨ k = 3 ∨ k = 4 ∨ k = 5 ∨ k = 6 ∨ k = 7 ∨ k = 8 := by
  obtain ⟨j, hj, rfl⟩ := dn_rn h (n := 8) (by decide)
  exact (by decide +kernel : ∀ j, j ≤ 8 → nI j = 0 ∨ nI j = 1 ∨ nI j = 2 ∨ nI j = 3 ∨ nI j = 4 ∨ nI j = 5 ∨ nI j = 6 ∨ nI j = 7 ∨ nI j = 8) j hj
theorem dn_prk {k p q r : Int32} (h : dn_pr k p q r) : dn_rg k 0 8 := by
  rcases dn_kinds h with rfl | rfl | rfl | rfl | rfl | rfl | rfl | rfl | rfl <;> exact ⟨by decide, by decide⟩
theorem dy_fits {post : Int32 → Prop} {C : Int32} {K P Q R D V : Nat → Int32} {k p q r : Int32} (hk : dn_rg k 0 8) (h1 : dn_pr k p q r → post 1) (h0 : ¬ dn_pr k p q r → post 0) : wpY_fits post (C, K, P, Q, R, D, V) k p q r := by
  unfold wpY_fits
  rcases dn_k8 hk with rfl | rfl | rfl | rfl | rfl | rfl | rfl | rfl | rfl
  · rw [dn_pr0] at h1 h0
    exact br_f (by decide) (dy_in (fun a => br_f (by decide) (dy_in (fun b => br_f (by decide) (h1 ⟨a, b⟩)) (fun b => br_t rfl (h0 (fun z => b z.2))))) (fun a => br_t rfl (h0 (fun z => a z.1))))
  · rw [dn_pr1] at h1 h0
    exact br_f (by decide) (dy_in (fun a => br_f (by decide) (dy_in (fun b => br_f (by decide) (h1 ⟨a, b⟩)) (fun b => br_t rfl (h0 (fun z => b z.2))))) (fun a => br_t rfl (h0 (fun z => a z.1))))
  · rw [dn_pr2] at h1 h0
    exact br_t (by decide) (br_t rfl (dy_in (fun a => ⟨rfl, h1 a⟩) (fun a => ⟨rfl, h0 a⟩)))
  · rw [dn_pr3] at h1 h0
    exact br_t (by decide) (br_f (by decide) (br_t rfl (dy_in (fun a => br_f (by decide) (dy_in (fun b => br_f (by decide) (dy_in (fun c => br_f (by decide) (h1 ⟨a, b, c⟩)) (fun c => br_t rfl (h0 (fun z => c z.2.2))))) (fun b => br_t rfl (h0 (fun z => b z.2.1))))) (fun a => br_t rfl (h0 (fun z => a z.1))))))
  · rw [dn_pr4] at h1 h0
    exact br_t (by decide) (br_f (by decide) (br_f (by decide) (br_t rfl (dy_in (fun a => br_f (by decide) (dy_in (fun b => br_f (by decide) (dy_in (fun c => br_f (by decide) (h1 ⟨a, b, c⟩)) (fun c => br_t rfl (h0 (fun z => c z.2.2))))) (fun b => br_t rfl (h0 (fun z => b z.2.1))))) (fun a => br_t rfl (h0 (fun z => a z.1)))))))
  · rw [dn_pr5] at h1 h0
    exact br_t (by decide) (br_f (by decide) (br_f (by decide) (br_f (by decide) (br_t rfl (dy_in (fun a => br_f (by decide) (dy_in (fun b => br_f (by decide) (h1 ⟨a, b⟩)) (fun b => br_t rfl (h0 (fun z => b z.2))))) (fun a => br_t rfl (h0 (fun z => a z.1))))))))
  · rw [dn_pr6] at h1 h0
    exact br_t (by decide) (br_f (by decide) (br_f (by decide) (br_f (by decide) (br_f (by decide) (br_t rfl (dy_in (fun a => br_f (by decide) (dy_in (fun b => br_f (by decide) (dy_in (fun c => br_f (by decide) (h1 ⟨a, b, c⟩)) (fun c => br_t rfl (h0 (fun z => c z.2.2))))) (fun b => br_t rfl (h0 (fun z => b z.2.1))))) (fun a => br_t rfl (h0 (fun z => a z.1)))))))))
  · rw [dn_pr7] at h1 h0
    exact br_t (by decide) (br_f (by decide) (br_f (by decide) (br_f (by decide) (br_f (by decide) (br_f (by decide) (br_t rfl (dy_in (fun a => br_f (by decide) (dy_in (fun b => br_f (by decide) (dy_in (fun c => br_f (by decide) (h1 ⟨a, b, c⟩)) (fun c => br_t rfl (h0 (fun z => c z.2.2))))) (fun b => br_t rfl (h0 (fun z => b z.2.1))))) (fun a => br_t rfl (h0 (fun z => a z.1))))))))))
  · rw [dn_pr8] at h1 h0
    exact br_t (by decide) (br_f (by decide) (br_f (by decide) (br_f (by decide) (br_f (by decide) (br_f (by decide) (br_f (by decide) (dy_in (fun a => br_f (by decide) (dy_in (fun b => br_f (by decide) (dy_in (fun c => br_f (by decide) (h1 ⟨a, b, c⟩)) (fun c => br_t rfl (h0 (fun z => c z.2.2))))) (fun b => br_t rfl (h0 (fun z => b z.2.1))))) (fun a => br_t rfl (h0 (fun z => a z.1))))))))))
theorem dy_sum7 {post : Int32 → Prop} {C : Int32} {K P Q R D V : Nat → Int32} {w : Nat} {d : Nat → Nat} (hw : w < 2 ^ 31) (hV : ∀ j, j < 4 → V j = nI (d j)) (h : post (dn_sm w d 4)) : ∀ k v n, v + k = 4 → k < n → wY_sum_7 post C K P Q R D V n (nI (w / 7 ^ v)) (dn_sm w d v) (nI v) := by
  intro k
  induction k with
  | zero =>
    intro v n hv hn
    obtain ⟨m, rfl⟩ : ∃ m, n = m + 1 := ⟨n - 1, by omega⟩
    rw [show v = 4 by omega]
    exact br_t (nI_le (a := 4) (b := 4) (by decide) (by decide)) h
  | succ k ih =>
    intro v n hv hn
    obtain ⟨m, rfl⟩ : ∃ m, n = m + 1 := ⟨n - 1, by omega⟩
    have hq : w / 7 ^ v < 2 ^ 31 := Nat.lt_of_le_of_lt (Nat.div_le_self _ _) hw
    refine br_f (nI_ge (b := 4) (by omega) (by decide)) ⟨by decide, vp_in_nI (by omega) (by decide), nm_r (e' := dn_sm w d (v + 1)) ?_ ⟨by decide, nm_r (e' := nI (w / 7 ^ (v + 1))) ?_ (nm_r (nI_1 v) (ih (v + 1) m (by omega) (by omega)))⟩⟩
    · rw [nI_clamp (by omega), hV v (by omega)]
      exact congrArg (fun z => dn_sm w d v + (z - 3) * nI (d v)) (pk_rem (d := 7) hq (by decide) (by decide))
    · refine (pk_div (d := 7) hq (by decide) (by decide)).trans (congrArg nI ?_)
      rw [Nat.div_div_eq_div_mul, ← Nat.pow_succ]
theorem dy_sum {post : Int32 → Prop} {C : Int32} {K P Q R D V : Nat → Int32} {w : Nat} {d : Nat → Nat} (hw : w < 2 ^ 31) (hV : ∀ j, j < 4 → V j = nI (d j)) (h : post (dn_sm w d 4)) : wpY_sum post (C, K, P, Q, R, D, V) (nI w) := by
  have t := dy_sum7 (C := C) (K := K) (P := P) (Q := Q) (R := R) (D := D) hw hV h 4 0 5 (by omega) (by omega)
  rw [Nat.pow_zero, Nat.div_one] at t
  exact ⟨5, t⟩
/-! different: the bits of two variables at once -/
theorem dn_tst2 (x : Int32) (i j : Nat) (hi : i < 31) (hj : j < 31) : ((x >>> (nI i &&& 31)) &&& (x >>> (nI j &&& 31))) &&& 1 = 1 ↔ (bt x i = true ∧ bt x j = true) := by
  have e : ((x >>> (nI i &&& 31)) &&& (x >>> (nI j &&& 31))) &&& 1 = if bt x i = true ∧ bt x j = true then 1 else 0 := by
    apply b_ext
    intro t ht
    rw [b_and, b_and, b_sshr i (by omega) x ht, b_sshr j (by omega) x ht, dn_bt1]
    by_cases h0 : t = 0
    · subst h0
      rw [if_pos (by omega), if_pos (by omega), Nat.add_zero, Nat.add_zero]
      cases h1 : bt x i <;> cases h2 : bt x j
      · rw [if_neg (by simp), b_0]; rfl
      · rw [if_neg (by simp), b_0]; rfl
      · rw [if_neg (by simp), b_0]; rfl
      · rw [if_pos (by simp), dn_bt1]; rfl
    · rw [decide_eq_false h0, Bool.and_false]
      by_cases hc : bt x i = true ∧ bt x j = true
      · rw [if_pos hc, dn_bt1, decide_eq_false h0]
      · rw [if_neg hc, b_0]
  rw [e]
  by_cases hc : bt x i = true ∧ bt x j = true
  · rw [if_pos hc]; exact ⟨fun _ => hc, fun _ => rfl⟩
  · rw [if_neg hc]; exact ⟨fun z => absurd z (by decide), fun z => absurd z hc⟩
theorem dy_dif9 {post : Int32 → Prop} {J : Int32 → Prop} {C : Int32} {K P Q R D V : Nat → Int32} {p : Int32} {d : Nat → Nat} {v : Nat} (hd : ∀ v, d v < 6) (hv : v < 4) (hV : ∀ j, j < 4 → V j = nI (d j)) (h0 : ¬ dn_df p d 4 → post 0) (H : (∀ w, w < v → bt p v = true → bt p w = true → d v ≠ d w) → J (nI (v + 1))) : ∀ k w n, w + k = v → k < n → (∀ x, x < w → bt p v = true → bt p x = true → d v ≠ d x) → wY_isDifferent_9 post J p (nI v) C K P Q R D V n (nI w) := by
  intro k
  induction k with
  | zero =>
    intro w n hw hn hx
    obtain ⟨m, rfl⟩ : ∃ m, n = m + 1 := ⟨n - 1, by omega⟩
    obtain rfl : w = v := by omega
    exact br_t (nI_le (Nat.le_refl _) (by omega)) (nm_r (nI_1 w) (H hx))
  | succ k ih =>
    intro w n hw hn hx
    obtain ⟨m, rfl⟩ : ∃ m, n = m + 1 := ⟨n - 1, by omega⟩
    refine br_f (nI_ge (by omega) (by omega)) (br_c (fun z => ?_) (fun z => ?_))
    · rw [dn_tst2 p v w (by omega) (by omega)] at z
      have dv := hd v
      have dw := hd w
      refine ⟨vp_in_nI hv (by decide), vp_in_nI (by omega) (by decide), ?_⟩
      rw [nI_clamp (n := v) (by omega), nI_clamp (n := w) (by omega), hV v hv, hV w (by omega)]
      refine pk_eq (d v) (d w) (fun e => h0 (fun y => y v hv w (by omega) z.1 z.2 e)) (fun e => nm_r (nI_1 w) (ih (w + 1) m (by omega) (by omega) ?_)) rfl rfl (by omega) (by omega)
      intro x h1 h2 h3
      rcases Nat.lt_or_ge x w with y | y
      · exact hx x y h2 h3
      · rw [show x = w by omega]; exact e
    · rw [dn_tst2 p v w (by omega) (by omega)] at z
      refine nm_r (nI_1 w) (ih (w + 1) m (by omega) (by omega) ?_)
      intro x h1 h2 h3
      rcases Nat.lt_or_ge x w with y | y
      · exact hx x y h2 h3
      · rw [show x = w by omega] at h3
        exact absurd ⟨h2, h3⟩ z
theorem dy_dif2 {post : Int32 → Prop} {C : Int32} {K P Q R D V : Nat → Int32} {p : Int32} {d : Nat → Nat} (hd : ∀ v, d v < 6) (hV : ∀ j, j < 4 → V j = nI (d j)) (h1 : dn_df p d 4 → post 1) (h0 : ¬ dn_df p d 4 → post 0) : ∀ k v n, v + k = 4 → k < n → dn_df p d v → wY_isDifferent_2 post p C K P Q R D V n (nI v) := by
  intro k
  induction k with
  | zero =>
    intro v n hv hn hf
    obtain ⟨m, rfl⟩ : ∃ m, n = m + 1 := ⟨n - 1, by omega⟩
    obtain rfl : v = 4 := by omega
    exact br_t (nI_le (a := 4) (b := 4) (by decide) (by decide)) (h1 hf)
  | succ k ih =>
    intro v n hv hn hf
    obtain ⟨m, rfl⟩ : ∃ m, n = m + 1 := ⟨n - 1, by omega⟩
    refine br_f (nI_ge (b := 4) (by omega) (by decide)) ⟨v + 1, dy_dif9 hd (by omega) hV h0 (fun hn' => ih (v + 1) m (by omega) (by omega) ?_) v 0 (v + 1) (by omega) (by omega) (fun x hx => absurd hx (by omega))⟩
    intro x hx w hw b1 b2
    rcases Nat.lt_or_ge x v with z | z
    · exact hf x z w hw b1 b2
    · obtain rfl : x = v := by omega
      exact hn' w hw b1 b2
theorem dy_dif {post : Int32 → Prop} {C : Int32} {K P Q R D V : Nat → Int32} {p : Int32} {d : Nat → Nat} (hd : ∀ v, d v < 6) (hV : ∀ j, j < 4 → V j = nI (d j)) (h1 : dn_df p d 4 → post 1) (h0 : ¬ dn_df p d 4 → post 0) : wpY_isDifferent post (C, K, P, Q, R, D, V) p :=
  ⟨5, dy_dif2 hd hV h1 h0 4 0 5 (by omega) (by omega) (fun v hv => absurd hv (by omega))⟩
theorem dy_dig5 {post : Int32 → Prop} {C : Int32} {K P Q R D V : Nat → Int32} {r y : Nat} (hr : r < 2 ^ 31) (hy : y < 2 ^ 31) (h : post (nI (r / 6 ^ y % 6))) : ∀ k v n, v + k = y → k < n → wY_digit_5 post (nI y) C K P Q R D V n (nI (r / 6 ^ v)) (nI v) := by
  intro k
  induction k with
  | zero =>
    intro v n hv hn
    obtain ⟨m, rfl⟩ : ∃ m, n = m + 1 := ⟨n - 1, by omega⟩
    obtain rfl : v = y := by omega
    have hq : r / 6 ^ v < 2 ^ 31 := Nat.lt_of_le_of_lt (Nat.div_le_self _ _) hr
    refine br_t (nI_le (by omega) hy) ⟨by decide, ?_⟩
    rw [show nI (r / 6 ^ v) - nI (r / 6 ^ v) / 6 * 6 = nI (r / 6 ^ v % 6) from pk_rem (d := 6) hq (by decide) (by decide)]
    exact h
  | succ k ih =>
    intro v n hv hn
    obtain ⟨m, rfl⟩ : ∃ m, n = m + 1 := ⟨n - 1, by omega⟩
    have hq : r / 6 ^ v < 2 ^ 31 := Nat.lt_of_le_of_lt (Nat.div_le_self _ _) hr
    refine br_f (nI_ge (by omega) hy) ⟨by decide, nm_r (e' := nI (r / 6 ^ (v + 1))) ?_ (nm_r (nI_1 v) (ih (v + 1) m (by omega) (by omega)))⟩
    refine (pk_div (d := 6) hq (by decide) (by decide)).trans (congrArg nI ?_)
    rw [Nat.div_div_eq_div_mul, ← Nat.pow_succ]
theorem dy_dig {post : Int32 → Prop} {C : Int32} {K P Q R D V : Nat → Int32} {r y : Nat} (hr : r < 2 ^ 31) (hy : y < 2 ^ 31) (h : post (nI (r / 6 ^ y % 6))) : wpY_digit post (C, K, P, Q, R, D, V) (nI r) (nI y) := by
  have t := dy_dig5 (C := C) (K := K) (P := P) (Q := Q) (R := R) (D := D) (V := V) hr hy h y 0 (y + 1) (by omega) (by omega)
  rw [Nat.pow_zero, Nat.div_one] at t
  exact ⟨y + 1, t⟩
theorem dy_hav5 {post : Int32 → Prop} {C : Int32} {K P Q R D V : Nat → Int32} {p : Int32} {x : Nat} {d : Nat → Nat} (hd : ∀ v, d v < 6) (hx : x < 2 ^ 31) (hV : ∀ j, j < 4 → V j = nI (d j)) (h : post (nI (dn_oc p x d 4))) : ∀ k v n, v + k = 4 → k < n → wY_having_5 post p (nI x) C K P Q R D V n (nI (dn_oc p x d v)) (nI v) := by
  intro k
  induction k with
  | zero =>
    intro v n hv hn
    obtain ⟨m, rfl⟩ : ∃ m, n = m + 1 := ⟨n - 1, by omega⟩
    obtain rfl : v = 4 := by omega
    exact br_t (nI_le (a := 4) (b := 4) (by decide) (by decide)) h
  | succ k ih =>
    intro v n hv hn
    obtain ⟨m, rfl⟩ : ∃ m, n = m + 1 := ⟨n - 1, by omega⟩
    have t := ih (v + 1) m (by omega) (by omega)
    refine br_f (nI_ge (b := 4) (by omega) (by decide)) ?_
    cases hb : bt p v
    · rw [dn_ocf (Or.inl hb)] at t
      exact br_f (fun z => by rw [dn_tst1 p v (by omega), hb] at z; cases z) (nm_r (nI_1 v) t)
    · refine br_t ((dn_tst1 p v (by omega)).mpr hb) ⟨vp_in_nI (by omega) (by decide), ?_⟩
      rw [nI_clamp (by omega), hV v (by omega)]
      have hdv := hd v
      refine pk_eq (d v) x (fun e => ?_) (fun e => ?_) rfl rfl (by omega) hx
      · rw [dn_oct hb e] at t
        exact nm_r (nI_1 _) (nm_r (nI_1 v) t)
      · rw [dn_ocf (Or.inr e)] at t
        exact nm_r (nI_1 v) t
theorem dy_hav {post : Int32 → Prop} {C : Int32} {K P Q R D V : Nat → Int32} {p : Int32} {x : Nat} {d : Nat → Nat} (hd : ∀ v, d v < 6) (hx : x < 2 ^ 31) (hV : ∀ j, j < 4 → V j = nI (d j)) (h : post (nI (dn_oc p x d 4))) : wpY_having post (C, K, P, Q, R, D, V) p (nI x) :=
  ⟨5, dy_hav5 hd hx hV h 4 0 5 (by omega) (by omega)⟩
end
section
/-! the reference: holds, isSolution, countOf -/
theorem dy_h108 {post : Int32 → Prop} {C : Int32} {K P Q R D V : Nat → Int32} {d : Nat → Nat} {q : Nat} {z : Int32} (hq : q ≤ 23) (hd : ∀ v, d v < 6) (hV : ∀ j, j < 4 → V j = nI (d j)) (hlt : d (q / 6) < q % 6 → (z = 0 → post 1) ∧ (¬ z = 0 → post 0)) (hge : q % 6 ≤ d (q / 6) → (z = 1 → post 1) ∧ (¬ z = 1 → post 0)) : wY_holds_108 post (nI q) z C K P Q R D V := by
  have e1 : nI q / 6 = nI (q / 6) := pk_div (d := 6) (by omega) (by decide) (by decide)
  have e2 : nI q - nI q / 6 * 6 = nI (q % 6) := pk_rem (d := 6) (by omega) (by decide) (by decide)
  unfold wY_holds_108
  rw [e2, e1, nI_clamp (by omega), hV (q / 6) (by omega)]
  have := hd (q / 6)
  exact ⟨by decide, vp_in_nI (by omega) (by decide), by decide, pk_lt (d (q / 6)) (q % 6) hlt hge rfl rfl (by omega) (by omega)⟩
theorem dy_holds {post : Int32 → Prop} {C : Int32} {K P Q R D V : Nat → Int32} {i : Nat} {d : Nat → Nat} (hi : i < 10) (hp : dn_pr (K i) (P i) (Q i) (R i)) (hd : ∀ v, d v < 6) (hV : ∀ j, j < 4 → V j = nI (d j)) (h1 : dn_hs (K i) (P i) (Q i) (R i) d → post 1) (h0 : ¬ dn_hs (K i) (P i) (Q i) (R i) d → post 0) : wpY_holds post (C, K, P, Q, R, D, V) (nI i) := by
  have hc : (nI i).toNatClampNeg = i := nI_clamp (by omega)
  have hin : vp_in (nI i) 10 := vp_in_nI hi (by decide)
  refine ⟨hin, nm_r (congrArg K hc) ⟨hin, nm_r (congrArg P hc) ⟨hin, nm_r (congrArg Q hc) ⟨hin, nm_r (congrArg R hc) ?_⟩⟩⟩⟩
  generalize K i = k at hp h1 h0 ⊢
  generalize P i = p at hp h1 h0 ⊢
  generalize Q i = q at hp h1 h0 ⊢
  generalize R i = r at hp h1 h0 ⊢
  rcases dn_kinds hp with rfl | rfl | rfl | rfl | rfl | rfl | rfl | rfl | rfl
  · rw [dn_hs0] at h1 h0
    rw [dn_pr0] at hp
    obtain ⟨w, hw, rfl⟩ := dn_rn hp.1 (n := 2400) (by decide)
    rw [nI_clamp (by omega)] at h1 h0
    exact br_t rfl (dy_sum (by omega) hV (br_c (fun z => h0 (Int32.not_le.mpr z)) (fun z => h1 (Int32.not_lt.mp z))))
  · rw [dn_hs1] at h1 h0
    rw [dn_pr1] at hp
    obtain ⟨w, hw, rfl⟩ := dn_rn hp.1 (n := 2400) (by decide)
    rw [nI_clamp (by omega)] at h1 h0
    exact br_f (by decide) (br_t rfl (dy_sum (by omega) hV (br_c h1 h0)))
  · rw [dn_hs2] at h1 h0
    exact br_f (by decide) (br_f (by decide) (br_t rfl (dy_dif hd hV (fun z => ⟨rfl, h1 z⟩) (fun z => ⟨rfl, h0 z⟩))))
  · rw [dn_hs3] at h1 h0
    rw [dn_pr3] at hp
    obtain ⟨a, ha, rfl⟩ := dn_rn hp.1 (n := 3) (by decide)
    obtain ⟨b, hb, rfl⟩ := dn_rn hp.2.1 (n := 3) (by decide)
    obtain ⟨c, hc, rfl⟩ := dn_rn hp.2.2 (n := 46655) (by decide)
    have da := hd a
    have db := hd b
    rw [nI_clamp (n := a) (by omega), nI_clamp (n := b) (by omega), nI_clamp (n := c) (by omega)] at h1 h0
    refine br_f (by decide) (br_f (by decide) (br_f (by decide) (br_f (by decide) (br_f (by decide) ⟨vp_in_nI (by omega) (by decide), nm_r (e' := nI (d a)) ?_ ⟨vp_in_nI (by omega) (by decide), nm_r (e' := nI (d b)) ?_ ?_⟩⟩))))
    · rw [nI_clamp (by omega)]; exact hV a (by omega)
    · rw [nI_clamp (by omega)]; exact hV b (by omega)
    · exact br_t rfl (dy_dig (by omega) (by omega) (pk_eq (d a) (c / 6 ^ d b % 6) h1 h0 rfl rfl (by omega) (by omega)))
  · rw [dn_hs4] at h1 h0
    rw [dn_pr4] at hp
    obtain ⟨a, ha, rfl⟩ := dn_rn hp.1 (n := 3) (by decide)
    obtain ⟨b, hb, rfl⟩ := dn_rn hp.2.1 (n := 3) (by decide)
    obtain ⟨c, hc, rfl⟩ := dn_rn hp.2.2 (n := 3) (by decide)
    have da := hd a
    have db := hd b
    have dc := hd c
    have dm : d a * d b ≤ 5 * 5 := Nat.mul_le_mul (by omega) (by omega)
    rw [nI_clamp (n := a) (by omega), nI_clamp (n := b) (by omega), nI_clamp (n := c) (by omega)] at h1 h0
    refine br_f (by decide) (br_f (by decide) (br_f (by decide) (br_f (by decide) (br_f (by decide) ⟨vp_in_nI (by omega) (by decide), nm_r (e' := nI (d a)) ?_ ⟨vp_in_nI (by omega) (by decide), nm_r (e' := nI (d b)) ?_ ?_⟩⟩))))
    · rw [nI_clamp (by omega)]; exact hV a (by omega)
    · rw [nI_clamp (by omega)]; exact hV b (by omega)
    · refine br_f (by decide) (br_t rfl ⟨vp_in_nI (by omega) (by decide), ?_⟩)
      rw [nI_clamp (n := c) (by omega), hV c (by omega), pk_mul]
      exact pk_eq (d a * d b) (d c) h1 h0 rfl rfl (by omega) (by omega)
  · rw [dn_hs5] at h1 h0
    rw [dn_pr5] at hp
    obtain ⟨a, ha, rfl⟩ := dn_rn hp.1 (n := 23) (by decide)
    obtain ⟨b, hb, rfl⟩ := dn_rn hp.2 (n := 23) (by decide)
    rw [nI_clamp (n := a) (by omega), nI_clamp (n := b) (by omega)] at h1 h0
    have e1 : nI a / 6 = nI (a / 6) := pk_div (d := 6) (by omega) (by decide) (by decide)
    have e2 : nI a - nI a / 6 * 6 = nI (a % 6) := pk_rem (d := 6) (by omega) (by decide) (by decide)
    have da := hd (a / 6)
    refine br_f (by decide) (br_f (by decide) (br_f (by decide) (br_t rfl ⟨by decide, ?_⟩)))
    rw [e2, e1, nI_clamp (n := a / 6) (by omega), hV (a / 6) (by omega)]
    refine ⟨vp_in_nI (by omega) (by decide), by decide, pk_eq (d (a / 6)) (a % 6) (fun e => ?_) (fun e => ?_) rfl rfl (by omega) (by omega)⟩
    · exact dy_h108 hb hd hV (fun z => br_f (by decide) (h0 (fun y => absurd (y.mp e) (by omega)))) (fun z => br_t rfl (h1 ⟨fun _ => z, fun _ => e⟩))
    · exact dy_h108 hb hd hV (fun z => br_t rfl (h1 ⟨fun y => absurd y e, fun y => absurd y (by omega)⟩)) (fun z => br_f (by decide) (h0 (fun y => e (y.mpr z))))
  · rw [dn_hs6] at h1 h0
    rw [dn_pr6] at hp
    obtain ⟨a, ha, rfl⟩ := dn_rn hp.1 (n := 3) (by decide)
    obtain ⟨b, hb, rfl⟩ := dn_rn hp.2.1 (n := 3) (by decide)
    obtain ⟨c, hc, rfl⟩ := dn_rn hp.2.2 (n := 5) (by decide)
    have da := hd a
    have db := hd b
    rw [nI_clamp (n := a) (by omega), nI_clamp (n := b) (by omega), nI_clamp (n := c) (by omega)] at h1 h0
    refine br_f (by decide) (br_f (by decide) (br_f (by decide) (br_f (by decide) (br_f (by decide) ⟨vp_in_nI (by omega) (by decide), nm_r (e' := nI (d a)) ?_ ⟨vp_in_nI (by omega) (by decide), nm_r (e' := nI (d b)) ?_ ?_⟩⟩))))
    · rw [nI_clamp (by omega)]; exact hV a (by omega)
    · rw [nI_clamp (by omega)]; exact hV b (by omega)
    · refine br_f (by decide) (br_f (by decide) (br_t rfl (br_c (fun z => h1 (Or.inl ((dn_dge da db (by omega)).mp z))) (fun z => br_c (fun y => h0 ?_) (fun y => h1 (Or.inr ?_))))))
      · rw [dn_dge da db (by omega)] at z
        rw [dn_dlt' db da (by omega)] at y
        exact fun x => x.elim z y
      · rw [dn_dlt' db da (by omega)] at y
        omega
  · rw [dn_hs7] at h1 h0
    rw [dn_pr7] at hp
    obtain ⟨c, hc, rfl⟩ := dn_rn hp.2.2 (n := 5) (by decide)
    rw [nI_clamp (n := c) (by omega)] at h1 h0
    exact br_f (by decide) (br_f (by decide) (br_f (by decide) (br_f (by decide) (br_t rfl (dy_hav hd (by omega) hV (br_c h1 h0))))))
  · rw [dn_hs8] at h1 h0
    rw [dn_pr8] at hp
    obtain ⟨a, ha, rfl⟩ := dn_rn hp.1 (n := 3) (by decide)
    obtain ⟨b, hb, rfl⟩ := dn_rn hp.2.1 (n := 3) (by decide)
    obtain ⟨c, hc, rfl⟩ := dn_rn hp.2.2 (n := 15) (by decide)
    have da := hd a
    have db := hd b
    have dc := hd (c % 4)
    have de := hd (c / 4)
    rw [nI_clamp (n := a) (by omega), nI_clamp (n := b) (by omega), nI_clamp (n := c) (by omega)] at h1 h0
    have e1 : nI c / 4 = nI (c / 4) := pk_div (d := 4) (by omega) (by decide) (by decide)
    have e2 : nI c - nI c / 4 * 4 = nI (c % 4) := pk_rem (d := 4) (by omega) (by decide) (by decide)
    refine br_f (by decide) (br_f (by decide) (br_f (by decide) (br_f (by decide) (br_f (by decide) ⟨vp_in_nI (by omega) (by decide), nm_r (e' := nI (d a)) ?_ ⟨vp_in_nI (by omega) (by decide), nm_r (e' := nI (d b)) ?_ ?_⟩⟩))))
    · rw [nI_clamp (by omega)]; exact hV a (by omega)
    · rw [nI_clamp (by omega)]; exact hV b (by omega)
    · refine br_f (by decide) (br_f (by decide) (br_f (by decide) ?_))
      rw [e2, e1, nI_clamp (n := c % 4) (by omega), nI_clamp (n := c / 4) (by omega), hV (c % 4) (by omega), hV (c / 4) (by omega)]
      exact pk_lt (d a) (d b) (fun z => h1 (Or.inl z)) (fun z => pk_eq (d a) (d b) (fun e => ⟨by decide, vp_in_nI (by omega) (by decide), by decide, vp_in_nI (by omega) (by decide), pk_lt (d (c / 4)) (d (c % 4)) (fun y => h0 (fun x => by omega)) (fun y => h1 (Or.inr ⟨e, y⟩)) rfl rfl (by omega) (by omega)⟩) (fun e => h0 (fun x => by omega)) rfl rfl (by omega) (by omega)) rfl rfl (by omega) (by omega)
/-! is it a solution -/
theorem dy_sol82 {post : Int32 → SY → Prop} {K P Q R D V : Nat → Int32} {c a : Nat} {l : Int32} (hc : c ≤ 10) (hp : ∀ i, i < c → dn_pr (K i) (P i) (Q i) (R i)) (hV : dn_V a V) (hD : ∀ v, v < 4 → bt (D v) (dn_d a v) = true) (h1 : dn_so D K P Q R c (bt l) a → post 1 (nI c, K, P, Q, R, D, V)) (h0 : ¬ dn_so D K P Q R c (bt l) a → post 0 (nI c, K, P, Q, R, D, V)) : ∀ k i n, i + k = c → k < n → (∀ j, j < i → bt l j = true → dn_hs (K j) (P j) (Q j) (R j) (dn_d a)) → wY_isSolution_82 post l (nI c) K P Q R D V n (nI i) := by
  intro k
  induction k with
  | zero =>
    intro i n hi hn hj
    obtain ⟨m, rfl⟩ : ∃ m, n = m + 1 := ⟨n - 1, by omega⟩
    obtain rfl : i = c := by omega
    exact br_t (nI_le (Nat.le_refl _) (by omega)) (h1 ⟨hD, hj⟩)
  | succ k ih =>
    intro i n hi hn hj
    obtain ⟨m, rfl⟩ : ∃ m, n = m + 1 := ⟨n - 1, by omega⟩
    refine br_f (nI_ge (by omega) (by omega)) ?_
    cases hb : bt l i
    · refine br_f (fun z => by rw [dn_tst1 l i (by omega), hb] at z; cases z) (nm_r (nI_1 i) (ih (i + 1) m (by omega) (by omega) ?_))
      intro j h1 h2
      rcases Nat.lt_or_ge j i with y | y
      · exact hj j y h2
      · rw [show j = i by omega, hb] at h2; cases h2
    · refine br_t ((dn_tst1 l i (by omega)).mpr hb) (dy_holds (by omega) (hp i (by omega)) (dn_dlt a) hV (fun z => br_f (by decide) (nm_r (nI_1 i) (ih (i + 1) m (by omega) (by omega) ?_))) (fun z => br_t rfl (h0 (fun y => z (y.2 i (by omega) hb)))))
      intro j h1 h2
      rcases Nat.lt_or_ge j i with y | y
      · exact hj j y h2
      · rw [show j = i by omega]; exact z
theorem dy_sol49 {post : Int32 → SY → Prop} {K P Q R D V : Nat → Int32} {c a : Nat} {l : Int32} (hc : c ≤ 10) (hp : ∀ i, i < c → dn_pr (K i) (P i) (Q i) (R i)) (hV : dn_V a V) (h1 : dn_so D K P Q R c (bt l) a → post 1 (nI c, K, P, Q, R, D, V)) (h0 : ¬ dn_so D K P Q R c (bt l) a → post 0 (nI c, K, P, Q, R, D, V)) : ∀ k v n, v + k = 4 → k < n → (∀ w, w < v → bt (D w) (dn_d a w) = true) → wY_isSolution_49 post l (nI c) K P Q R D V n (nI v) := by
  intro k
  induction k with
  | zero =>
    intro v n hv hn hD
    obtain ⟨m, rfl⟩ : ∃ m, n = m + 1 := ⟨n - 1, by omega⟩
    obtain rfl : v = 4 := by omega
    exact br_t (nI_le (a := 4) (b := 4) (by decide) (by decide)) ⟨c + 1, dy_sol82 hc hp hV hD h1 h0 c 0 (c + 1) (by omega) (by omega) (fun j hj => absurd hj (by omega))⟩
  | succ k ih =>
    intro v n hv hn hD
    obtain ⟨m, rfl⟩ : ∃ m, n = m + 1 := ⟨n - 1, by omega⟩
    refine br_f (nI_ge (b := 4) (by omega) (by decide)) ⟨vp_in_nI (by omega) (by decide), vp_in_nI (by omega) (by decide), ?_⟩
    rw [nI_clamp (by omega), hV v (by omega)]
    have hdv := dn_dlt a v
    cases hb : bt (D v) (dn_d a v)
    · refine br_t ((dn_tst0 (D v) (dn_d a v) (by omega)).mpr hb) (h0 (fun z => ?_))
      have := z.1 v (by omega)
      rw [hb] at this
      cases this
    · refine br_f (fun z => by rw [dn_tst0 (D v) (dn_d a v) (by omega), hb] at z; cases z) (nm_r (nI_1 v) (ih (v + 1) m (by omega) (by omega) ?_))
      intro w hw
      rcases Nat.lt_or_ge w v with y | y
      · exact hD w y
      · rw [show w = v by omega]; exact hb
theorem dy_sol {post : Int32 → SY → Prop} {K P Q R D V : Nat → Int32} {c a : Nat} {l : Int32} (hc : c ≤ 10) (hp : ∀ i, i < c → dn_pr (K i) (P i) (Q i) (R i)) (ha : a < 1296) (h1 : ∀ V', dn_V a V' → dn_sb D K P Q R c (bt l) a = true → post 1 (nI c, K, P, Q, R, D, V')) (h0 : ∀ V', dn_V a V' → dn_sb D K P Q R c (bt l) a = false → post 0 (nI c, K, P, Q, R, D, V')) : wpY_isSolution post (nI c, K, P, Q, R, D, V) (nI a) l := by
  have e3 : nI a - nI a / 6 * 6 = nI (a % 6) := pk_rem (d := 6) (by omega) (by decide) (by decide)
  have e2 : nI a / 6 = nI (a / 6) := pk_div (d := 6) (by omega) (by decide) (by decide)
  have e2' : nI (a / 6) - nI (a / 6) / 6 * 6 = nI (a / 6 % 6) := pk_rem (d := 6) (by omega) (by decide) (by decide)
  have e1 : nI a / 36 = nI (a / 36) := pk_div (d := 36) (by omega) (by decide) (by decide)
  have e1' : nI (a / 36) - nI (a / 36) / 6 * 6 = nI (a / 36 % 6) := pk_rem (d := 6) (by omega) (by decide) (by decide)
  have e0 : nI a / 216 = nI (a / 216) := pk_div (d := 216) (by omega) (by decide) (by decide)
  refine ⟨by decide, nm_r (e' := upd V 3 (nI (a % 6))) (by rw [e3]) ⟨by decide, by decide, nm_r (e' := upd (upd V 3 (nI (a % 6))) 2 (nI (a / 6 % 6))) (by rw [e2, e2']) ⟨by decide, by decide, nm_r (e' := upd (upd (upd V 3 (nI (a % 6))) 2 (nI (a / 6 % 6))) 1 (nI (a / 36 % 6))) (by rw [e1, e1']) ⟨by decide, nm_r (e' := upd (upd (upd (upd V 3 (nI (a % 6))) 2 (nI (a / 6 % 6))) 1 (nI (a / 36 % 6))) 0 (nI (a / 216))) (by rw [e0]) ?_⟩⟩⟩⟩
  have hV : dn_V a (upd (upd (upd (upd V 3 (nI (a % 6))) 2 (nI (a / 6 % 6))) 1 (nI (a / 36 % 6))) 0 (nI (a / 216))) := by
    intro j hj
    rcases (by omega : j = 0 ∨ j = 1 ∨ j = 2 ∨ j = 3) with rfl | rfl | rfl | rfl
    · rw [pk_us, dn_d0 ha]
    · rw [pk_un (by decide), pk_us, dn_d1]
    · rw [pk_un (by decide), pk_un (by decide), pk_us, dn_d2]
    · rw [pk_un (by decide), pk_un (by decide), pk_un (by decide), pk_us, dn_d3]
  exact ⟨5, dy_sol49 hc hp hV (fun z => h1 _ hV (dn_sbt.mpr z)) (fun z => h0 _ hV (dn_sbf.mpr z)) 4 0 5 (by omega) (by omega) (fun w hw => absurd hw (by omega))⟩
/-! counting -/
theorem dy_cnt4 {post : Int32 → SY → Prop} {K P Q R D : Nat → Int32} {c : Nat} {l : Int32} (hc : c ≤ 10) (hp : ∀ i, i < c → dn_pr (K i) (P i) (Q i) (R i)) (h : ∀ V, post (nI (dn_cn (dn_sb D K P Q R c (bt l)) 1296)) (nI c, K, P, Q, R, D, V)) : ∀ k a n V, a + k = 1296 → k < n → wY_countOf_4 post l n (nI (dn_cn (dn_sb D K P Q R c (bt l)) a)) (nI a) (nI c) K P Q R D V := by
  intro k
  induction k with
  | zero =>
    intro a n V ha hn
    obtain ⟨m, rfl⟩ : ∃ m, n = m + 1 := ⟨n - 1, by omega⟩
    obtain rfl : a = 1296 := by omega
    exact br_t (nI_le (a := 1296) (b := 1296) (by decide) (by decide)) (h V)
  | succ k ih =>
    intro a n V ha hn
    obtain ⟨m, rfl⟩ : ∃ m, n = m + 1 := ⟨n - 1, by omega⟩
    refine br_f (nI_ge (b := 1296) (by omega) (by decide)) ?_
    refine dy_sol hc hp (by omega) (fun V' hV' hS => ?_) (fun V' hV' hS => ?_)
    · have t := ih (a + 1) m V' (by omega) (by omega)
      rw [dn_cnt hS] at t
      exact br_f (by decide) (nm_r (nI_1 _) (nm_r (nI_1 a) t))
    · have t := ih (a + 1) m V' (by omega) (by omega)
      rw [dn_cnf hS] at t
      exact br_t rfl (nm_r (nI_1 a) t)
theorem dy_cntOf {post : Int32 → SY → Prop} {K P Q R D V : Nat → Int32} {c : Nat} {l : Int32} (hc : c ≤ 10) (hp : ∀ i, i < c → dn_pr (K i) (P i) (Q i) (R i)) (h : ∀ V, post (nI (dn_cn (dn_sb D K P Q R c (bt l)) 1296)) (nI c, K, P, Q, R, D, V)) : wpY_countOf post (nI c, K, P, Q, R, D, V) l :=
  ⟨1297, dy_cnt4 hc hp h 1296 0 1297 V (by omega) (by omega)⟩
/-- all constraints: the whole set -/
theorem dn_allS {D K P Q R : Nat → Int32} {c : Nat} (hc : c ≤ 10) : dn_sb D K P Q R c (bt (((1 : Int32) <<< (nI c &&& 31)) - 1)) = dn_sb D K P Q R c (dn_in 0) := by
  apply dn_soc
  intro i hi
  rw [dn_all c (by omega) i (by omega), decide_eq_true hi]
  show true = !bt 0 i
  rw [b_0]
  rfl
theorem dy_count {post : Int32 → SY → Prop} {K P Q R D V : Nat → Int32} {c : Nat} (hc : c ≤ 10) (hp : ∀ i, i < c → dn_pr (K i) (P i) (Q i) (R i)) (h : ∀ V, post (nI (dn_cn (dn_sb D K P Q R c (dn_in 0)) 1296)) (nI c, K, P, Q, R, D, V)) : wpY_count post (nI c, K, P, Q, R, D, V) := by
  unfold wpY_count
  refine dy_cntOf hc hp (fun V' => ?_)
  rw [dn_allS hc]
  exact h V'
end
section
/-! the reference: its loops over the codes -/
theorem dy_firstN {post : Int32 → SY → Prop} {x : Int32} {K P Q R D : Nat → Int32} {c : Nat} {l : Int32} (hc : c ≤ 10) (hp : ∀ i, i < c → dn_pr (K i) (P i) (Q i) (R i)) (hS : ∀ b, b < 1296 → dn_sb D K P Q R c (bt l) b = false) (h : ∀ V, post (-1002) (nI c, K, P, Q, R, D, V)) : ∀ k a n V, a + k = 1296 → k < n → wY_first_21 post x l n (nI a) (nI c) K P Q R D V := by
  intro k
  induction k with
  | zero =>
    intro a n V ha hn
    obtain ⟨m, rfl⟩ : ∃ m, n = m + 1 := ⟨n - 1, by omega⟩
    obtain rfl : a = 1296 := by omega
    exact br_t (nI_le (a := 1296) (b := 1296) (by decide) (by decide)) (h V)
  | succ k ih =>
    intro a n V ha hn
    obtain ⟨m, rfl⟩ : ∃ m, n = m + 1 := ⟨n - 1, by omega⟩
    refine br_f (nI_ge (b := 1296) (by omega) (by decide)) ?_
    refine dy_sol hc hp (by omega) (fun V' hV' hs => ?_) (fun V' hV' hs => br_t rfl (nm_r (nI_1 a) (ih (a + 1) m V' (by omega) (by omega))))
    rw [hS a (by omega)] at hs
    cases hs
theorem dy_firstS {post : Int32 → SY → Prop} {v b : Nat} {K P Q R D : Nat → Int32} {c : Nat} {l : Int32} (hc : c ≤ 10) (hp : ∀ i, i < c → dn_pr (K i) (P i) (Q i) (R i)) (hv : v < 4) (hb : b < 1296) (hS : dn_sb D K P Q R c (bt l) b = true) (hN : ∀ a, a < b → dn_sb D K P Q R c (bt l) a = false) (h : ∀ V, post (nI (dn_d b v)) (nI c, K, P, Q, R, D, V)) : ∀ k a n V, a + k = b → k < n → wY_first_21 post (nI v) l n (nI a) (nI c) K P Q R D V := by
  intro k
  induction k with
  | zero =>
    intro a n V ha hn
    obtain ⟨m, rfl⟩ : ∃ m, n = m + 1 := ⟨n - 1, by omega⟩
    obtain rfl : a = b := by omega
    refine br_f (nI_ge (b := 1296) (by omega) (by decide)) ?_
    refine dy_sol hc hp (by omega) (fun V' hV' hs => br_f (by decide) ⟨vp_in_nI hv (by decide), ?_⟩) (fun V' hV' hs => ?_)
    · rw [nI_clamp (by omega), hV' v hv]
      exact h V'
    · rw [hS] at hs
      cases hs
  | succ k ih =>
    intro a n V ha hn
    obtain ⟨m, rfl⟩ : ∃ m, n = m + 1 := ⟨n - 1, by omega⟩
    refine br_f (nI_ge (b := 1296) (by omega) (by decide)) ?_
    refine dy_sol hc hp (by omega) (fun V' hV' hs => ?_) (fun V' hV' hs => br_t rfl (nm_r (nI_1 a) (ih (a + 1) m V' (by omega) (by omega))))
    rw [hN a (by omega)] at hs
    cases hs
theorem dy_pos24 {post : Int32 → SY → Prop} {v : Nat} {K P Q R D : Nat → Int32} {c : Nat} {l : Int32} (hc : c ≤ 10) (hp : ∀ i, i < c → dn_pr (K i) (P i) (Q i) (R i)) (hv : v < 4) (h : ∀ V, post (dn_ps (dn_sb D K P Q R c (bt l)) v 1296) (nI c, K, P, Q, R, D, V)) : ∀ k a n V, a + k = 1296 → k < n → wY_possible_24 post (nI v) l n (dn_ps (dn_sb D K P Q R c (bt l)) v a) (nI a) (nI c) K P Q R D V := by
  intro k
  induction k with
  | zero =>
    intro a n V ha hn
    obtain ⟨m, rfl⟩ : ∃ m, n = m + 1 := ⟨n - 1, by omega⟩
    obtain rfl : a = 1296 := by omega
    exact br_t (nI_le (a := 1296) (b := 1296) (by decide) (by decide)) (h V)
  | succ k ih =>
    intro a n V ha hn
    obtain ⟨m, rfl⟩ : ∃ m, n = m + 1 := ⟨n - 1, by omega⟩
    refine br_f (nI_ge (b := 1296) (by omega) (by decide)) ?_
    refine dy_sol hc hp (by omega) (fun V' hV' hS => ?_) (fun V' hV' hS => ?_)
    · have t := ih (a + 1) m V' (by omega) (by omega)
      rw [dn_pst hS] at t
      exact br_f (by decide) ⟨vp_in_nI hv (by decide), nm_r (by rw [nI_clamp (by omega), hV' v hv]) (nm_r (nI_1 a) t)⟩
    · have t := ih (a + 1) m V' (by omega) (by omega)
      rw [dn_psf hS] at t
      exact br_t rfl (nm_r (nI_1 a) t)
theorem dy_cw35 {post : Int32 → SY → Prop} {v x : Nat} {K P Q R D : Nat → Int32} {c : Nat} {l : Int32} (hc : c ≤ 10) (hp : ∀ i, i < c → dn_pr (K i) (P i) (Q i) (R i)) (hv : v < 4) (hx : x < 6) (h : ∀ V, post (nI (dn_cn (dn_wx (dn_sb D K P Q R c (bt l)) v x) 1296)) (nI c, K, P, Q, R, D, V)) : ∀ k a n V, a + k = 1296 → k < n → wY_countWith_35 post (nI v) (nI x) l n (nI (dn_cn (dn_wx (dn_sb D K P Q R c (bt l)) v x) a)) (nI a) (nI c) K P Q R D V := by
  intro k
  induction k with
  | zero =>
    intro a n V ha hn
    obtain ⟨m, rfl⟩ : ∃ m, n = m + 1 := ⟨n - 1, by omega⟩
    obtain rfl : a = 1296 := by omega
    exact br_t (nI_le (a := 1296) (b := 1296) (by decide) (by decide)) (h V)
  | succ k ih =>
    intro a n V ha hn
    obtain ⟨m, rfl⟩ : ∃ m, n = m + 1 := ⟨n - 1, by omega⟩
    refine br_f (nI_ge (b := 1296) (by omega) (by decide)) ?_
    refine dy_sol hc hp (by omega) (fun V' hV' hS => br_f (by decide) ⟨vp_in_nI hv (by decide), ?_⟩) (fun V' hV' hS => ?_)
    · have t := ih (a + 1) m V' (by omega) (by omega)
      have hdv := dn_dlt a v
      rw [nI_clamp (by omega), hV' v hv]
      refine pk_eq (dn_d a v) x (fun e => ?_) (fun e => ?_) rfl rfl (by omega) (by omega)
      · rw [dn_cnt (dn_wxt hS e)] at t
        exact nm_r (nI_1 _) (nm_r (nI_1 a) t)
      · rw [dn_cnf (dn_wxf (Or.inr e))] at t
        exact nm_r (nI_1 a) t
    · have t := ih (a + 1) m V' (by omega) (by omega)
      rw [dn_cnf (dn_wxf (Or.inl hS))] at t
      exact br_t rfl (nm_r (nI_1 a) t)
/-! the optimum -/
theorem dy_o61t {post : Int32 → SY → Prop} {J : Int32 → Int32 → Int32 → Int32 → Int32 → (Nat → Int32) → (Nat → Int32) → (Nat → Int32) → (Nat → Int32) → (Nat → Int32) → (Nat → Int32) → Prop} {x1 x2 x3 x4 x6 x8 C : Int32} {K P Q R D V : Nat → Int32} {y a : Nat} (e : x8 = x4) (H : J x4 (nI (y + 1)) x6 (nI (a + 1)) C K P Q R D V) : wY_optimum_61 post J x1 x2 x3 x4 (nI y) x6 (nI a) x8 C K P Q R D V :=
  br_t e (nm_r (nI_1 y) (nm_r (nI_1 a) H))
theorem dy_o61f {post : Int32 → SY → Prop} {J : Int32 → Int32 → Int32 → Int32 → Int32 → (Nat → Int32) → (Nat → Int32) → (Nat → Int32) → (Nat → Int32) → (Nat → Int32) → (Nat → Int32) → Prop} {x1 x2 x3 x4 x5 x6 x8 C : Int32} {K P Q R D V : Nat → Int32} {a : Nat} (e : ¬ x8 = x4) (H : J x4 x5 x6 (nI (a + 1)) C K P Q R D V) : wY_optimum_61 post J x1 x2 x3 x4 x5 x6 (nI a) x8 C K P Q R D V :=
  br_f e (nm_r (nI_1 a) H)
theorem dy_opt18 {post : Int32 → SY → Prop} {w : Nat} {q : Int32} {K P Q R D : Nat → Int32} {c : Nat} {l : Int32} {S : Nat → Bool} (hSe : dn_sb D K P Q R c (bt l) = S) (hc : c ≤ 10) (hp : ∀ i, i < c → dn_pr (K i) (P i) (Q i) (R i)) (hw : w < 2 ^ 31) (h : ∀ V, ((q = 0 → post (dn_op S (fun b => dn_sm w (dn_d b) 4) 1296).1 (nI c, K, P, Q, R, D, V)) ∧ (¬ q = 0 → ((q = 1 → post (nI (dn_op S (fun b => dn_sm w (dn_d b) 4) 1296).2.1) (nI c, K, P, Q, R, D, V)) ∧ (¬ q = 1 → (((dn_op S (fun b => dn_sm w (dn_d b) 4) 1296).1 = 61 → post (-1002) (nI c, K, P, Q, R, D, V)) ∧ (¬ (dn_op S (fun b => dn_sm w (dn_d b) 4) 1296).1 = 61 → post (nI (dn_op S (fun b => dn_sm w (dn_d b) 4) 1296).2.2) (nI c, K, P, Q, R, D, V)))))))) : ∀ k a n V, a + k = 1296 → k < n → wY_optimum_18 post (nI w) q l n (dn_op S (fun b => dn_sm w (dn_d b) 4) a).1 (nI (dn_op S (fun b => dn_sm w (dn_d b) 4) a).2.1) (nI (dn_op S (fun b => dn_sm w (dn_d b) 4) a).2.2) (nI a) (nI c) K P Q R D V := by
  have hfe : ∀ b, (fun b => dn_sm w (dn_d b) 4) b = dn_sm w (dn_d b) 4 := fun b => rfl
  generalize (fun b => dn_sm w (dn_d b) 4) = f at h hfe ⊢
  intro k
  induction k with
  | zero =>
    intro a n V ha hn
    obtain ⟨m, rfl⟩ : ∃ m, n = m + 1 := ⟨n - 1, by omega⟩
    obtain rfl : a = 1296 := by omega
    exact br_t (nI_le (a := 1296) (b := 1296) (by decide) (by decide)) (h V)
  | succ k ih =>
    intro a n V ha hn
    obtain ⟨m, rfl⟩ : ∃ m, n = m + 1 := ⟨n - 1, by omega⟩
    refine br_f (nI_ge (b := 1296) (by omega) (by decide)) ?_
    refine dy_sol hc hp (by omega) (fun V' hV' hS => br_f (by decide) (dy_sum hw hV' ?_)) (fun V' hV' hS => ?_)
    · rw [hSe] at hS
      rw [← hfe a]
      have t := ih (a + 1) m V' (by omega) (by omega)
      refine br_c (fun y => ?_) (fun y => ?_)
      · have hnl : ¬ f a < (dn_op S f a).1 := Int32.not_lt.mpr y
        by_cases e : f a = (dn_op S f a).1
        · rw [dn_ope hS hnl e] at t
          exact dy_o61t e t
        · rw [dn_opg hS hnl e] at t
          exact dy_o61f e t
      · rw [dn_opl hS (Int32.not_le.mp y)] at t
        exact dy_o61t (y := 0) rfl t
    · rw [hSe] at hS
      have t := ih (a + 1) m V' (by omega) (by omega)
      rw [dn_opf hS] at t
      exact br_t rfl (nm_r (nI_1 a) t)
theorem dy_opt {post : Int32 → SY → Prop} {w : Nat} {q : Int32} {K P Q R D V : Nat → Int32} {c : Nat} {S : Nat → Bool} (hSe : dn_sb D K P Q R c (dn_in 0) = S) (hc : c ≤ 10) (hp : ∀ i, i < c → dn_pr (K i) (P i) (Q i) (R i)) (hw : w < 2 ^ 31) (h : ∀ V, ((q = 0 → post (dn_op S (fun b => dn_sm w (dn_d b) 4) 1296).1 (nI c, K, P, Q, R, D, V)) ∧ (¬ q = 0 → ((q = 1 → post (nI (dn_op S (fun b => dn_sm w (dn_d b) 4) 1296).2.1) (nI c, K, P, Q, R, D, V)) ∧ (¬ q = 1 → (((dn_op S (fun b => dn_sm w (dn_d b) 4) 1296).1 = 61 → post (-1002) (nI c, K, P, Q, R, D, V)) ∧ (¬ (dn_op S (fun b => dn_sm w (dn_d b) 4) 1296).1 = 61 → post (nI (dn_op S (fun b => dn_sm w (dn_d b) 4) 1296).2.2) (nI c, K, P, Q, R, D, V)))))))) : wpY_optimum post (nI c, K, P, Q, R, D, V) (nI w) q :=
  ⟨1297, dy_opt18 ((dn_allS hc).trans hSe) hc hp hw h 1296 0 1297 V (by omega) (by omega)⟩
/-! blame -/
theorem dy_blame17 {post : Int32 → SY → Prop} {K P Q R D : Nat → Int32} {c : Nat} (hc : c ≤ 10) (hp : ∀ i, i < c → dn_pr (K i) (P i) (Q i) (R i)) (h : ∀ V b, (∀ j, j < 32 → bt b j = (decide (j < c) && !dn_lo (dn_E D K P Q R c) c j)) → post b (nI c, K, P, Q, R, D, V)) : ∀ k i n V s, i + k = c → k < n → (∀ j, j < 32 → bt s j = (decide (j < c) && !dn_lo (dn_E D K P Q R c) i j)) → wY_blame_17 post n s (nI i) (nI c) K P Q R D V := by
  intro k
  induction k with
  | zero =>
    intro i n V s hi hn hs
    obtain ⟨m, rfl⟩ : ∃ m, n = m + 1 := ⟨n - 1, by omega⟩
    obtain rfl : i = c := by omega
    exact br_t (nI_le (Nat.le_refl _) (by omega)) (h V s hs)
  | succ k ih =>
    intro i n V s hi hn hs
    obtain ⟨m, rfl⟩ : ∃ m, n = m + 1 := ⟨n - 1, by omega⟩
    refine br_f (nI_ge (by omega) (by omega)) (nm_e ?_)
    have hs' : ∀ j, j < 32 → bt (s &&& (((1 : Int32) <<< (nI i &&& 31)) ^^^ (-1))) j = (decide (j < c) && !(dn_lo (dn_E D K P Q R c) i j || decide (j = i))) := by
      intro j hj
      rw [b_and, hs j hj, dn_not _ j hj, dn_one i j (by omega) hj, Bool.not_or, Bool.and_assoc]
    generalize (s &&& (((1 : Int32) <<< (nI i &&& 31)) ^^^ (-1))) = s2 at hs' ⊢
    have hcn := dn_cnb (dn_sb D K P Q R c (bt s2)) 1296
    have hE : dn_cn (dn_sb D K P Q R c (bt s2)) 1296 = dn_cn (dn_sb D K P Q R c (fun j => !(dn_lo (dn_E D K P Q R c) i j || decide (j = i)))) 1296 :=
      dn_Ec (fun j hj => by rw [hs' j (by omega), decide_eq_true hj, Bool.true_and])
    refine dy_cntOf hc hp (fun V' => ?_)
    refine pk_eq (dn_cn (dn_sb D K P Q R c (bt s2)) 1296) 0 (fun e => ?_) (fun e => ?_) rfl rfl (by omega) (by omega)
    · have hlo := dn_lot (E := dn_E D K P Q R c) (i := i) (decide_eq_true (hE.symm.trans e))
      refine nm_r (nI_1 i) (ih (i + 1) m V' s2 (by omega) (by omega) (fun j hj => ?_))
      rw [hlo]
      exact hs' j hj
    · have hlo := dn_lof (E := dn_E D K P Q R c) (i := i) (decide_eq_false (fun z => e (hE.trans z)))
      refine nm_r (nI_1 i) (ih (i + 1) m V' s (by omega) (by omega) (fun j hj => ?_))
      rw [hlo]
      exact hs j hj
end
section
/-! the relation, and the calls that change the state -/
/-- both sides hold the same domains and the same proper constraints; all else is scratch -/
def i_Rel (k : Nat) (u : SX) (v : SY) : Prop := ∃ (c : Nat) (W F : Int32) (D K P Q R V Z V' : Nat → Int32), u = (nI c, W, F, D, K, P, Q, R, V, Z) ∧ v = (nI c, K, P, Q, R, D, V') ∧ c ≤ 10 ∧ ∀ i, i < c → dn_pr (K i) (P i) (Q i) (R i)
theorem dn_rel {k c : Nat} {W F : Int32} {D K P Q R V Z V' : Nat → Int32} (hc : c ≤ 10) (hp : ∀ i, i < c → dn_pr (K i) (P i) (Q i) (R i)) : i_Rel k (nI c, W, F, D, K, P, Q, R, V, Z) (nI c, K, P, Q, R, D, V') :=
  ⟨c, W, F, D, K, P, Q, R, V, Z, V', rfl, rfl, hc, hp⟩
theorem i_up {k : Nat} {u : SX} {v : SY} (h : i_Rel k u v) : i_Rel (k + 5) u v := h
def dn_D : Nat → Nat → Int32
  | 0 => fun _ => 0
  | v + 1 => upd (dn_D v) v 63
theorem dx_init61 {post : SX → Prop} {C W F : Int32} {K P Q R V Z : Nat → Int32} (h : post (0, 2, 0, dn_D 4, K, P, Q, R, V, Z)) : ∀ k v n, v + k = 4 → k < n → wX_init_61 post C W F n (nI v) (dn_D v) K P Q R V Z := by
  intro k
  induction k with
  | zero =>
    intro v n hv hn
    obtain ⟨m, rfl⟩ : ∃ m, n = m + 1 := ⟨n - 1, by omega⟩
    obtain rfl : v = 4 := by omega
    exact br_t (nI_le (a := 4) (b := 4) (by decide) (by decide)) h
  | succ k ih =>
    intro v n hv hn
    obtain ⟨m, rfl⟩ : ∃ m, n = m + 1 := ⟨n - 1, by omega⟩
    exact br_f (nI_ge (b := 4) (by omega) (by decide)) ⟨vp_in_nI (by omega) (by decide), nm_r (e' := dn_D (v + 1)) (by rw [nI_clamp (by omega)]; rfl) (nm_r (nI_1 v) (ih (v + 1) m (by omega) (by omega)))⟩
theorem dy_init57 {post : SY → Prop} {C : Int32} {K P Q R V : Nat → Int32} (h : post (C, K, P, Q, R, dn_D 4, V)) : ∀ k v n, v + k = 4 → k < n → wY_init_57 post C n (nI v) K P Q R (dn_D v) V := by
  intro k
  induction k with
  | zero =>
    intro v n hv hn
    obtain ⟨m, rfl⟩ : ∃ m, n = m + 1 := ⟨n - 1, by omega⟩
    obtain rfl : v = 4 := by omega
    exact br_t (nI_le (a := 4) (b := 4) (by decide) (by decide)) h
  | succ k ih =>
    intro v n hv hn
    obtain ⟨m, rfl⟩ : ∃ m, n = m + 1 := ⟨n - 1, by omega⟩
    exact br_f (nI_ge (b := 4) (by omega) (by decide)) ⟨vp_in_nI (by omega) (by decide), nm_r (e' := dn_D (v + 1)) (by rw [nI_clamp (by omega)]; rfl) (nm_r (nI_1 v) (ih (v + 1) m (by omega) (by omega)))⟩
theorem i_vc0 : wpX_init (fun u => wpY_init (fun v => i_Rel 0 u v)) :=
  ⟨5, dx_init61 ⟨5, dy_init57 (dn_rel (c := 0) (by decide) (fun i hi => absurd hi (by omega))) 4 0 5 (by omega) (by omega)⟩ 4 0 5 (by omega) (by omega)⟩
theorem dy_inT {post : Int32 → Prop} {C : Int32} {K P Q R D V : Nat → Int32} {x a b : Int32} (h : dn_rg x a b) (h1 : post 1) : wpY_in post (C, K, P, Q, R, D, V) x a b := dy_in (fun _ => h1) (fun z => absurd h z)
theorem dy_inF {post : Int32 → Prop} {C : Int32} {K P Q R D V : Nat → Int32} {x a b : Int32} (h : ¬ dn_rg x a b) (h0 : post 0) : wpY_in post (C, K, P, Q, R, D, V) x a b := dy_in (fun z => absurd z h) (fun _ => h0)
theorem i_vc_domain {k : Nat} {u : SX} {v : SY} (I : i_Rel k u v) (hk : k + 5 ≤ 2560) (v1 : Int32) (v2 : Int32) : wpX_domain (fun r u' => wpY_domain (fun r' v' => r' = r ∧ i_Rel (k + 5) u' v') v v1 v2) u v1 v2 := by
  obtain ⟨c, W, F, D, K, P, Q, R, V, Z, V', rfl, rfl, hc, hp⟩ := I
  unfold wpX_domain wpY_domain
  refine dx_var (fun a => br_f (by decide) (dx_in (fun b => br_f (by decide) ?_) (fun b => br_t rfl ?_))) (fun a => br_t rfl ?_)
  · obtain ⟨j, hj, rfl⟩ := dn_rn a (n := 3) (by decide)
    exact ⟨vp_in_nI (by omega) (by decide), nm_e (dy_inT a (br_f (by decide) (dy_inT b (br_f (by decide) ⟨vp_in_nI (by omega) (by decide), nm_e ⟨rfl, dn_rel hc hp⟩⟩))))⟩
  · exact dy_inT a (br_f (by decide) (dy_inF b (br_t rfl ⟨rfl, dn_rel hc hp⟩)))
  · exact dy_inF a (br_t rfl ⟨rfl, dn_rel hc hp⟩)
theorem i_vc_way {k : Nat} {u : SX} {v : SY} (I : i_Rel k u v) (hk : k + 5 ≤ 2560) (v1 : Int32) : wpX_way (fun r u' => wpY_way (fun r' => r' = r ∧ i_Rel (k + 5) u' v) v v1) u v1 := by
  obtain ⟨c, W, F, D, K, P, Q, R, V, Z, V', rfl, rfl, hc, hp⟩ := I
  unfold wpX_way wpY_way
  refine dx_in (fun a => br_f (by decide) ?_) (fun a => br_t rfl ?_)
  · exact dy_inT a ⟨rfl, rfl, dn_rel hc hp⟩
  · exact dy_inF a ⟨rfl, rfl, dn_rel hc hp⟩
theorem i_vc_constraint {k : Nat} {u : SX} {v : SY} (I : i_Rel k u v) (hk : k + 5 ≤ 2560) (v1 : Int32) (v2 : Int32) (v3 : Int32) (v4 : Int32) : wpX_constraint (fun r u' => wpY_constraint (fun r' v' => r' = r ∧ i_Rel (k + 5) u' v') v v1 v2 v3 v4) u v1 v2 v3 v4 := by
  obtain ⟨c, W, F, D, K, P, Q, R, V, Z, V', rfl, rfl, hc, hp⟩ := I
  unfold wpX_constraint wpY_constraint
  have hcl : (nI c).toNatClampNeg = c := nI_clamp (by omega)
  refine pk_lt c 10 (fun h10 => dx_proper (fun z => br_f (by decide) ?_) (fun z => br_t rfl ?_)) (fun h10 => ?_) rfl rfl (by omega) (by omega)
  · have hin : vp_in (nI c) 10 := vp_in_nI h10 (by decide)
    refine ⟨hin, nm_r (congrArg (fun t => upd K t v1) hcl) ⟨hin, nm_r (congrArg (fun t => upd P t v2) hcl) ⟨hin, nm_r (congrArg (fun t => upd Q t v3) hcl) ⟨hin, nm_r (congrArg (fun t => upd R t v4) hcl) (nm_r (nI_1 c) ?_)⟩⟩⟩⟩
    refine pk_eq c 10 (fun e => absurd e (by omega)) (fun _ => ?_) rfl rfl (by omega) (by omega)
    refine dy_inT (dn_prk z) (br_f (by decide) (dy_fits (dn_prk z) (fun _ => br_f (by decide) ?_) (fun y => absurd z y)))
    refine ⟨hin, nm_r (congrArg (fun t => upd K t v1) hcl) ⟨hin, nm_r (congrArg (fun t => upd P t v2) hcl) ⟨hin, nm_r (congrArg (fun t => upd Q t v3) hcl) ⟨hin, nm_r (congrArg (fun t => upd R t v4) hcl) (nm_r (nI_1 c) ⟨rfl, dn_rel (by omega) (fun i hi => ?_)⟩)⟩⟩⟩⟩
    rcases Nat.lt_or_ge i c with y | y
    · show dn_pr (upd K c v1 i) (upd P c v2 i) (upd Q c v3 i) (upd R c v4 i)
      rw [pk_un (by omega), pk_un (by omega), pk_un (by omega), pk_un (by omega)]
      exact hp i y
    · obtain rfl : i = c := by omega
      show dn_pr (upd K i v1 i) (upd P i v2 i) (upd Q i v3 i) (upd R i v4 i)
      rw [pk_us, pk_us, pk_us, pk_us]
      exact z
  · refine pk_eq c 10 (fun e => absurd e (by omega)) (fun _ => ?_) rfl rfl (by omega) (by omega)
    exact dy_in (fun a => br_f (by decide) (dy_fits a (fun y => absurd y z) (fun _ => br_t rfl ⟨rfl, dn_rel hc hp⟩))) (fun a => br_t rfl ⟨rfl, dn_rel hc hp⟩)
  · exact pk_eq c 10 (fun e => ⟨rfl, dn_rel hc hp⟩) (fun e => absurd e (by omega)) rfl rfl (by omega) (by omega)
/-! drop -/
theorem dn_rc {x : Int32} {c : Nat} (hc : c ≤ 10) (h : dn_rg x 0 (nI c - 1)) : ∃ j, j < c ∧ x = nI j := by
  cases c with
  | zero => exact absurd (Int32.le_trans h.1 h.2) (by decide)
  | succ c =>
    rw [nI_pred] at h
    obtain ⟨j, hj, e⟩ := nI_of2 (nI_toInt (by omega)) (Int32.not_lt.mpr h.1) h.2
    exact ⟨j, by omega, e⟩
/-- k shifts from i on -/
def dn_dr : Nat → Nat → (Nat → Int32) → (Nat → Int32)
  | 0, _, A => A
  | k + 1, i, A => dn_dr k (i + 1) (upd A i (A (i + 1)))
theorem dn_dr1 (A : Nat → Int32) : ∀ k i j, j < i → dn_dr k i A j = A j := by
  intro k
  induction k generalizing A with
  | zero => intro i j _; rfl
  | succ k ih =>
    intro i j hj
    show dn_dr k (i + 1) (upd A i (A (i + 1))) j = _
    rw [ih _ (i + 1) j (by omega), pk_un (by omega)]
theorem dn_dr2 (A : Nat → Int32) : ∀ k i j, i ≤ j → j < i + k → dn_dr k i A j = A (j + 1) := by
  intro k
  induction k generalizing A with
  | zero => intro i j h1 h2; omega
  | succ k ih =>
    intro i j h1 h2
    show dn_dr k (i + 1) (upd A i (A (i + 1))) j = _
    rcases Nat.lt_or_ge i j with z | z
    · rw [ih _ (i + 1) j (by omega) (by omega), pk_un (by omega)]
    · obtain rfl : i = j := by omega
      rw [dn_dr1 _ k (i + 1) i (by omega), pk_us]
theorem dx_drop24 {post : Int32 → SX → Prop} {W F : Int32} {D V Z : Nat → Int32} {m : Nat} (hm : m < 10) : ∀ k i n (K P Q R : Nat → Int32), i + k = m → k < n → post (nI m) (nI m, W, F, D, dn_dr k i K, dn_dr k i P, dn_dr k i Q, dn_dr k i R, V, Z) → wX_drop_24 post (nI m) W F n (nI i) D K P Q R V Z := by
  intro k
  induction k with
  | zero =>
    intro i n K P Q R hi hn h
    obtain ⟨t, rfl⟩ : ∃ t, n = t + 1 := ⟨n - 1, by omega⟩
    obtain rfl : i = m := by omega
    exact br_t (nI_le (Nat.le_refl _) (by omega)) h
  | succ k ih =>
    intro i n K P Q R hi hn h
    obtain ⟨t, rfl⟩ : ∃ t, n = t + 1 := ⟨n - 1, by omega⟩
    have e1 : (nI i).toNatClampNeg = i := nI_clamp (by omega)
    have e2 : (nI i + 1).toNatClampNeg = i + 1 := by rw [nI_1]; exact nI_clamp (by omega)
    have i1 : vp_in (nI i) 10 := vp_in_nI (by omega) (by decide)
    have i2 : vp_in (nI i + 1) 10 := by rw [nI_1]; exact vp_in_nI (by omega) (by decide)
    have ee : ∀ A : Nat → Int32, upd A (nI i).toNatClampNeg (A (nI i + 1).toNatClampNeg) = upd A i (A (i + 1)) := fun A => by rw [e1, e2]
    exact br_f (nI_ge (by omega) (by omega)) ⟨i2, i1, nm_r (ee K) ⟨i2, i1, nm_r (ee P) ⟨i2, i1, nm_r (ee Q) ⟨i2, i1, nm_r (ee R) (nm_r (nI_1 i) (ih (i + 1) t _ _ _ _ (by omega) (by omega) h))⟩⟩⟩⟩
theorem dy_drop21 {post : Int32 → SY → Prop} {D V : Nat → Int32} {m : Nat} (hm : m < 10) : ∀ k i n (K P Q R : Nat → Int32), i + k = m → k < n → post (nI m) (nI m, dn_dr k i K, dn_dr k i P, dn_dr k i Q, dn_dr k i R, D, V) → wY_drop_21 post (nI (m + 1)) n (nI i) K P Q R D V := by
  intro k
  induction k with
  | zero =>
    intro i n K P Q R hi hn h
    obtain ⟨t, rfl⟩ : ∃ t, n = t + 1 := ⟨n - 1, by omega⟩
    obtain rfl : i = m := by omega
    exact br_t (by rw [nI_pred]; exact nI_le (Nat.le_refl _) (by omega)) (nm_r (nI_pred i) h)
  | succ k ih =>
    intro i n K P Q R hi hn h
    obtain ⟨t, rfl⟩ : ∃ t, n = t + 1 := ⟨n - 1, by omega⟩
    have e1 : (nI i).toNatClampNeg = i := nI_clamp (by omega)
    have e2 : (nI i + 1).toNatClampNeg = i + 1 := by rw [nI_1]; exact nI_clamp (by omega)
    have i1 : vp_in (nI i) 10 := vp_in_nI (by omega) (by decide)
    have i2 : vp_in (nI i + 1) 10 := by rw [nI_1]; exact vp_in_nI (by omega) (by decide)
    have ee : ∀ A : Nat → Int32, upd A (nI i).toNatClampNeg (A (nI i + 1).toNatClampNeg) = upd A i (A (i + 1)) := fun A => by rw [e1, e2]
    exact br_f (by rw [nI_pred]; exact nI_ge (by omega) (by omega)) ⟨i2, i1, nm_r (ee K) ⟨i2, i1, nm_r (ee P) ⟨i2, i1, nm_r (ee Q) ⟨i2, i1, nm_r (ee R) (nm_r (nI_1 i) (ih (i + 1) t _ _ _ _ (by omega) (by omega) h))⟩⟩⟩⟩
theorem i_vc_drop {k : Nat} {u : SX} {v : SY} (I : i_Rel k u v) (hk : k + 5 ≤ 2560) (v1 : Int32) : wpX_drop (fun r u' => wpY_drop (fun r' v' => r' = r ∧ i_Rel (k + 5) u' v') v v1) u v1 := by
  obtain ⟨c, W, F, D, K, P, Q, R, V, Z, V', rfl, rfl, hc, hp⟩ := I
  unfold wpX_drop wpY_drop
  refine dx_con (fun a => br_f (by decide) ?_) (fun a => br_t rfl ?_)
  · obtain ⟨j, hj, rfl⟩ := dn_rc hc a
    obtain ⟨m, rfl⟩ : ∃ m, c = m + 1 := ⟨c - 1, by omega⟩
    refine nm_r (nI_pred m) ⟨m + 1, dx_drop24 (by omega) (m - j) j (m + 1) K P Q R (by omega) (by omega) ?_⟩
    refine dy_inT a (br_f (by decide) ⟨m + 1, dy_drop21 (by omega) (m - j) j (m + 1) K P Q R (by omega) (by omega) ⟨rfl, dn_rel (by omega) (fun i hi => ?_)⟩⟩)
    rcases Nat.lt_or_ge i j with y | y
    · rw [dn_dr1 K _ _ _ y, dn_dr1 P _ _ _ y, dn_dr1 Q _ _ _ y, dn_dr1 R _ _ _ y]
      exact hp i (by omega)
    · rw [dn_dr2 K _ _ _ y (by omega), dn_dr2 P _ _ _ y (by omega), dn_dr2 Q _ _ _ y (by omega), dn_dr2 R _ _ _ y (by omega)]
      exact hp (i + 1) (by omega)
  · exact dy_inF a (br_t rfl ⟨rfl, dn_rel hc hp⟩)
end
section
/-! the calls that ask -/
theorem dn_b1296 (S : Nat → Bool) : dn_cn S 1296 < 2 ^ 31 := Nat.lt_of_le_of_lt (dn_cnb S 1296) (by decide)
theorem i_vc_solvable {k : Nat} {u : SX} {v : SY} (I : i_Rel k u v) (hk : k + 5 ≤ 2560) : wpX_solvable (fun r u' => wpY_solvable (fun r' v' => r' = r ∧ i_Rel (k + 5) u' v') v) u := by
  obtain ⟨c, W, F, D, K, P, Q, R, V, Z, V', rfl, rfl, hc, hp⟩ := I
  unfold wpX_solvable wpY_solvable
  refine dx_find hc hp (fun V1 Z1 hL => ?_)
  refine pk_le (dn_cn (dn_sb D K P Q R c (dn_in 0)) 1296) 0 (fun z => ?_) (fun z => ?_) rfl rfl (dn_b1296 _) (by decide)
  · refine dy_count hc hp (fun V2 => ?_)
    exact pk_le (dn_cn (dn_sb D K P Q R c (dn_in 0)) 1296) 0 (fun _ => ⟨rfl, dn_rel hc hp⟩) (fun y => absurd z (by omega)) rfl rfl (dn_b1296 _) (by decide)
  · refine dy_count hc hp (fun V2 => ?_)
    exact pk_le (dn_cn (dn_sb D K P Q R c (dn_in 0)) 1296) 0 (fun y => absurd z (by omega)) (fun _ => ⟨rfl, dn_rel hc hp⟩) rfl rfl (dn_b1296 _) (by decide)
theorem i_vc_count {k : Nat} {u : SX} {v : SY} (I : i_Rel k u v) (hk : k + 5 ≤ 2560) : wpX_count (fun r u' => wpY_count (fun r' v' => r' = r ∧ i_Rel (k + 5) u' v') v) u := by
  obtain ⟨c, W, F, D, K, P, Q, R, V, Z, V', rfl, rfl, hc, hp⟩ := I
  unfold wpX_count
  refine dx_find hc hp (fun V1 Z1 hL => ?_)
  exact dy_count hc hp (fun V2 => ⟨rfl, dn_rel hc hp⟩)
theorem i_vc_first {k : Nat} {u : SX} {v : SY} (I : i_Rel k u v) (hk : k + 5 ≤ 2560) (v1 : Int32) : wpX_first (fun r u' => wpY_first (fun r' v' => r' = r ∧ i_Rel (k + 5) u' v') v v1) u v1 := by
  obtain ⟨c, W, F, D, K, P, Q, R, V, Z, V', rfl, rfl, hc, hp⟩ := I
  unfold wpX_first wpY_first
  refine dx_var (fun a => br_f (by decide) ?_) (fun a => br_t rfl (dy_inF a (br_t rfl ⟨rfl, dn_rel hc hp⟩)))
  obtain ⟨j, hj, rfl⟩ := dn_rn a (n := 3) (by decide)
  refine dx_find hc hp (fun V1 Z1 hL => ?_)
  refine pk_eq (dn_cn (dn_sb D K P Q R c (dn_in 0)) 1296) 0 (fun z => ?_) (fun z => ?_) rfl rfl (dn_b1296 _) (by decide)
  · refine dy_inT a (br_f (by decide) ⟨1297, dy_firstN hc hp ?_ (fun V2 => ⟨rfl, dn_rel hc hp⟩) 1296 0 1297 V' (by omega) (by omega)⟩)
    intro b hb
    rw [dn_allS hc]
    cases hs : dn_sb D K P Q R c (dn_in 0) b
    · rfl
    · have := dn_cnl _ hb hs
      omega
  · obtain ⟨b, hb, hS, h0, hN⟩ := dn_fst (S := dn_sb D K P Q R c (dn_in 0)) (k := 1296) (by omega)
    have hz : Z1 0 = nI b := by
      have := hL b hb hS
      rw [h0] at this
      exact this
    rw [hz]
    refine dx_look hb (fun V2 hV2 => ⟨vp_in_nI (by omega) (by decide), ?_⟩)
    rw [nI_clamp (by omega), hV2 j (by omega)]
    refine dy_inT a (br_f (by decide) ⟨1297, dy_firstS hc hp (by omega) hb ?_ ?_ (fun V3 => ⟨rfl, dn_rel hc hp⟩) b 0 1297 V' (by omega) (by omega)⟩)
    · rw [dn_allS hc]; exact hS
    · rw [dn_allS hc]; exact hN
theorem i_vc_possible {k : Nat} {u : SX} {v : SY} (I : i_Rel k u v) (hk : k + 5 ≤ 2560) (v1 : Int32) : wpX_possible (fun r u' => wpY_possible (fun r' v' => r' = r ∧ i_Rel (k + 5) u' v') v v1) u v1 := by
  obtain ⟨c, W, F, D, K, P, Q, R, V, Z, V', rfl, rfl, hc, hp⟩ := I
  unfold wpX_possible wpY_possible
  refine dx_var (fun a => br_f (by decide) ?_) (fun a => br_t rfl (dy_inF a (br_t rfl ⟨rfl, dn_rel hc hp⟩)))
  obtain ⟨j, hj, rfl⟩ := dn_rn a (n := 3) (by decide)
  refine dx_find hc hp (fun V1 Z1 hL => ?_)
  refine ⟨1297, dx_pos20 (by omega) hL (fun V2 => ?_) 1296 0 1297 V1 (by omega) (by omega)⟩
  refine dy_inT a (br_f (by decide) ⟨1297, dy_pos24 hc hp (by omega) (fun V3 => ⟨?_, dn_rel hc hp⟩) 1296 0 1297 V' (by omega) (by omega)⟩)
  rw [dn_allS hc]
theorem i_vc_countWith {k : Nat} {u : SX} {v : SY} (I : i_Rel k u v) (hk : k + 5 ≤ 2560) (v1 : Int32) (v2 : Int32) : wpX_countWith (fun r u' => wpY_countWith (fun r' v' => r' = r ∧ i_Rel (k + 5) u' v') v v1 v2) u v1 v2 := by
  obtain ⟨c, W, F, D, K, P, Q, R, V, Z, V', rfl, rfl, hc, hp⟩ := I
  unfold wpX_countWith wpY_countWith
  refine dx_var (fun a => br_f (by decide) (dx_in (fun b => br_f (by decide) ?_) (fun b => br_t rfl (dy_inT a (br_f (by decide) (dy_inF b (br_t rfl ⟨rfl, dn_rel hc hp⟩))))))) (fun a => br_t rfl (dy_inF a (br_t rfl ⟨rfl, dn_rel hc hp⟩)))
  obtain ⟨j, hj, rfl⟩ := dn_rn a (n := 3) (by decide)
  obtain ⟨x, hx, rfl⟩ := dn_rn b (n := 5) (by decide)
  refine dx_find hc hp (fun V1 Z1 hL => ?_)
  refine ⟨1297, dx_cw30 (by omega) (by omega) hL (fun V2 => ?_) 1296 0 1297 V1 (by omega) (by omega)⟩
  refine dy_inT a (br_f (by decide) (dy_inT b (br_f (by decide) ⟨1297, dy_cw35 hc hp (by omega) (by omega) (fun V3 => ⟨?_, dn_rel hc hp⟩) 1296 0 1297 V' (by omega) (by omega)⟩)))
  rw [dn_allS hc]
theorem i_vc_best {k : Nat} {u : SX} {v : SY} (I : i_Rel k u v) (hk : k + 5 ≤ 2560) (v1 : Int32) : wpX_best (fun r u' => wpY_best (fun r' v' => r' = r ∧ i_Rel (k + 5) u' v') v v1) u v1 := by
  obtain ⟨c, W, F, D, K, P, Q, R, V, Z, V', rfl, rfl, hc, hp⟩ := I
  unfold wpX_best wpY_best
  refine dx_wei (fun a => br_f (by decide) ?_) (fun a => br_t rfl (dy_inF a (br_t rfl ⟨rfl, dn_rel hc hp⟩)))
  obtain ⟨w, hw, rfl⟩ := dn_rn a (n := 2400) (by decide)
  refine dx_find hc hp (fun V1 Z1 hL => ?_)
  refine dx_keep (by omega) hL (fun V2 Z2 h0 => ?_)
  exact dy_inT a (br_f (by decide) (dy_opt rfl hc hp (by omega) (fun V3 => br_f (by decide) (br_t rfl ⟨rfl, dn_rel hc hp⟩))))
theorem i_vc_least {k : Nat} {u : SX} {v : SY} (I : i_Rel k u v) (hk : k + 5 ≤ 2560) (v1 : Int32) : wpX_least (fun r u' => wpY_least (fun r' v' => r' = r ∧ i_Rel (k + 5) u' v') v v1) u v1 := by
  obtain ⟨c, W, F, D, K, P, Q, R, V, Z, V', rfl, rfl, hc, hp⟩ := I
  unfold wpX_least wpY_least
  refine dx_wei (fun a => br_f (by decide) ?_) (fun a => br_t rfl (dy_inF a (br_t rfl ⟨rfl, dn_rel hc hp⟩)))
  obtain ⟨w, hw, rfl⟩ := dn_rn a (n := 2400) (by decide)
  refine dx_find hc hp (fun V1 Z1 hL => ?_)
  refine dx_keep (by omega) hL (fun V2 Z2 h0 => ?_)
  have hn := dn_opn (S := dn_sb D K P Q R c (dn_in 0)) (f := fun b => dn_sm w (dn_d b) 4) (fun b => dn_sm61 w b) 1296
  have hb := dn_b1296 (dn_sb D K P Q R c (dn_in 0))
  refine pk_eq (dn_op (dn_sb D K P Q R c (dn_in 0)) (fun b => dn_sm w (dn_d b) 4) 1296).2.1 0 (fun z => ?_) (fun z => ?_) rfl rfl (by omega) (by decide)
  · refine dy_inT a (br_f (by decide) (dy_opt rfl hc hp (by omega) (fun V3 => br_t rfl ?_)))
    rcases dn_opi (S := dn_sb D K P Q R c (dn_in 0)) (f := fun b => dn_sm w (dn_d b) 4) (fun b => dn_sm61 w b) 1296 with ⟨y, _⟩ | ⟨y, _⟩
    · exact br_t (by rw [y]) ⟨rfl, dn_rel hc hp⟩
    · omega
  · rcases dn_opi (S := dn_sb D K P Q R c (dn_in 0)) (f := fun b => dn_sm w (dn_d b) 4) (fun b => dn_sm61 w b) 1296 with ⟨y, _⟩ | ⟨y1, y2, y3, y4⟩
    · rw [y] at z; exact absurd rfl z
    · rw [h0 y1]
      refine dx_look y3 (fun V3 hV3 => dx_sum (by omega) hV3 ?_)
      refine dy_inT a (br_f (by decide) (dy_opt rfl hc hp (by omega) (fun V4 => br_t rfl (br_f ?_ ⟨y4, dn_rel hc hp⟩))))
      rw [y4]
      exact Int32.ne_of_lt (dn_sm61 w _)
theorem i_vc_bestOne {k : Nat} {u : SX} {v : SY} (I : i_Rel k u v) (hk : k + 5 ≤ 2560) (v1 : Int32) : wpX_bestOne (fun r u' => wpY_bestOne (fun r' v' => r' = r ∧ i_Rel (k + 5) u' v') v v1) u v1 := by
  obtain ⟨c, W, F, D, K, P, Q, R, V, Z, V', rfl, rfl, hc, hp⟩ := I
  unfold wpX_bestOne wpY_bestOne
  refine dx_wei (fun a => br_f (by decide) ?_) (fun a => br_t rfl (dy_inF a (br_t rfl ⟨rfl, dn_rel hc hp⟩)))
  obtain ⟨w, hw, rfl⟩ := dn_rn a (n := 2400) (by decide)
  refine dx_find hc hp (fun V1 Z1 hL => ?_)
  refine dx_keep (by omega) hL (fun V2 Z2 h0 => ?_)
  have hn := dn_opn (S := dn_sb D K P Q R c (dn_in 0)) (f := fun b => dn_sm w (dn_d b) 4) (fun b => dn_sm61 w b) 1296
  have hb := dn_b1296 (dn_sb D K P Q R c (dn_in 0))
  refine pk_eq (dn_op (dn_sb D K P Q R c (dn_in 0)) (fun b => dn_sm w (dn_d b) 4) 1296).2.1 0 (fun z => ?_) (fun z => ?_) rfl rfl (by omega) (by decide)
  · refine dy_inT a (br_f (by decide) (dy_opt rfl hc hp (by omega) (fun V3 => br_f (by decide) (br_f (by decide) ?_))))
    rcases dn_opi (S := dn_sb D K P Q R c (dn_in 0)) (f := fun b => dn_sm w (dn_d b) 4) (fun b => dn_sm61 w b) 1296 with ⟨y, _⟩ | ⟨y, _⟩
    · exact br_t (by rw [y]) ⟨rfl, dn_rel hc hp⟩
    · omega
  · rcases dn_opi (S := dn_sb D K P Q R c (dn_in 0)) (f := fun b => dn_sm w (dn_d b) 4) (fun b => dn_sm61 w b) 1296 with ⟨y, _⟩ | ⟨y1, y2, y3, y4⟩
    · rw [y] at z; exact absurd rfl z
    · refine dy_inT a (br_f (by decide) (dy_opt rfl hc hp (by omega) (fun V4 => br_f (by decide) (br_f (by decide) (br_f ?_ ⟨(h0 y1).symm, dn_rel hc hp⟩)))))
      rw [y4]
      exact Int32.ne_of_lt (dn_sm61 w _)
theorem i_vc_needless {k : Nat} {u : SX} {v : SY} (I : i_Rel k u v) (hk : k + 5 ≤ 2560) (v1 : Int32) : wpX_needless (fun r u' => wpY_needless (fun r' v' => r' = r ∧ i_Rel (k + 5) u' v') v v1) u v1 := by
  obtain ⟨c, W, F, D, K, P, Q, R, V, Z, V', rfl, rfl, hc, hp⟩ := I
  unfold wpX_needless wpY_needless
  refine dx_con (fun a => br_f (by decide) ?_) (fun a => br_t rfl (dy_inF a (br_t rfl ⟨rfl, dn_rel hc hp⟩)))
  obtain ⟨i, hi, rfl⟩ := dn_rc hc a
  have e : dn_sb D K P Q R c (bt ((((1 : Int32) <<< (nI c &&& 31)) - 1) &&& (((1 : Int32) <<< (nI i &&& 31)) ^^^ (-1)))) = dn_sb D K P Q R c (dn_in ((1 : Int32) <<< (nI i &&& 31))) := by
    apply dn_soc
    intro j hj
    rw [b_and, dn_all c (by omega) j (by omega), decide_eq_true hj, dn_not _ j (by omega), Bool.true_and]
    rfl
  refine dx_find hc hp (fun V1 Z1 hL => ?_)
  refine dx_find hc hp (fun V2 Z2 hL2 => ?_)
  refine br_c (fun z => ?_) (fun z => ?_)
  · refine dy_inT a (br_f (by decide) (nm_e (dy_cntOf hc hp (fun V3 => dy_count hc hp (fun V4 => ?_)))))
    rw [e]
    exact br_t z ⟨rfl, dn_rel hc hp⟩
  · refine dy_inT a (br_f (by decide) (nm_e (dy_cntOf hc hp (fun V3 => dy_count hc hp (fun V4 => ?_)))))
    rw [e]
    exact br_f z ⟨rfl, dn_rel hc hp⟩
theorem i_vc_blame {k : Nat} {u : SX} {v : SY} (I : i_Rel k u v) (hk : k + 5 ≤ 2560) : wpX_blame (fun r u' => wpY_blame (fun r' v' => r' = r ∧ i_Rel (k + 5) u' v') v) u := by
  obtain ⟨c, W, F, D, K, P, Q, R, V, Z, V', rfl, rfl, hc, hp⟩ := I
  unfold wpX_blame wpY_blame
  refine dx_find hc hp (fun V1 Z1 hL => ?_)
  refine pk_le (dn_cn (dn_sb D K P Q R c (dn_in 0)) 1296) 0 (fun z => ?_) (fun z => ?_) rfl rfl (dn_b1296 _) (by decide)
  · refine ⟨c + 1, dx_blame20 hc hp (fun F2 V2 Z2 b hb => ?_) c 0 (c + 1) _ V1 Z1 0 0 (by omega) (by omega) (fun j hj => b_0 j) (fun j hj => ?_)⟩
    · refine dy_cntOf hc hp (fun V3 => ?_)
      rw [dn_allS hc]
      refine pk_le (dn_cn (dn_sb D K P Q R c (dn_in 0)) 1296) 0 (fun _ => ?_) (fun y => absurd z (by omega)) rfl rfl (dn_b1296 _) (by decide)
      refine ⟨c + 1, dy_blame17 hc hp (fun V4 s hs => ⟨b_ext (fun j hj => (hs j hj).trans (hb j hj).symm), dn_rel hc hp⟩) c 0 (c + 1) V3 _ (by omega) (by omega) (fun j hj => ?_)⟩
      rw [dn_all c (by omega) j hj]
      show _ = (decide (j < c) && !false)
      rw [Bool.not_false, Bool.and_true]
    · rw [b_0, decide_eq_false (by omega), Bool.false_and]
  · refine dy_cntOf hc hp (fun V3 => ?_)
    rw [dn_allS hc]
    exact pk_le (dn_cn (dn_sb D K P Q R c (dn_in 0)) 1296) 0 (fun y => absurd z (by omega)) (fun _ => ⟨rfl, dn_rel hc hp⟩) rfl rfl (dn_b1296 _) (by decide)
end
