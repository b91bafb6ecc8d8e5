/-! the reference: its small methods. Its state is (n, kind, p, q, r, domains, values): (C, K, P, Q, R, D, V) -/
theorem dy_in {post : Int32 → Prop} {C : Int32} {K P Q R D V : Nat → Int32} {x a b : Int32} (h1 : dn_rg x a b → post 1) (h0 : ¬ dn_rg x a b → post 0) : wpY_in post (C, K, P, Q, R, D, V) x a b :=
  br_c (fun h => h0 (fun z => Int32.not_le.mpr h z.1)) (fun h => br_c (fun g => h0 (fun z => Int32.not_le.mpr g z.2)) (fun g => h1 ⟨Int32.not_lt.mp h, Int32.not_lt.mp g⟩))
theorem dn_k8 {k : Int32} (h : dn_rg k 0 8) : k = 0 ∨ k = 1 ∨ k = 2 ∨ k = 3 ∨ k = 4 ∨ k = 5 ∨ k = 6 ∨ k = 7 ∨ k = 8 := by
  obtain ⟨j, hj, rfl⟩ := dn_rn h (n := 8) (by decide)
  exact (by decide +kernel : ∀ j, j ≤ 8 → nI j = 0 ∨ nI j = 1 ∨ nI j = 2 ∨ nI j = 3 ∨ nI j = 4 ∨ nI j = 5 ∨ nI j = 6 ∨ nI j = 7 ∨ nI j = 8) j hj
theorem dn_prk {k p q r : Int32} (h : dn_pr k p q r) : dn_rg k 0 8 := by
  rcases dn_kinds h with rfl | rfl | rfl | rfl | rfl | rfl | rfl | rfl | rfl <;> exact ⟨by decide, by decide⟩
theorem dy_fits {post : Int32 → Prop} {C : Int32} {K P Q R D V : Nat → Int32} {k p q r : Int32} (hk : dn_rg k 0 8) (h1 : dn_pr k p q r → post 1) (h0 : ¬ dn_pr k p q r → post 0) : wpY_fits post (C, K, P, Q, R, D, V) k p q r := by
  unfold wpY_fits
  rcases dn_k8 hk with rfl | rfl | rfl | rfl | rfl | rfl | rfl | rfl | rfl
  · rw [dn_pr0] at h1 h0
    exact br_f (by decide) (dy_in (fun a => br_f (by decide) (dy_in (fun b => br_f (by decide) (h1 ⟨a, b⟩)) (fun b => br_t rfl (h0 (fun z => b z.2))))) (fun a => br_t rfl (h0 (fun z => a z.1))))
  · rw [dn_pr1] at h1 h0
    exact br_f (by decide) (dy_in (fun a => br_f (by decide) (dy_in (fun b => br_f (by decide) (h1 ⟨a, b⟩)) (fun b => br_t rfl (h0 (fun z => b z.2))))) (fun a => br_t rfl (h0 (fun z => a z.1))))
  · rw [dn_pr2] at h1 h0
    exact br_t (by decide) (br_t rfl (dy_in (fun a => ⟨rfl, h1 a⟩) (fun a => ⟨rfl, h0 a⟩)))
  · rw [dn_pr3] at h1 h0
    exact br_t (by decide) (br_f (by decide) (br_t rfl (dy_in (fun a => br_f (by decide) (dy_in (fun b => br_f (by decide) (dy_in (fun c => br_f (by decide) (h1 ⟨a, b, c⟩)) (fun c => br_t rfl (h0 (fun z => c z.2.2))))) (fun b => br_t rfl (h0 (fun z => b z.2.1))))) (fun a => br_t rfl (h0 (fun z => a z.1))))))
  · rw [dn_pr4] at h1 h0
    exact br_t (by decide) (br_f (by decide) (br_f (by decide) (br_t rfl (dy_in (fun a => br_f (by decide) (dy_in (fun b => br_f (by decide) (dy_in (fun c => br_f (by decide) (h1 ⟨a, b, c⟩)) (fun c => br_t rfl (h0 (fun z => c z.2.2))))) (fun b => br_t rfl (h0 (fun z => b z.2.1))))) (fun a => br_t rfl (h0 (fun z => a z.1)))))))
  · rw [dn_pr5] at h1 h0
    exact br_t (by decide) (br_f (by decide) (br_f (by decide) (br_f (by decide) (br_t rfl (dy_in (fun a => br_f (by decide) (dy_in (fun b => br_f (by decide) (h1 ⟨a, b⟩)) (fun b => br_t rfl (h0 (fun z => b z.2))))) (fun a => br_t rfl (h0 (fun z => a z.1))))))))
  · rw [dn_pr6] at h1 h0
    exact br_t (by decide) (br_f (by decide) (br_f (by decide) (br_f (by decide) (br_f (by decide) (br_t rfl (dy_in (fun a => br_f (by decide) (dy_in (fun b => br_f (by decide) (dy_in (fun c => br_f (by decide) (h1 ⟨a, b, c⟩)) (fun c => br_t rfl (h0 (fun z => c z.2.2))))) (fun b => br_t rfl (h0 (fun z => b z.2.1))))) (fun a => br_t rfl (h0 (fun z => a z.1)))))))))
  · rw [dn_pr7] at h1 h0
    exact br_t (by decide) (br_f (by decide) (br_f (by decide) (br_f (by decide) (br_f (by decide) (br_f (by decide) (br_t rfl (dy_in (fun a => br_f (by decide) (dy_in (fun b => br_f (by decide) (dy_in (fun c => br_f (by decide) (h1 ⟨a, b, c⟩)) (fun c => br_t rfl (h0 (fun z => c z.2.2))))) (fun b => br_t rfl (h0 (fun z => b z.2.1))))) (fun a => br_t rfl (h0 (fun z => a z.1))))))))))
  · rw [dn_pr8] at h1 h0
    exact br_t (by decide) (br_f (by decide) (br_f (by decide) (br_f (by decide) (br_f (by decide) (br_f (by decide) (br_f (by decide) (dy_in (fun a => br_f (by decide) (dy_in (fun b => br_f (by decide) (dy_in (fun c => br_f (by decide) (h1 ⟨a, b, c⟩)) (fun c => br_t rfl (h0 (fun z => c z.2.2))))) (fun b => br_t rfl (h0 (fun z => b z.2.1))))) (fun a => br_t rfl (h0 (fun z => a z.1))))))))))
theorem dy_sum7 {post : Int32 → Prop} {C : Int32} {K P Q R D V : Nat → Int32} {w : Nat} {d : Nat → Nat} (hw : w < 2 ^ 31) (hV : ∀ j, j < 4 → V j = nI (d j)) (h : post (dn_sm w d 4)) : ∀ k v n, v + k = 4 → k < n → wY_sum_7 post C K P Q R D V n (nI (w / 7 ^ v)) (dn_sm w d v) (nI v) := by
  intro k
  induction k with
  | zero =>
    intro v n hv hn
    obtain ⟨m, rfl⟩ : ∃ m, n = m + 1 := ⟨n - 1, by omega⟩
    rw [show v = 4 by omega]
    exact br_t (nI_le (a := 4) (b := 4) (by decide) (by decide)) h
  | succ k ih =>
    intro v n hv hn
    obtain ⟨m, rfl⟩ : ∃ m, n = m + 1 := ⟨n - 1, by omega⟩
    have hq : w / 7 ^ v < 2 ^ 31 := Nat.lt_of_le_of_lt (Nat.div_le_self _ _) hw
    refine br_f (nI_ge (b := 4) (by omega) (by decide)) ⟨by decide, vp_in_nI (by omega) (by decide), nm_r (e' := dn_sm w d (v + 1)) ?_ ⟨by decide, nm_r (e' := nI (w / 7 ^ (v + 1))) ?_ (nm_r (nI_1 v) (ih (v + 1) m (by omega) (by omega)))⟩⟩
    · rw [nI_clamp (by omega), hV v (by omega)]
      exact congrArg (fun z => dn_sm w d v + (z - 3) * nI (d v)) (pk_rem (d := 7) hq (by decide) (by decide))
    · refine (pk_div (d := 7) hq (by decide) (by decide)).trans (congrArg nI ?_)
      rw [Nat.div_div_eq_div_mul, ← Nat.pow_succ]
theorem dy_sum {post : Int32 → Prop} {C : Int32} {K P Q R D V : Nat → Int32} {w : Nat} {d : Nat → Nat} (hw : w < 2 ^ 31) (hV : ∀ j, j < 4 → V j = nI (d j)) (h : post (dn_sm w d 4)) : wpY_sum post (C, K, P, Q, R, D, V) (nI w) := by
  have t := dy_sum7 (C := C) (K := K) (P := P) (Q := Q) (R := R) (D := D) hw hV h 4 0 5 (by omega) (by omega)
  rw [Nat.pow_zero, Nat.div_one] at t
  exact ⟨5, t⟩
/-! different: the bits of two variables at once -/
theorem dn_tst2 (x : Int32) (i j : Nat) (hi : i < 31) (hj : j < 31) : ((x >>> (nI i &&& 31)) &&& (x >>> (nI j &&& 31))) &&& 1 = 1 ↔ (bt x i = true ∧ bt x j = true) := by
  have e : ((x >>> (nI i &&& 31)) &&& (x >>> (nI j &&& 31))) &&& 1 = if bt x i = true ∧ bt x j = true then 1 else 0 := by
    apply b_ext
    intro t ht
    rw [b_and, b_and, b_sshr i (by omega) x ht, b_sshr j (by omega) x ht, dn_bt1]
    by_cases h0 : t = 0
    · subst h0
      rw [if_pos (by omega), if_pos (by omega), Nat.add_zero, Nat.add_zero]
      cases h1 : bt x i <;> cases h2 : bt x j
      · rw [if_neg (by simp), b_0]; rfl
      · rw [if_neg (by simp), b_0]; rfl
      · rw [if_neg (by simp), b_0]; rfl
      · rw [if_pos (by simp), dn_bt1]; rfl
    · rw [decide_eq_false h0, Bool.and_false]
      by_cases hc : bt x i = true ∧ bt x j = true
      · rw [if_pos hc, dn_bt1, decide_eq_false h0]
      · rw [if_neg hc, b_0]
  rw [e]
  by_cases hc : bt x i = true ∧ bt x j = true
  · rw [if_pos hc]; exact ⟨fun _ => hc, fun _ => rfl⟩
  · rw [if_neg hc]; exact ⟨fun z => absurd z (by decide), fun z => absurd z hc⟩
theorem dy_dif9 {post : Int32 → Prop} {J : Int32 → Prop} {C : Int32} {K P Q R D V : Nat → Int32} {p : Int32} {d : Nat → Nat} {v : Nat} (hd : ∀ v, d v < 6) (hv : v < 4) (hV : ∀ j, j < 4 → V j = nI (d j)) (h0 : ¬ dn_df p d 4 → post 0) (H : (∀ w, w < v → bt p v = true → bt p w = true → d v ≠ d w) → J (nI (v + 1))) : ∀ k w n, w + k = v → k < n → (∀ x, x < w → bt p v = true → bt p x = true → d v ≠ d x) → wY_isDifferent_9 post J p (nI v) C K P Q R D V n (nI w) := by
  intro k
  induction k with
  | zero =>
    intro w n hw hn hx
    obtain ⟨m, rfl⟩ : ∃ m, n = m + 1 := ⟨n - 1, by omega⟩
    obtain rfl : w = v := by omega
    exact br_t (nI_le (Nat.le_refl _) (by omega)) (nm_r (nI_1 w) (H hx))
  | succ k ih =>
    intro w n hw hn hx
    obtain ⟨m, rfl⟩ : ∃ m, n = m + 1 := ⟨n - 1, by omega⟩
    refine br_f (nI_ge (by omega) (by omega)) (br_c (fun z => ?_) (fun z => ?_))
    · rw [dn_tst2 p v w (by omega) (by omega)] at z
      have dv := hd v
      have dw := hd w
      refine ⟨vp_in_nI hv (by decide), vp_in_nI (by omega) (by decide), ?_⟩
      rw [nI_clamp (n := v) (by omega), nI_clamp (n := w) (by omega), hV v hv, hV w (by omega)]
      refine pk_eq (d v) (d w) (fun e => h0 (fun y => y v hv w (by omega) z.1 z.2 e)) (fun e => nm_r (nI_1 w) (ih (w + 1) m (by omega) (by omega) ?_)) rfl rfl (by omega) (by omega)
      intro x h1 h2 h3
      rcases Nat.lt_or_ge x w with y | y
      · exact hx x y h2 h3
      · rw [show x = w by omega]; exact e
    · rw [dn_tst2 p v w (by omega) (by omega)] at z
      refine nm_r (nI_1 w) (ih (w + 1) m (by omega) (by omega) ?_)
      intro x h1 h2 h3
      rcases Nat.lt_or_ge x w with y | y
      · exact hx x y h2 h3
      · rw [show x = w by omega] at h3
        exact absurd ⟨h2, h3⟩ z
theorem dy_dif2 {post : Int32 → Prop} {C : Int32} {K P Q R D V : Nat → Int32} {p : Int32} {d : Nat → Nat} (hd : ∀ v, d v < 6) (hV : ∀ j, j < 4 → V j = nI (d j)) (h1 : dn_df p d 4 → post 1) (h0 : ¬ dn_df p d 4 → post 0) : ∀ k v n, v + k = 4 → k < n → dn_df p d v → wY_isDifferent_2 post p C K P Q R D V n (nI v) := by
  intro k
  induction k with
  | zero =>
    intro v n hv hn hf
    obtain ⟨m, rfl⟩ : ∃ m, n = m + 1 := ⟨n - 1, by omega⟩
    obtain rfl : v = 4 := by omega
    exact br_t (nI_le (a := 4) (b := 4) (by decide) (by decide)) (h1 hf)
  | succ k ih =>
    intro v n hv hn hf
    obtain ⟨m, rfl⟩ : ∃ m, n = m + 1 := ⟨n - 1, by omega⟩
    refine br_f (nI_ge (b := 4) (by omega) (by decide)) ⟨v + 1, dy_dif9 hd (by omega) hV h0 (fun hn' => ih (v + 1) m (by omega) (by omega) ?_) v 0 (v + 1) (by omega) (by omega) (fun x hx => absurd hx (by omega))⟩
    intro x hx w hw b1 b2
    rcases Nat.lt_or_ge x v with z | z
    · exact hf x z w hw b1 b2
    · obtain rfl : x = v := by omega
      exact hn' w hw b1 b2
theorem dy_dif {post : Int32 → Prop} {C : Int32} {K P Q R D V : Nat → Int32} {p : Int32} {d : Nat → Nat} (hd : ∀ v, d v < 6) (hV : ∀ j, j < 4 → V j = nI (d j)) (h1 : dn_df p d 4 → post 1) (h0 : ¬ dn_df p d 4 → post 0) : wpY_isDifferent post (C, K, P, Q, R, D, V) p :=
  ⟨5, dy_dif2 hd hV h1 h0 4 0 5 (by omega) (by omega) (fun v hv => absurd hv (by omega))⟩
theorem dy_dig5 {post : Int32 → Prop} {C : Int32} {K P Q R D V : Nat → Int32} {r y : Nat} (hr : r < 2 ^ 31) (hy : y < 2 ^ 31) (h : post (nI (r / 6 ^ y % 6))) : ∀ k v n, v + k = y → k < n → wY_digit_5 post (nI y) C K P Q R D V n (nI (r / 6 ^ v)) (nI v) := by
  intro k
  induction k with
  | zero =>
    intro v n hv hn
    obtain ⟨m, rfl⟩ : ∃ m, n = m + 1 := ⟨n - 1, by omega⟩
    obtain rfl : v = y := by omega
    have hq : r / 6 ^ v < 2 ^ 31 := Nat.lt_of_le_of_lt (Nat.div_le_self _ _) hr
    refine br_t (nI_le (by omega) hy) ⟨by decide, ?_⟩
    rw [show nI (r / 6 ^ v) - nI (r / 6 ^ v) / 6 * 6 = nI (r / 6 ^ v % 6) from pk_rem (d := 6) hq (by decide) (by decide)]
    exact h
  | succ k ih =>
    intro v n hv hn
    obtain ⟨m, rfl⟩ : ∃ m, n = m + 1 := ⟨n - 1, by omega⟩
    have hq : r / 6 ^ v < 2 ^ 31 := Nat.lt_of_le_of_lt (Nat.div_le_self _ _) hr
    refine br_f (nI_ge (by omega) hy) ⟨by decide, nm_r (e' := nI (r / 6 ^ (v + 1))) ?_ (nm_r (nI_1 v) (ih (v + 1) m (by omega) (by omega)))⟩
    refine (pk_div (d := 6) hq (by decide) (by decide)).trans (congrArg nI ?_)
    rw [Nat.div_div_eq_div_mul, ← Nat.pow_succ]
theorem dy_dig {post : Int32 → Prop} {C : Int32} {K P Q R D V : Nat → Int32} {r y : Nat} (hr : r < 2 ^ 31) (hy : y < 2 ^ 31) (h : post (nI (r / 6 ^ y % 6))) : wpY_digit post (C, K, P, Q, R, D, V) (nI r) (nI y) := by
  have t := dy_dig5 (C := C) (K := K) (P := P) (Q := Q) (R := R) (D := D) (V := V) hr hy h y 0 (y + 1) (by omega) (by omega)
  rw [Nat.pow_zero, Nat.div_one] at t
  exact ⟨y + 1, t⟩
theorem dy_hav5 {post : Int32 → Prop} {C : Int32} {K P Q R D V : Nat → Int32} {p : Int32} {x : Nat} {d : Nat → Nat} (hd : ∀ v, d v < 6) (hx : x < 2 ^ 31) (hV : ∀ j, j < 4 → V j = nI (d j)) (h : post (nI (dn_oc p x d 4))) : ∀ k v n, v + k = 4 → k < n → wY_having_5 post p (nI x) C K P Q R D V n (nI (dn_oc p x d v)) (nI v) := by
  intro k
  induction k with
  | zero =>
    intro v n hv hn
    obtain ⟨m, rfl⟩ : ∃ m, n = m + 1 := ⟨n - 1, by omega⟩
    obtain rfl : v = 4 := by omega
    exact br_t (nI_le (a := 4) (b := 4) (by decide) (by decide)) h
  | succ k ih =>
    intro v n hv hn
    obtain ⟨m, rfl⟩ : ∃ m, n = m + 1 := ⟨n - 1, by omega⟩
    have t := ih (v + 1) m (by omega) (by omega)
    refine br_f (nI_ge (b := 4) (by omega) (by decide)) ?_
    cases hb : bt p v
    · rw [dn_ocf (Or.inl hb)] at t
      exact br_f (fun z => by rw [dn_tst1 p v (by omega), hb] at z; cases z) (nm_r (nI_1 v) t)
    · refine br_t ((dn_tst1 p v (by omega)).mpr hb) ⟨vp_in_nI (by omega) (by decide), ?_⟩
      rw [nI_clamp (by omega), hV v (by omega)]
      have hdv := hd v
      refine pk_eq (d v) x (fun e => ?_) (fun e => ?_) rfl rfl (by omega) hx
      · rw [dn_oct hb e] at t
        exact nm_r (nI_1 _) (nm_r (nI_1 v) t)
      · rw [dn_ocf (Or.inr e)] at t
        exact nm_r (nI_1 v) t
theorem dy_hav {post : Int32 → Prop} {C : Int32} {K P Q R D V : Nat → Int32} {p : Int32} {x : Nat} {d : Nat → Nat} (hd : ∀ v, d v < 6) (hx : x < 2 ^ 31) (hV : ∀ j, j < 4 → V j = nI (d j)) (h : post (nI (dn_oc p x d 4))) : wpY_having post (C, K, P, Q, R, D, V) p (nI x) :=
  ⟨5, dy_hav5 hd hx hV h 4 0 5 (by omega) (by omega)⟩
