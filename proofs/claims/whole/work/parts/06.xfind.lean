/-! the class: which variables a constraint looks at, where the search is stuck, the search -/
theorem dn_us2 (p q r : Int32) (v : Nat) : dn_us 2 p q r v = (bt p v = true) := by simp [dn_us]
theorem dn_us3 (p q r : Int32) (v : Nat) : dn_us 3 p q r v = (v = p.toNatClampNeg ∨ v = q.toNatClampNeg) := by simp [dn_us]
theorem dn_us4 (p q r : Int32) (v : Nat) : dn_us 4 p q r v = (v = p.toNatClampNeg ∨ v = q.toNatClampNeg ∨ v = r.toNatClampNeg) := by simp [dn_us]
theorem dn_us5 (p q r : Int32) (v : Nat) : dn_us 5 p q r v = (v = p.toNatClampNeg / 6 ∨ v = q.toNatClampNeg / 6) := by simp [dn_us]
theorem dn_us6 (p q r : Int32) (v : Nat) : dn_us 6 p q r v = (v = p.toNatClampNeg ∨ v = q.toNatClampNeg) := by simp [dn_us]
theorem dn_us7 (p q r : Int32) (v : Nat) : dn_us 7 p q r v = (bt p v = true) := by simp [dn_us]
theorem dn_us8 (p q r : Int32) (v : Nat) : dn_us 8 p q r v = (v = p.toNatClampNeg ∨ v = q.toNatClampNeg ∨ v = r.toNatClampNeg % 4 ∨ v = r.toNatClampNeg / 4) := by simp [dn_us]
theorem dn_b15 : ∀ v, v < 4 → bt 15 v = true := by decide +kernel
theorem dn_or2 {a b v : Nat} (ha : a < 32) (hb : b < 32) (hv : v < 32) (h : v = a ∨ v = b) : bt (((1 : Int32) <<< (nI a &&& 31)) ||| ((1 : Int32) <<< (nI b &&& 31))) v = true := by
  rw [b_or, dn_one a v ha hv, dn_one b v hb hv]
  rcases h with rfl | rfl <;> simp
theorem dn_or3 {a b c v : Nat} (ha : a < 32) (hb : b < 32) (hc : c < 32) (hv : v < 32) (h : v = a ∨ v = b ∨ v = c) : bt ((((1 : Int32) <<< (nI a &&& 31)) ||| ((1 : Int32) <<< (nI b &&& 31))) ||| ((1 : Int32) <<< (nI c &&& 31))) v = true := by
  rw [b_or, b_or, dn_one a v ha hv, dn_one b v hb hv, dn_one c v hc hv]
  rcases h with rfl | rfl | rfl <;> simp
theorem dn_or4 {a b c e v : Nat} (ha : a < 32) (hb : b < 32) (hc : c < 32) (he : e < 32) (hv : v < 32) (h : v = a ∨ v = b ∨ v = c ∨ v = e) : bt (((((1 : Int32) <<< (nI a &&& 31)) ||| ((1 : Int32) <<< (nI b &&& 31))) ||| ((1 : Int32) <<< (nI c &&& 31))) ||| ((1 : Int32) <<< (nI e &&& 31))) v = true := by
  rw [b_or, b_or, b_or, dn_one a v ha hv, dn_one b v hb hv, dn_one c v hc hv, dn_one e v he hv]
  rcases h with rfl | rfl | rfl | rfl <;> simp
theorem dx_vars {post : Int32 → Prop} {C W F : Int32} {D K P Q R V Z : Nat → Int32} {i : Nat} (hi : i < 10) (hp : dn_pr (K i) (P i) (Q i) (R i)) (h : ∀ x, (∀ v, v < 4 → dn_us (K i) (P i) (Q i) (R i) v → bt x v = true) → post x) : wpX_variablesOf post (C, W, F, D, K, P, Q, R, V, Z) (nI i) := by
  have hc : (nI i).toNatClampNeg = i := nI_clamp (by omega)
  have hin : vp_in (nI i) 10 := vp_in_nI hi (by decide)
  refine ⟨hin, nm_r (congrArg P hc) ⟨hin, nm_r (congrArg Q hc) ⟨hin, nm_r (congrArg R hc) ⟨hin, nm_r (congrArg K hc) ?_⟩⟩⟩⟩
  generalize K i = k at hp h ⊢
  generalize P i = p at hp h ⊢
  generalize Q i = q at hp h ⊢
  generalize R i = r at hp h ⊢
  rcases dn_kinds hp with rfl | rfl | rfl | rfl | rfl | rfl | rfl | rfl | rfl
  · exact br_t (by decide) (h _ (fun v hv _ => dn_b15 v hv))
  · exact br_t (by decide) (h _ (fun v hv _ => dn_b15 v hv))
  · refine br_f (by decide) (br_f (by decide) (br_t rfl (h _ (fun v hv z => ?_))))
    rw [dn_us2] at z
    exact z
  · rw [dn_pr3] at hp
    obtain ⟨a, ha, rfl⟩ := dn_rn hp.1 (n := 3) (by decide)
    obtain ⟨b, hb, rfl⟩ := dn_rn hp.2.1 (n := 3) (by decide)
    refine br_f (by decide) (br_f (by decide) (br_f (by decide) (br_t rfl (h _ (fun v hv z => ?_)))))
    rw [dn_us3, nI_clamp (n := a) (by omega), nI_clamp (n := b) (by omega)] at z
    exact dn_or2 (by omega) (by omega) (by omega) z
  · rw [dn_pr4] at hp
    obtain ⟨a, ha, rfl⟩ := dn_rn hp.1 (n := 3) (by decide)
    obtain ⟨b, hb, rfl⟩ := dn_rn hp.2.1 (n := 3) (by decide)
    obtain ⟨c, hc, rfl⟩ := dn_rn hp.2.2 (n := 3) (by decide)
    refine br_f (by decide) (br_f (by decide) (br_f (by decide) (br_f (by decide) (br_t rfl (h _ (fun v hv z => ?_))))))
    rw [dn_us4, nI_clamp (n := a) (by omega), nI_clamp (n := b) (by omega), nI_clamp (n := c) (by omega)] at z
    exact dn_or3 (by omega) (by omega) (by omega) (by omega) z
  · rw [dn_pr5] at hp
    obtain ⟨a, ha, rfl⟩ := dn_rn hp.1 (n := 23) (by decide)
    obtain ⟨b, hb, rfl⟩ := dn_rn hp.2 (n := 23) (by decide)
    have e1 : nI a / 6 = nI (a / 6) := pk_div (d := 6) (by omega) (by decide) (by decide)
    have e2 : nI b / 6 = nI (b / 6) := pk_div (d := 6) (by omega) (by decide) (by decide)
    refine br_f (by decide) (br_f (by decide) (br_f (by decide) (br_f (by decide) (br_f (by decide) (br_t rfl ⟨by decide, by decide, h _ (fun v hv z => ?_)⟩)))))
    rw [dn_us5, nI_clamp (n := a) (by omega), nI_clamp (n := b) (by omega)] at z
    rw [e1, e2]
    exact dn_or2 (by omega) (by omega) (by omega) z
  · rw [dn_pr6] at hp
    obtain ⟨a, ha, rfl⟩ := dn_rn hp.1 (n := 3) (by decide)
    obtain ⟨b, hb, rfl⟩ := dn_rn hp.2.1 (n := 3) (by decide)
    refine br_f (by decide) (br_f (by decide) (br_f (by decide) (br_f (by decide) (br_f (by decide) (br_f (by decide) (br_t rfl (h _ (fun v hv z => ?_))))))))
    rw [dn_us6, nI_clamp (n := a) (by omega), nI_clamp (n := b) (by omega)] at z
    exact dn_or2 (by omega) (by omega) (by omega) z
  · refine br_f (by decide) (br_f (by decide) (br_f (by decide) (br_f (by decide) (br_f (by decide) (br_f (by decide) (br_f (by decide) (br_t rfl (h _ (fun v hv z => ?_)))))))))
    rw [dn_us7] at z
    exact z
  · rw [dn_pr8] at hp
    obtain ⟨a, ha, rfl⟩ := dn_rn hp.1 (n := 3) (by decide)
    obtain ⟨b, hb, rfl⟩ := dn_rn hp.2.1 (n := 3) (by decide)
    obtain ⟨c, hc, rfl⟩ := dn_rn hp.2.2 (n := 15) (by decide)
    have e1 : nI c / 4 = nI (c / 4) := pk_div (d := 4) (by omega) (by decide) (by decide)
    have e2 : nI c - nI c / 4 * 4 = nI (c % 4) := pk_rem (d := 4) (by omega) (by decide) (by decide)
    refine br_f (by decide) (br_f (by decide) (br_f (by decide) (br_f (by decide) (br_f (by decide) (br_f (by decide) (br_f (by decide) (br_f (by decide) (br_t rfl ⟨by decide, by decide, h _ (fun v hv z => ?_)⟩))))))))
    rw [dn_us8, nI_clamp (n := a) (by omega), nI_clamp (n := b) (by omega), nI_clamp (n := c) (by omega)] at z
    rw [e2, e1]
    exact dn_or4 (by omega) (by omega) (by omega) (by omega) (by omega) z
theorem dx_last11 {post : Int32 → Prop} {C W F : Int32} {D K P Q R V Z : Nat → Int32} {x : Int32} (h : ∀ m, m < 4 → (∀ w, w < 4 → bt x w = true → w ≤ m) → post (nI m)) : ∀ k v n m, v + k = 4 → k < n → m < 4 → m < v → (∀ w, w < v → bt x w = true → w ≤ m) → wX_lastVariable_11 post x C W F D K P Q R V Z n (nI m) (nI v) := by
  intro k
  induction k with
  | zero =>
    intro v n m hv hn hm hmv hw
    obtain ⟨m', rfl⟩ : ∃ m, n = m + 1 := ⟨n - 1, by omega⟩
    obtain rfl : v = 4 := by omega
    exact br_t (nI_le (a := 4) (b := 4) (by decide) (by decide)) (h m hm hw)
  | succ k ih =>
    intro v n m hv hn hm hmv hw
    obtain ⟨m', rfl⟩ : ∃ m, n = m + 1 := ⟨n - 1, by omega⟩
    refine br_f (nI_ge (b := 4) (by omega) (by decide)) ?_
    cases hb : bt x v
    · refine br_t ((dn_tst0 x v (by omega)).mpr hb) (nm_r (nI_1 v) (ih (v + 1) m' m (by omega) (by omega) hm (by omega) ?_))
      intro w h1 h2
      rcases Nat.lt_or_ge w v with z | z
      · exact hw w z h2
      · rw [show w = v by omega, hb] at h2; cases h2
    · refine br_f (fun z => by rw [dn_tst0 x v (by omega), hb] at z; cases z) (nm_r (nI_1 v) (ih (v + 1) m' v (by omega) (by omega) (by omega) (by omega) ?_))
      intro w h1 h2
      omega
theorem dx_last {post : Int32 → Prop} {C W F : Int32} {D K P Q R V Z : Nat → Int32} {i : Nat} (hi : i < 10) (hp : dn_pr (K i) (P i) (Q i) (R i)) (h : ∀ m, m < 4 → (∀ v, v < 4 → dn_us (K i) (P i) (Q i) (R i) v → v ≤ m) → post (nI m)) : wpX_lastVariable post (C, W, F, D, K, P, Q, R, V, Z) (nI i) := by
  unfold wpX_lastVariable
  exact dx_vars hi hp (fun x hx => ⟨4, dx_last11 (fun m hm hw => h m hm (fun v hv hu => hw v hv (hx v hv hu))) 3 1 4 0 (by omega) (by omega) (by omega) (by omega) (fun w hw _ => by omega)⟩)
/-! stuck -/
def dn_in (l : Int32) : Nat → Bool := fun j => !bt l j
theorem dx_stuck73 {post : Int32 → Prop} {J : Int32 → Int32 → Prop} {C W F : Int32} {D K P Q R V Z : Nat → Int32} {c a i s m : Nat} {l : Int32} (hc : c ≤ 10) (hi : i < c) (hp : dn_pr (K i) (P i) (Q i) (R i)) (hV : dn_V a V) (hm : m < 4) (hu : ∀ v, v < 4 → dn_us (K i) (P i) (Q i) (R i) v → v ≤ m) (hs : dn_sC D K P Q R c (dn_in l) a i s) (H : ∀ s', dn_sC D K P Q R c (dn_in l) a (i + 1) s' → J (nI s') (nI (i + 1))) : wX_stuckAt_73 post J l (nI s) (nI i) (nI m) C W F D K P Q R V Z := by
  have hs4 := hs.1
  unfold wX_stuckAt_73
  cases hb : bt l i
  · have hin : dn_in l i = true := by show (!bt l i) = true; rw [hb]; rfl
    refine br_t ((dn_tst0 l i (by omega)).mpr hb) (pk_le s m (fun z => ?_) (fun z => ?_) rfl rfl (by omega) (by omega))
    · exact nm_r (nI_1 i) (H s ⟨hs.1, fun e => by omega, hs.2.2⟩)
    · refine dx_holds (by omega) hp (dn_dlt a) hV (fun y => br_f (by decide) (nm_r (nI_1 i) (H s ⟨hs.1, fun e => ⟨(hs.2.1 e).1, fun j hj hjn => ?_⟩, hs.2.2⟩))) (fun y => br_t rfl (nm_r (nI_1 i) (H m ⟨by omega, fun e => by omega, fun _ => dn_noC hi hin hp hu y⟩)))
      rcases Nat.lt_or_ge j i with x | x
      · exact (hs.2.1 e).2 j x hjn
      · rw [show j = i by omega]; exact y
  · refine br_f (fun z => by rw [dn_tst0 l i (by omega), hb] at z; cases z) (nm_r (nI_1 i) (H s ⟨hs.1, fun e => ⟨(hs.2.1 e).1, fun j hj hjn => ?_⟩, hs.2.2⟩))
    rcases Nat.lt_or_ge j i with x | x
    · exact (hs.2.1 e).2 j x hjn
    · rw [show j = i by omega] at hjn
      have : (!bt l i) = true := hjn
      rw [hb] at this
      cases this
theorem dx_stuck48 {post : Int32 → Prop} {W F : Int32} {D K P Q R V Z : Nat → Int32} {c a : Nat} {l : Int32} (hc : c ≤ 10) (hp : ∀ i, i < c → dn_pr (K i) (P i) (Q i) (R i)) (hV : dn_V a V) (h : ∀ s, dn_sC D K P Q R c (dn_in l) a c s → post (nI s)) : ∀ k i n s, i + k = c → k < n → dn_sC D K P Q R c (dn_in l) a i s → wX_stuckAt_48 post l (nI c) W F D K P Q R V Z n (nI s) (nI i) := by
  intro k
  induction k with
  | zero =>
    intro i n s hi hn hs
    obtain ⟨m, rfl⟩ : ∃ m, n = m + 1 := ⟨n - 1, by omega⟩
    obtain rfl : i = c := by omega
    exact br_t (nI_le (by omega) (by omega)) (h s hs)
  | succ k ih =>
    intro i n s hi hn hs
    obtain ⟨m, rfl⟩ : ∃ m, n = m + 1 := ⟨n - 1, by omega⟩
    refine br_f (nI_ge (by omega) (by omega)) (br_c (fun z => ?_) (fun z => ?_))
    · exact dx_stuck73 (m := 3) hc (by omega) (hp i (by omega)) hV (by omega) (fun v hv _ => by omega) hs (fun s' hs' => ih (i + 1) m s' (by omega) (by omega) hs')
    · exact dx_last (by omega) (hp i (by omega)) (fun t ht hu => dx_stuck73 hc (by omega) (hp i (by omega)) hV ht hu hs (fun s' hs' => ih (i + 1) m s' (by omega) (by omega) hs'))
theorem dx_stuck4 {post : Int32 → Prop} {W F : Int32} {D K P Q R V Z : Nat → Int32} {c a : Nat} {l : Int32} (hc : c ≤ 10) (hp : ∀ i, i < c → dn_pr (K i) (P i) (Q i) (R i)) (hV : dn_V a V) (h : ∀ s, dn_sC D K P Q R c (dn_in l) a c s → post (nI s)) : ∀ v n s, v ≤ 4 → v < n → dn_sD D K P Q R c (dn_in l) a v s → wX_stuckAt_4 post l (nI c) W F D K P Q R V Z n (nI s) (nI v + (-1)) := by
  intro v
  induction v with
  | zero =>
    intro n s _ hn hs
    obtain ⟨m, rfl⟩ : ∃ m, n = m + 1 := ⟨n - 1, by omega⟩
    exact br_t (by decide) ⟨c + 1, dx_stuck48 hc hp hV h c 0 (c + 1) s (by omega) (by omega) (dn_sDC hs)⟩
  | succ v ih =>
    intro n s hv hn hs
    obtain ⟨m, rfl⟩ : ∃ m, n = m + 1 := ⟨n - 1, by omega⟩
    rw [pk_m1]
    refine br_f (nI_pos (by omega)) ⟨vp_in_nI (by omega) (by decide), vp_in_nI (by omega) (by decide), ?_⟩
    rw [nI_clamp (by omega), hV v (by omega)]
    have hdv := dn_dlt a v
    cases hb : bt (D v) (dn_d a v)
    · refine br_t ((dn_tst0 (D v) (dn_d a v) (by omega)).mpr hb) (br_c (fun z => ?_) (fun z => ?_))
      · exact nm_e (ih m 3 (by omega) (by omega) ⟨by omega, fun e => by omega, fun _ => dn_noD (by omega) (by omega) hb⟩)
      · exact nm_e (ih m v (by omega) (by omega) ⟨by omega, fun e => by omega, fun _ => dn_noD (by omega) (by omega) hb⟩)
    · refine br_f (fun z => by rw [dn_tst0 (D v) (dn_d a v) (by omega), hb] at z; cases z) (nm_e (ih m s (by omega) (by omega) ⟨hs.1, fun e w h1 h2 => ?_, hs.2.2⟩))
      by_cases hw : w = v
      · rw [hw]; exact hb
      · exact hs.2.1 e w (by omega) h2
theorem dx_stuck {post : Int32 → Prop} {W F : Int32} {D K P Q R V Z : Nat → Int32} {c a : Nat} {l : Int32} (hc : c ≤ 10) (hp : ∀ i, i < c → dn_pr (K i) (P i) (Q i) (R i)) (hV : dn_V a V) (h : ∀ s, dn_sC D K P Q R c (dn_in l) a c s → post (nI s)) : wpX_stuckAt post (nI c, W, F, D, K, P, Q, R, V, Z) l :=
  ⟨5, dx_stuck4 hc hp hV h 4 5 4 (by omega) (by omega) (dn_sD4 D K P Q R c (dn_in l) a)⟩
/-! the next code to look at -/
theorem dx_next6 {post : Int32 → Prop} {a s : Nat} (ha : a < 1296) (hs : s < 4) (h : post (nI (a - a % 6 ^ (3 - s) + 6 ^ (3 - s)))) : ∀ k v n, v + k = 4 → k < n → s + 1 ≤ v → wX_nextWithOtherValue_6 post (nI a) n (nI (6 ^ (v - (s + 1)))) (nI v) := by
  intro k
  induction k with
  | zero =>
    intro v n hv hn hsv
    obtain ⟨m, rfl⟩ : ∃ m, n = m + 1 := ⟨n - 1, by omega⟩
    obtain rfl : v = 4 := by omega
    have hB : 6 ^ (3 - s) ≤ 6 ^ 3 := Nat.pow_le_pow_right (by decide) (by omega)
    have hB0 : 0 < 6 ^ (3 - s) := Nat.pow_pos (by decide)
    rw [show 4 - (s + 1) = 3 - s by omega]
    have e : (nI a - (nI a - nI a / nI (6 ^ (3 - s)) * nI (6 ^ (3 - s)))) + nI (6 ^ (3 - s)) = nI (a - a % 6 ^ (3 - s) + 6 ^ (3 - s)) := by
      rw [pk_rem (by omega) hB0 (by omega), pk_sub (Nat.mod_le _ _), nI_add]
    refine br_t (nI_le (a := 4) (b := 4) (by decide) (by decide)) ⟨nI_ne0 hB0 (by omega), ?_⟩
    rw [e]
    exact h
  | succ k ih =>
    intro v n hv hn hsv
    obtain ⟨m, rfl⟩ : ∃ m, n = m + 1 := ⟨n - 1, by omega⟩
    refine br_f (nI_ge (b := 4) (by omega) (by decide)) (nm_r (e' := nI (6 ^ (v + 1 - (s + 1)))) ?_ (nm_r (nI_1 v) (ih (v + 1) m (by omega) (by omega) (by omega))))
    refine (pk_mul _ 6).trans (congrArg nI ?_)
    rw [show v + 1 - (s + 1) = (v - (s + 1)) + 1 by omega, Nat.pow_succ]
theorem dx_next {post : Int32 → Prop} {a s : Nat} (ha : a < 1296) (hs : s < 4) (h : post (nI (a - a % 6 ^ (3 - s) + 6 ^ (3 - s)))) : wpX_nextWithOtherValue post (nI a) (nI s) := by
  have t := dx_next6 ha hs h (3 - s) (s + 1) 5 (by omega) (by omega) (by omega)
  rw [show s + 1 - (s + 1) = 0 by omega, Nat.pow_zero] at t
  exact nm_r (nI_1 s) ⟨5, t⟩
/-! the search -/
theorem dx_find9 {post : SX → Prop} {W : Int32} {D K P Q R : Nat → Int32} {c : Nat} {l : Int32} (hc : c ≤ 10) (hp : ∀ i, i < c → dn_pr (K i) (P i) (Q i) (R i)) (h : ∀ V Z, dn_Li (dn_sb D K P Q R c (dn_in l)) 1296 Z → post (nI c, W, nI (dn_cn (dn_sb D K P Q R c (dn_in l)) 1296), D, K, P, Q, R, V, Z)) : ∀ k a n t V Z, a + k = 1296 → k < n → t < 2 ^ 31 → dn_Li (dn_sb D K P Q R c (dn_in l)) a Z → (∀ b, a ≤ b → b < t → dn_sb D K P Q R c (dn_in l) b = false) → wX_findSolutions_9 post l n (nI t) (nI a) (nI c) W (nI (dn_cn (dn_sb D K P Q R c (dn_in l)) a)) D K P Q R V Z := by
  intro k
  induction k with
  | zero =>
    intro a n t V Z ha hn ht hZ hb
    obtain ⟨m, rfl⟩ : ∃ m, n = m + 1 := ⟨n - 1, by omega⟩
    obtain rfl : a = 1296 := by omega
    exact br_t (nI_le (a := 1296) (b := 1296) (by decide) (by decide)) (h V Z hZ)
  | succ k ih =>
    intro a n t V Z ha hn ht hZ hb
    obtain ⟨m, rfl⟩ : ∃ m, n = m + 1 := ⟨n - 1, by omega⟩
    have hca := dn_cnb (dn_sb D K P Q R c (dn_in l)) a
    refine br_f (nI_ge (b := 1296) (by omega) (by decide)) (pk_le t a (fun hle => ?_) (fun hlt => ?_) rfl rfl ht (by omega))
    · refine dx_look (by omega) (fun V' hV' => ?_)
      refine dx_stuck hc hp hV' (fun s hs => ?_)
      have hs := dn_sCe hs
      have hs4 := hs.1
      refine pk_eq s 4 (fun e => ?_) (fun e => ?_) rfl rfl (by omega) (by omega)
      · have hS := hs.2.1 e
        have t' := ih (a + 1) m t V' _ (by omega) (by omega) ht (dn_Lit hZ) (fun b h1 h2 => by omega)
        rw [dn_cnt hS] at t'
        exact ⟨vp_in_nI (by omega) (by decide), nm_r (by rw [nI_clamp (by omega)]) (nm_r (nI_1 _) (nm_r (nI_1 a) t'))⟩
      · have hno := dn_skip (by omega) (hs.2.2 (by omega))
        have hB0 : 0 < 6 ^ (3 - s) := Nat.pow_pos (by decide)
        have hB : 6 ^ (3 - s) ≤ 6 ^ 3 := Nat.pow_le_pow_right (by decide) (by omega)
        have hm := Nat.mod_lt a hB0
        have hS := hno a (Nat.le_refl a) (by have := Nat.mod_le a (6 ^ (3 - s)); omega)
        have t' := ih (a + 1) m (a - a % 6 ^ (3 - s) + 6 ^ (3 - s)) V' Z (by omega) (by omega) (by omega) (dn_Lif hZ hS) (fun b h1 h2 => hno b (by omega) h2)
        rw [dn_cnf hS] at t'
        exact dx_next (by omega) (by omega) (nm_r (nI_1 a) t')
    · have hS := hb a (Nat.le_refl a) hlt
      have t' := ih (a + 1) m t V Z (by omega) (by omega) ht (dn_Lif hZ hS) (fun b h1 h2 => hb b (by omega) h2)
      rw [dn_cnf hS] at t'
      exact nm_r (nI_1 a) t'
theorem dx_find {post : SX → Prop} {W F : Int32} {D K P Q R V Z : Nat → Int32} {c : Nat} {l : Int32} (hc : c ≤ 10) (hp : ∀ i, i < c → dn_pr (K i) (P i) (Q i) (R i)) (h : ∀ V Z, dn_Li (dn_sb D K P Q R c (dn_in l)) 1296 Z → post (nI c, W, nI (dn_cn (dn_sb D K P Q R c (dn_in l)) 1296), D, K, P, Q, R, V, Z)) : wpX_findSolutions post (nI c, W, F, D, K, P, Q, R, V, Z) l :=
  ⟨1297, dx_find9 hc hp h 1296 0 1297 0 V Z (by omega) (by omega) (by omega) (fun a ha => absurd ha (by omega)) (fun b _ hb => absurd hb (by omega))⟩
