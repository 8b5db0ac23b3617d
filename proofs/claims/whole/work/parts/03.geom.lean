theorem tp_pt_0 {g : Nat → Bool} (H : tp_Ok 0 g) (i j : Nat) : tp_pt 0 g i j = 2 := by
  have z : ∀ a b : Int, tp_hs g a b = false := fun a b => tp_ok_hf H (by omega)
  unfold tp_pt tp_bs tp_cr
  simp only [z]
  simp
theorem tp_pt_m {k : Nat} {g : Nat → Bool} {i j : Nat} (hi : i ≤ 16) (hj : j ≤ 16) (h : g (17 * i + j) = true) : tp_pt k g i j = 0 := by
  unfold tp_pt
  rw [tp_hs_in g hi hj, if_pos h]
theorem tp_pt_v2 {g : Nat → Bool} (H : tp_Ok 2 g) {i j : Nat} (hi : i % 2 = 0) (hj : j % 2 = 0) (h : tp_bs g i j ≠ 0) : tp_pt 2 g i j ≠ 2 := by
  unfold tp_pt
  rw [tp_ok_hf H (i := i) (j := j) (by omega)]
  rw [if_neg (by decide), if_pos rfl, if_neg (by omega)]
  omega
theorem tp_pt_v3n {g : Nat → Bool} (H : tp_Ok 3 g) {i j : Nat} (hi : i % 2 = 0) (hj : j % 2 = 0) (h : tp_cr g i j ≠ 0) : tp_pt 3 g i j ≠ 2 := by
  rw [tp_pt_v3 H hi hj, if_neg h]
  split <;> decide
theorem tp_vtx_2 {g : Nat → Bool} (H : tp_Ok 2 g) {i j : Nat} (hn : ¬ (i % 2 = 0 ∧ j % 2 = 0)) (h : tp_pt 2 g i j ≠ 2) : tp_pt 2 g (i - i % 2) (j - j % 2) ≠ 2 := by
  have ht : tp_hs g i j = true := by
    cases e : tp_hs g i j with
    | true => rfl
    | false =>
      refine absurd ?_ h
      unfold tp_pt
      rw [e, if_neg (by decide), if_pos rfl, if_pos (Or.inl hn)]
  have hd := (tp_ok_hs H ht).2.2.2.2
  refine tp_pt_v2 H (by omega) (by omega) ?_
  unfold tp_bs
  rcases Nat.mod_two_eq_zero_or_one i with hi | hi
  · have e1 : ((j - j % 2 : Nat) : Int) + 1 = j := by omega
    have e2 : ((i - i % 2 : Nat) : Int) = i := by omega
    rw [e1, e2, ht, Bool.toNat_true]
    omega
  · have e1 : ((i - i % 2 : Nat) : Int) + 1 = i := by omega
    have e2 : ((j - j % 2 : Nat) : Int) = j := by omega
    rw [e1, e2, ht, Bool.toNat_true]
    omega
theorem tp_vtx_3 {g : Nat → Bool} (H : tp_Ok 3 g) {i j : Nat} (hn : ¬ (i % 2 = 0 ∧ j % 2 = 0)) (h : tp_pt 3 g i j ≠ 2) : tp_pt 3 g (i - i % 2) (j - j % 2) ≠ 2 := by
  refine tp_pt_v3n H (by omega) (by omega) ?_
  rcases Nat.mod_two_eq_zero_or_one i with hi | hi <;> rcases Nat.mod_two_eq_zero_or_one j with hj | hj
  · exact absurd ⟨hi, hj⟩ hn
  · have hb : tp_bs g i j ≠ 0 := by
      intro z
      refine h ?_
      rw [tp_pt_e3 H (by omega), z]
      rfl
    unfold tp_bs at hb
    rw [tp_ok_hf H (i := i) (j := j - 1) (by omega), tp_ok_hf H (i := i) (j := j + 1) (by omega), Bool.toNat_false] at hb
    unfold tp_cr
    have e1 : ((j - j % 2 : Nat) : Int) + 1 = j := by omega
    have e2 : ((i - i % 2 : Nat) : Int) = i := by omega
    rw [e1, e2]
    omega
  · have hb : tp_bs g i j ≠ 0 := by
      intro z
      refine h ?_
      rw [tp_pt_e3 H (by omega), z]
      rfl
    unfold tp_bs at hb
    rw [tp_ok_hf H (i := i - 1) (j := j) (by omega), tp_ok_hf H (i := i + 1) (j := j) (by omega), Bool.toNat_false] at hb
    unfold tp_cr
    have e1 : ((i - i % 2 : Nat) : Int) + 1 = i := by omega
    have e2 : ((j - j % 2 : Nat) : Int) = j := by omega
    rw [e1, e2]
    omega
  · have ht : tp_hs g i j = true := by
      cases e : tp_hs g i j with
      | true => rfl
      | false =>
        refine absurd ?_ h
        unfold tp_pt
        rw [e, if_neg (by decide), if_neg (by decide), if_pos (Or.inr ⟨hi, hj⟩)]
    unfold tp_cr
    have e1 : ((i - i % 2 : Nat) : Int) + 1 = i := by omega
    have e2 : ((j - j % 2 : Nat) : Int) + 1 = j := by omega
    rw [e1, e2, ht, Bool.toNat_true]
    omega
/-- an element of the body has a vertex of the body beside it -/
theorem tp_vtx {k : Nat} {g : Nat → Bool} (H : tp_Ok k g) {i j : Nat} (h : tp_pt k g i j ≠ 2) : tp_pt k g (i - i % 2) (j - j % 2) ≠ 2 := by
  by_cases hn : i % 2 = 0 ∧ j % 2 = 0
  · rw [hn.1, hn.2]
    exact h
  have hk := H.1
  have : k = 0 ∨ k = 1 ∨ k = 2 ∨ k = 3 := by omega
  rcases this with rfl | rfl | rfl | rfl
  · exact absurd (tp_pt_0 H i j) h
  · refine absurd ?_ h
    unfold tp_pt
    rw [tp_ok_hf H (i := i) (j := j) (by omega), if_neg (by decide), if_neg (by decide), if_pos (Or.inl rfl)]
  · exact tp_vtx_2 H hn h
  · exact tp_vtx_3 H hn h
theorem tp_vtx_e {k : Nat} {g : Nat → Bool} (H : tp_Ok k g) (hk : k ≠ 0) : ∃ v, v < 81 ∧ tp_pt k g (2 * (v / 9)) (2 * (v % 9)) ≠ 2 := by
  obtain ⟨c, hc, e⟩ := H.2.2 hk
  have e1 : 17 * (c / 17) + c % 17 = c := by omega
  have h0 : tp_pt k g (c / 17) (c % 17) = 0 := tp_pt_m (by omega) (by omega) (by rw [e1]; exact e)
  have h1 := tp_vtx H (i := c / 17) (j := c % 17) (by rw [h0]; decide)
  refine ⟨9 * (c / 17 / 2) + c % 17 / 2, by omega, ?_⟩
  have a1 : 2 * ((9 * (c / 17 / 2) + c % 17 / 2) / 9) = c / 17 - c / 17 % 2 := by omega
  have a2 : 2 * ((9 * (c / 17 / 2) + c % 17 / 2) % 9) = c % 17 - c % 17 % 2 := by omega
  rw [a1, a2]
  exact h1
theorem tp_in_dm {k : Nat} {g : Nat → Bool} (H : tp_Ok k g) {c : Nat} (h : tp_pt k g (c / 17) (c % 17) = 0) : tp_dm c + 1 ≤ k := by
  have hk := H.1
  unfold tp_dm
  cases e : tp_hs g (c / 17 : Nat) (c % 17 : Nat) with
  | true =>
    have := (tp_ok_hs H e).2.2.2.2
    omega
  | false =>
    have : k = 0 ∨ k = 1 ∨ k = 2 ∨ k = 3 := by omega
    rcases this with rfl | rfl | rfl | rfl
    · rw [tp_pt_0 H] at h
      exact absurd h (by decide)
    · unfold tp_pt at h
      rw [e, if_neg (by decide), if_neg (by decide), if_pos (Or.inl rfl)] at h
      exact absurd h (by decide)
    · by_cases hv : c / 17 % 2 = 0 ∧ c % 17 % 2 = 0
      · omega
      · unfold tp_pt at h
        rw [e, if_neg (by decide), if_pos rfl, if_pos (Or.inl hv)] at h
        exact absurd h (by decide)
    · omega
/-- an area has a rim edge -/
theorem tp_rim_e {g : Nat → Bool} (H : tp_Ok 3 g) : ∃ c, c < 289 ∧ tp_dm c = 1 ∧ tp_pt 3 g (c / 17) (c % 17) = 1 := by
  obtain ⟨c, ⟨hc, e⟩, hl⟩ := pk_least (fun c => c < 289 ∧ g c = true) (H.2.2 (by decide))
  have hd := H.2.1 c hc e
  unfold tp_dm at hd
  have h17 : 17 ≤ c := by omega
  refine ⟨c - 17, by omega, by unfold tp_dm; omega, ?_⟩
  rw [tp_pt_e3 H (by omega)]
  have a1 : ((((c - 17) / 17 : Nat) : Int) + 1) = ((c / 17 : Nat) : Int) := by omega
  have a2 : (c - 17) % 17 = c % 17 := by omega
  have hb : tp_bs g (((c - 17) / 17 : Nat) : Int) (((c - 17) % 17 : Nat) : Int) = 1 := by
    unfold tp_bs
    rw [a1, a2, tp_hs_in g (i := c / 17) (j := c % 17) (by omega) (by omega)]
    rw [tp_ok_hf H (i := ((c - 17) / 17 : Nat)) (j := ((c % 17 : Nat) : Int) - 1) (by omega)]
    rw [tp_ok_hf H (i := ((c - 17) / 17 : Nat)) (j := ((c % 17 : Nat) : Int) + 1) (by omega)]
    have e1 : 17 * (c / 17) + c % 17 = c := by omega
    rw [e1, e]
    have z : tp_hs g (((c - 17) / 17 : Nat) - 1) ((c % 17 : Nat) : Int) = false := by
      cases t : tp_hs g (((c - 17) / 17 : Nat) - 1) ((c % 17 : Nat) : Int) with
      | false => rfl
      | true =>
        obtain ⟨a, b, ea, eb, ha, hb, eg⟩ := tp_hs_t t
        exact absurd ⟨by omega, eg⟩ (hl (17 * a + b) (by omega))
    rw [z]
    rfl
  rw [hb]
  rfl
/-- beside it (the reference's growth) -/
def tp_nf (g : Nat → Bool) (i j : Nat) : Nat → Bool
  | 0 => false
  | d + 1 => tp_nf g i j d || tp_hs g (((i + 2 * (d / 3) : Nat) : Int) - 2) (((j + 2 * (d % 3) : Nat) : Int) - 2)
def tp_cb (g : Nat → Bool) (i j : Nat) : Bool := decide (tp_pt 3 g i j ≠ 2)
theorem tp_cb_v {g : Nat → Bool} (H : tp_Ok 3 g) {i j : Nat} (hi : i % 2 = 0) (hj : j % 2 = 0) : tp_cb g i j = (tp_hs g (i - 1) (j - 1) || tp_hs g (i + 1) (j - 1) || tp_hs g (i - 1) (j + 1) || tp_hs g (i + 1) (j + 1)) := by
  unfold tp_cb
  rw [tp_pt_v3 H hi hj]
  unfold tp_cr
  generalize tp_hs g (↑i - 1) (↑j - 1) = a
  generalize tp_hs g (↑i + 1) (↑j - 1) = b
  generalize tp_hs g (↑i - 1) (↑j + 1) = c
  generalize tp_hs g (↑i + 1) (↑j + 1) = d
  revert a b c d
  decide
theorem tp_grow9 : ∀ a b c d e f g h i : Bool, ((((((((((false || a) || b) || c) || d) || e) || f) || g) || h) || i) = (((((a || d) || b) || e) || (((b || e) || c) || f)) || (((d || g) || e) || h) || (((e || h) || f) || i))) := by
  decide +kernel
theorem tp_grow {g : Nat → Bool} (H : tp_Ok 3 g) {a b : Nat} (ha : a % 2 = 0) (hb : b % 2 = 0) : tp_nf g (a + 1) (b + 1) 9 = (tp_cb g a b || tp_cb g a (b + 2) || tp_cb g (a + 2) b || tp_cb g (a + 2) (b + 2)) := by
  rw [tp_cb_v H ha hb, tp_cb_v H ha (by omega), tp_cb_v H (by omega) hb, tp_cb_v H (i := a + 2) (j := b + 2) (by omega) (by omega)]
  have p1 : (((a + 2 : Nat) : Int) - 1) = a + 1 := by omega
  have p2 : (((a + 2 : Nat) : Int) + 1) = a + 3 := by omega
  have p3 : (((b + 2 : Nat) : Int) - 1) = b + 1 := by omega
  have p4 : (((b + 2 : Nat) : Int) + 1) = b + 3 := by omega
  have x0 : ((a + 1 + 0 : Nat) : Int) - 2 = a - 1 := by omega
  have x1 : ((a + 1 + 2 : Nat) : Int) - 2 = a + 1 := by omega
  have x2 : ((a + 1 + 4 : Nat) : Int) - 2 = a + 3 := by omega
  have y0 : ((b + 1 + 0 : Nat) : Int) - 2 = b - 1 := by omega
  have y1 : ((b + 1 + 2 : Nat) : Int) - 2 = b + 1 := by omega
  have y2 : ((b + 1 + 4 : Nat) : Int) - 2 = b + 3 := by omega
  rw [p1, p2, p3, p4]
  simp only [tp_nf, Nat.reduceDiv, Nat.reduceMod, Nat.reduceMul, x0, x1, x2, y0, y1, y2]
  exact tp_grow9 _ _ _ _ _ _ _ _ _
/-- the greatest digit where two parts meet -/
def tp_mt (p q : Nat → Nat) (x y a : Nat) : Nat → Nat
  | 0 => a
  | e + 1 => if p e = x ∧ q e = y ∧ tp_mt p q x y a e < tp_dm e + 1 then tp_dm e + 1 else tp_mt p q x y a e
theorem tp_mt_b {p q : Nat → Nat} {x y a B : Nat} (ha : a ≤ B) : ∀ e, (∀ c, c < e → p c = x → q c = y → tp_dm c + 1 ≤ B) → tp_mt p q x y a e ≤ B
  | 0, _ => ha
  | e + 1, h => by
    unfold tp_mt
    split
    · rename_i hc
      exact h e (by omega) hc.1 hc.2.1
    · exact tp_mt_b ha e (fun c hc => h c (by omega))
theorem tp_mt_g {p q : Nat → Nat} {x y a : Nat} : ∀ e, a ≤ tp_mt p q x y a e
  | 0 => Nat.le_refl _
  | e + 1 => by
    have := @tp_mt_g p q x y a e
    unfold tp_mt
    split <;> omega
theorem tp_mt_3 {p q : Nat → Nat} {x y : Nat} (e : Nat) : tp_mt p q x y 3 e = 3 := by
  have h1 := @tp_mt_g p q x y 3 e
  have h2 := @tp_mt_b p q x y 3 3 (Nat.le_refl 3) e (fun c _ _ _ => by unfold tp_dm; omega)
  omega
theorem tp_mt_p {p q : Nat → Nat} {x y a c : Nat} (h1 : p c = x) (h2 : q c = y) : ∀ e, c < e → 0 < tp_mt p q x y a e
  | 0, h => absurd h (by omega)
  | e + 1, h => by
    unfold tp_mt
    by_cases hc : c = e
    · subst hc
      split
      · omega
      · rename_i hn
        have : ¬ tp_mt p q x y a c < tp_dm c + 1 := fun z => hn ⟨h1, h2, z⟩
        omega
    · have := tp_mt_p (a := a) h1 h2 e (by omega)
      split <;> omega
theorem tp_mt_n {p q : Nat → Nat} {x y : Nat} {e : Nat} (h : ¬ tp_mt p q x y 0 e = 0) : ∃ c, c < e ∧ p c = x ∧ q c = y := by
  by_cases hx : ∃ c, c < e ∧ p c = x ∧ q c = y
  · exact hx
  · refine absurd ?_ h
    have := @tp_mt_b p q x y 0 0 (Nat.le_refl 0) e (fun c hc h1 h2 => absurd ⟨c, hc, h1, h2⟩ hx)
    omega
theorem tp_mt_z {p q : Nat → Nat} {x y : Nat} {e : Nat} : ¬ tp_mt p q x y 0 e = 0 ↔ ∃ c, c < e ∧ p c = x ∧ q c = y := by
  refine ⟨tp_mt_n, ?_⟩
  rintro ⟨c, hc, h1, h2⟩ z
  have := tp_mt_p (a := 0) h1 h2 e hc
  omega
theorem tp_mt_c {p q p' q' : Nat → Nat} {x y a : Nat} : ∀ e, (∀ c, c < e → p c = p' c ∧ q c = q' c) → tp_mt p q x y a e = tp_mt p' q' x y a e
  | 0, _ => rfl
  | e + 1, h => by
    have h1 := tp_mt_c (x := x) (y := y) (a := a) e (fun c hc => h c (by omega))
    have h2 := h e (by omega)
    unfold tp_mt
    rw [h1, h2.1, h2.2]
/-- squares of distances -/
def tp_d (a b : Nat) : Nat := (a - b) * (a - b) + (b - a) * (b - a)
def tp_sq (v w : Nat) : Nat := tp_d (v / 9) (w / 9) + tp_d (v % 9) (w % 9)
theorem tp_d_le : ∀ a, a < 9 → ∀ b, b < 9 → tp_d a b ≤ 64 := by decide
theorem tp_d_i : ∀ a, a < 9 → ∀ b, b < 9 → (nI a - nI b) * (nI a - nI b) = nI (tp_d a b) := by decide +kernel
theorem tp_sq_le {v w : Nat} (hv : v < 81) (hw : w < 81) : tp_sq v w ≤ 128 := by
  have h1 := tp_d_le (v / 9) (by omega) (w / 9) (by omega)
  have h2 := tp_d_le (v % 9) (by omega) (w % 9) (by omega)
  unfold tp_sq
  omega
/-- r is the least of a and the squares over V, W below the bounds -/
def tp_Mn (P : Nat → Nat → Prop) (a r : Nat) : Prop := r ≤ a ∧ (∀ v w, P v w → r ≤ tp_sq v w) ∧ (r = a ∨ ∃ v w, P v w ∧ r = tp_sq v w)
theorem tp_Mn_u {P : Nat → Nat → Prop} {a b r r' : Nat} (ha : 1000 ≤ a) (hb : 1000 ≤ b) (hP : ∃ v w, P v w) (h81 : ∀ v w, P v w → v < 81 ∧ w < 81) (h : tp_Mn P a r) (h' : tp_Mn P b r') : r = r' ∧ r ≤ 128 := by
  obtain ⟨v, w, p⟩ := hP
  have h1 := h.2.1 v w p
  have h2 := h'.2.1 v w p
  have h3 := tp_sq_le (h81 v w p).1 (h81 v w p).2
  rcases h.2.2 with e | ⟨v1, w1, p1, e1⟩
  · omega
  rcases h'.2.2 with e | ⟨v2, w2, p2, e2⟩
  · omega
  have h4 := h.2.1 v2 w2 p2
  have h5 := h'.2.1 v1 w1 p1
  omega
theorem tp_Mn_c {P Q : Nat → Nat → Prop} {a r : Nat} (h : tp_Mn P a r) (e : ∀ v w, P v w ↔ Q v w) : tp_Mn Q a r := by
  refine ⟨h.1, fun v w q => h.2.1 v w ((e v w).mpr q), ?_⟩
  rcases h.2.2 with z | ⟨v, w, p, z⟩
  · exact Or.inl z
  · exact Or.inr ⟨v, w, (e v w).mp p, z⟩
theorem tp_Mn_0 {P : Nat → Nat → Prop} {a : Nat} (e : ∀ v w, ¬ P v w) : tp_Mn P a a := ⟨Nat.le_refl a, fun v w p => absurd p (e v w), Or.inl rfl⟩
theorem tp_Mn_s {P Q : Nat → Nat → Prop} {a r v w : Nat} (h : tp_Mn P a r) (e : ∀ x y, Q x y ↔ P x y ∨ (x = v ∧ y = w)) : tp_Mn Q a (if tp_sq v w < r then tp_sq v w else r) := by
  have hq : Q v w := (e v w).mpr (Or.inr ⟨rfl, rfl⟩)
  refine ⟨?_, ?_, ?_⟩
  · have := h.1
    split <;> omega
  · intro x y q
    rcases (e x y).mp q with p | ⟨rfl, rfl⟩
    · have := h.2.1 x y p
      split <;> omega
    · split <;> omega
  · split
    · exact Or.inr ⟨v, w, hq, rfl⟩
    · rcases h.2.2 with z | ⟨x, y, p, z⟩
      · exact Or.inl z
      · exact Or.inr ⟨x, y, (e x y).mpr (Or.inl p), z⟩
theorem tp_Mn_m {P Q R : Nat → Nat → Prop} {a b r r' : Nat} (hab : a ≤ b) (h : tp_Mn P a r) (h' : tp_Mn Q b r') (e : ∀ x y, R x y ↔ P x y ∨ Q x y) : tp_Mn R a (if r < r' then r else r') := by
  refine ⟨?_, ?_, ?_⟩
  · have := h.1
    split <;> omega
  · intro x y q
    rcases (e x y).mp q with p | p
    · have := h.2.1 x y p
      split <;> omega
    · have := h'.2.1 x y p
      split <;> omega
  · split
    · rcases h.2.2 with z | ⟨x, y, p, z⟩
      · exact Or.inl z
      · exact Or.inr ⟨x, y, (e x y).mpr (Or.inl p), z⟩
    · rcases h'.2.2 with z | ⟨x, y, p, z⟩
      · have := h.1
        exact Or.inl (by omega)
      · exact Or.inr ⟨x, y, (e x y).mpr (Or.inr p), z⟩
