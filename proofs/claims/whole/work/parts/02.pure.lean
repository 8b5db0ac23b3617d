def tp_b (b : Bool) : Int32 := if b then 1 else 0
def tp_u (f : Nat → Bool) (k : Nat) (b : Bool) : Nat → Bool := fun j => if j = k then b else f j
def tp_v (f : Nat → Nat) (k : Nat) (b : Nat) : Nat → Nat := fun j => if j = k then b else f j
theorem tp_u_s (f : Nat → Bool) (k : Nat) (b : Bool) : tp_u f k b k = b := if_pos rfl
theorem tp_u_n {f : Nat → Bool} {k j : Nat} {b : Bool} (h : j ≠ k) : tp_u f k b j = f j := if_neg h
theorem tp_v_s (f : Nat → Nat) (k : Nat) (b : Nat) : tp_v f k b k = b := if_pos rfl
theorem tp_v_n {f : Nat → Nat} {k j : Nat} {b : Nat} (h : j ≠ k) : tp_v f k b j = f j := if_neg h
theorem tp_ub (f : Nat → Bool) (k : Nat) (b : Bool) : upd (fun x => tp_b (f x)) k (tp_b b) = fun x => tp_b (tp_u f k b x) := by
  funext j
  unfold upd tp_u
  split <;> rfl
theorem tp_uk (f : Nat → Nat) (k b : Nat) : upd (fun x => nI (f x)) k (nI b) = fun x => nI (tp_v f k b x) := by
  funext j
  unfold upd tp_v
  split <;> rfl
theorem tp_b_t : tp_b true = 1 := rfl
theorem tp_b_f : tp_b false = 0 := rfl
theorem tp_b_0 (b : Bool) : tp_b b = 0 ↔ b = false := by
  cases b
  · exact ⟨fun _ => rfl, fun _ => rfl⟩
  · exact ⟨fun h => absurd h (by decide), fun h => nomatch h⟩
theorem tp_b_1 (b : Bool) : ¬ tp_b b = 0 ↔ b = true := by
  cases b
  · exact ⟨fun h => absurd rfl h, fun h => nomatch h⟩
  · exact ⟨fun _ => rfl, fun _ => by decide⟩
def tp_cnt (f : Nat → Bool) : Nat → Nat
  | 0 => 0
  | n + 1 => if f n then tp_cnt f n + 1 else tp_cnt f n
theorem tp_cnt_le (f : Nat → Bool) : ∀ n, tp_cnt f n ≤ n
  | 0 => Nat.le_refl 0
  | n + 1 => by
    have := tp_cnt_le f n
    unfold tp_cnt
    split <;> omega
theorem tp_cnt_congr {f g : Nat → Bool} : ∀ n, (∀ c, c < n → f c = g c) → tp_cnt f n = tp_cnt g n
  | 0, _ => rfl
  | n + 1, h => by
    have e := tp_cnt_congr n (fun c hc => h c (by omega))
    have e2 := h n (by omega)
    simp only [tp_cnt, e, e2]
theorem tp_cnt_pos {f : Nat → Bool} {k : Nat} (hf : f k = true) : ∀ n, k < n → 0 < tp_cnt f n
  | 0, h => absurd h (by omega)
  | n + 1, h => by
    by_cases e : k = n
    · subst e
      unfold tp_cnt
      rw [if_pos hf]
      omega
    · have := tp_cnt_pos hf n (by omega)
      unfold tp_cnt
      split <;> omega
theorem tp_cnt_z {f : Nat → Bool} {n : Nat} (h : tp_cnt f n = 0) : ∀ c, c < n → f c = false := by
  intro c hc
  cases e : f c with
  | false => rfl
  | true =>
    have := tp_cnt_pos e n hc
    omega
theorem tp_cnt_y {f : Nat → Bool} : ∀ n, (∀ c, c < n → f c = false) → tp_cnt f n = 0
  | 0, _ => rfl
  | n + 1, h => by
    unfold tp_cnt
    rw [h n (by omega)]
    exact tp_cnt_y n (fun c hc => h c (by omega))
theorem tp_cnt_u {f : Nat → Bool} {k : Nat} (hf : f k = true) : ∀ n, k < n → tp_cnt (tp_u f k false) n + 1 = tp_cnt f n
  | 0, h => absurd h (by omega)
  | n + 1, h => by
    by_cases e : k = n
    · subst e
      have e2 : tp_cnt (tp_u f k false) k = tp_cnt f k := tp_cnt_congr k (fun c hc => tp_u_n (by omega))
      unfold tp_cnt
      rw [e2, tp_u_s, if_pos hf]
      rfl
    · have h1 := tp_cnt_u hf n (by omega)
      have e3 : tp_u f k false n = f n := tp_u_n (by omega)
      unfold tp_cnt
      rw [e3]
      split <;> omega
def tp_sl (m : Nat → Bool) (s : Nat) : Nat → Bool := fun c => m (289 * s + c)
def tp_w (m : Nat → Bool) (s : Nat) (g : Nat → Bool) (i : Nat) : Nat → Bool := fun x => if 289 * s ≤ x ∧ x < 289 * s + i then g (x - 289 * s) else m x
theorem tp_w_0 (m : Nat → Bool) (s : Nat) (g : Nat → Bool) : tp_w m s g 0 = m := by
  funext x
  unfold tp_w
  rw [if_neg (by omega)]
theorem tp_w_s (m : Nat → Bool) (s : Nat) (g : Nat → Bool) (i : Nat) : tp_u (tp_w m s g i) (289 * s + i) (g i) = tp_w m s g (i + 1) := by
  funext x
  unfold tp_u tp_w
  by_cases h : x = 289 * s + i
  · subst h
    rw [if_pos rfl, if_pos (by omega), Nat.add_sub_cancel_left]
  · rw [if_neg h]
    by_cases h2 : 289 * s ≤ x ∧ x < 289 * s + i
    · rw [if_pos h2, if_pos (by omega)]
    · rw [if_neg h2, if_neg (by omega)]
theorem tp_w_j (m : Nat → Bool) (s : Nat) (g : Nat → Bool) {i i' : Nat} (h : i ≤ i') (hg : ∀ c, i ≤ c → c < i' → g c = m (289 * s + c)) : tp_w m s g i' = tp_w m s g i := by
  funext x
  unfold tp_w
  by_cases h1 : 289 * s ≤ x ∧ x < 289 * s + i
  · rw [if_pos h1, if_pos (by omega)]
  · rw [if_neg h1]
    by_cases h2 : 289 * s ≤ x ∧ x < 289 * s + i'
    · rw [if_pos h2, hg (x - 289 * s) (by omega) (by omega)]
      exact congrArg m (by omega)
    · rw [if_neg h2]
theorem tp_w_at (m : Nat → Bool) (s : Nat) (g : Nat → Bool) {i c : Nat} (hc : c < i) : tp_w m s g i (289 * s + c) = g c := by
  unfold tp_w
  rw [if_pos (by omega), Nat.add_sub_cancel_left]
theorem tp_w_ge (m : Nat → Bool) (s : Nat) (g : Nat → Bool) {i c : Nat} (hc : i ≤ c) : tp_w m s g i (289 * s + c) = m (289 * s + c) := by
  unfold tp_w
  rw [if_neg (by omega)]
theorem tp_w_ne (m : Nat → Bool) (s : Nat) (g : Nat → Bool) {i s' c : Nat} (hs : s' ≠ s) (hc : c < 289) (hi : i ≤ 289) : tp_w m s g i (289 * s' + c) = m (289 * s' + c) := by
  unfold tp_w
  rw [if_neg (by omega)]
theorem tp_w_c (m : Nat → Bool) (s : Nat) {g g' : Nat → Bool} {i : Nat} (h : ∀ c, c < i → g c = g' c) : tp_w m s g i = tp_w m s g' i := by
  funext x
  unfold tp_w
  by_cases h1 : 289 * s ≤ x ∧ x < 289 * s + i
  · rw [if_pos h1, if_pos h1]
    exact h _ (by omega)
  · rw [if_neg h1, if_neg h1]
def tp_dm (c : Nat) : Nat := c / 17 % 2 + c % 17 % 2
def tp_Ok (k : Nat) (g : Nat → Bool) : Prop := k ≤ 3 ∧ (∀ c, c < 289 → g c = true → tp_dm c + 1 = k) ∧ (k ≠ 0 → ∃ c, c < 289 ∧ g c = true)
def tp_hs (g : Nat → Bool) (i j : Int) : Bool := decide (0 ≤ i ∧ i ≤ 16 ∧ 0 ≤ j ∧ j ≤ 16) && g (17 * i + j).toNat
theorem tp_hs_in (g : Nat → Bool) {i j : Nat} (hi : i ≤ 16) (hj : j ≤ 16) : tp_hs g i j = g (17 * i + j) := by
  unfold tp_hs
  have h : (0 ≤ (i : Int) ∧ (i : Int) ≤ 16 ∧ 0 ≤ (j : Int) ∧ (j : Int) ≤ 16) := by omega
  have e : (17 * (i : Int) + (j : Int)).toNat = 17 * i + j := by omega
  rw [e, decide_eq_true h, Bool.true_and]
theorem tp_hs_out (g : Nat → Bool) {i j : Int} (h : ¬ (0 ≤ i ∧ i ≤ 16 ∧ 0 ≤ j ∧ j ≤ 16)) : tp_hs g i j = false := by
  unfold tp_hs
  rw [decide_eq_false h, Bool.false_and]
theorem tp_hs_t {g : Nat → Bool} {i j : Int} (h : tp_hs g i j = true) : ∃ a b : Nat, i = a ∧ j = b ∧ a ≤ 16 ∧ b ≤ 16 ∧ g (17 * a + b) = true := by
  unfold tp_hs at h
  rw [Bool.and_eq_true, decide_eq_true_eq] at h
  refine ⟨i.toNat, j.toNat, by omega, by omega, by omega, by omega, ?_⟩
  rw [← h.2]
  exact congrArg g (by omega)
theorem tp_hs_c {g g' : Nat → Bool} (h : ∀ c, c < 289 → g c = g' c) (i j : Int) : tp_hs g i j = tp_hs g' i j := by
  by_cases e : 0 ≤ i ∧ i ≤ 16 ∧ 0 ≤ j ∧ j ≤ 16
  · unfold tp_hs
    rw [h _ (by omega)]
  · rw [tp_hs_out g e, tp_hs_out g' e]
theorem tp_ok_hs {k : Nat} {g : Nat → Bool} (H : tp_Ok k g) {i j : Int} (h : tp_hs g i j = true) : 0 ≤ i ∧ i ≤ 16 ∧ 0 ≤ j ∧ j ≤ 16 ∧ i % 2 + j % 2 + 1 = k := by
  obtain ⟨a, b, rfl, rfl, ha, hb, e⟩ := tp_hs_t h
  have h1 := H.2.1 _ (by omega) e
  unfold tp_dm at h1
  have e1 : (17 * a + b) / 17 = a := by omega
  have e2 : (17 * a + b) % 17 = b := by omega
  rw [e1, e2] at h1
  omega
theorem tp_ok_hf {k : Nat} {g : Nat → Bool} (H : tp_Ok k g) {i j : Int} (h : ¬ i % 2 + j % 2 + 1 = k) : tp_hs g i j = false := by
  cases e : tp_hs g i j with
  | false => rfl
  | true => exact absurd (tp_ok_hs H e).2.2.2.2 h
def tp_bs (g : Nat → Bool) (i j : Int) : Nat := (tp_hs g (i - 1) j).toNat + (tp_hs g (i + 1) j).toNat + (tp_hs g i (j - 1)).toNat + (tp_hs g i (j + 1)).toNat
def tp_cr (g : Nat → Bool) (i j : Int) : Nat := (tp_hs g (i - 1) (j - 1)).toNat + (tp_hs g (i + 1) (j - 1)).toNat + (tp_hs g (i - 1) (j + 1)).toNat + (tp_hs g (i + 1) (j + 1)).toNat
theorem tp_bs_c {g g' : Nat → Bool} (h : ∀ c, c < 289 → g c = g' c) (i j : Int) : tp_bs g i j = tp_bs g' i j := by
  unfold tp_bs
  rw [tp_hs_c h, tp_hs_c h, tp_hs_c h, tp_hs_c h]
theorem tp_cr_c {g g' : Nat → Bool} (h : ∀ c, c < 289 → g c = g' c) (i j : Int) : tp_cr g i j = tp_cr g' i j := by
  unfold tp_cr
  rw [tp_hs_c h, tp_hs_c h, tp_hs_c h, tp_hs_c h]
/-- the part of element (i, j) as the reference finds it -/
def tp_pt (k : Nat) (g : Nat → Bool) (i j : Nat) : Nat :=
  if tp_hs g i j = true then 0 else
  if k = 2 then (if ¬ (i % 2 = 0 ∧ j % 2 = 0) ∨ tp_bs g i j = 0 then 2 else tp_bs g i j % 2) else
  if k = 1 ∨ (i % 2 = 1 ∧ j % 2 = 1) then 2 else
  if ¬ (i % 2 = 0 ∧ j % 2 = 0) then (if tp_bs g i j = 2 then 0 else if tp_bs g i j = 1 then 1 else 2) else
  if tp_cr g i j = 4 then 0 else if tp_cr g i j = 0 then 2 else 1
theorem tp_pt_c (k : Nat) {g g' : Nat → Bool} (h : ∀ c, c < 289 → g c = g' c) (i j : Nat) : tp_pt k g i j = tp_pt k g' i j := by
  unfold tp_pt
  rw [tp_hs_c h, tp_bs_c h, tp_cr_c h]
theorem tp_pt_le (k : Nat) (g : Nat → Bool) (i j : Nat) : tp_pt k g i j ≤ 2 := by
  unfold tp_pt
  repeat' split
  all_goals omega
/-- the part as the component finds it in an area -/
def tp_ar (g : Nat → Bool) (i j : Nat) : Nat :=
  (tp_hs g (if i % 2 = 1 then (i : Int) else i - 1) (if j % 2 = 1 then (j : Int) else j - 1)).toNat + (tp_hs g (if i % 2 = 1 then (i : Int) else i - 1) (if j % 2 = 1 then (j : Int) else j + 1)).toNat + (tp_hs g (if i % 2 = 1 then (i : Int) else i + 1) (if j % 2 = 1 then (j : Int) else j - 1)).toNat + (tp_hs g (if i % 2 = 1 then (i : Int) else i + 1) (if j % 2 = 1 then (j : Int) else j + 1)).toNat
def tp_px (k : Nat) (g : Nat → Bool) (i j : Nat) : Nat :=
  if k = 3 then (if tp_ar g i j = 0 then 2 else if tp_ar g i j = 4 then 0 else 1) else
  if k = 2 ∧ i % 2 + j % 2 = 0 then (if tp_bs g i j = 0 then 2 else if tp_bs g i j % 2 = 0 then 0 else 1) else
  if tp_hs g i j = true then 0 else 2
theorem tp_px_c (k : Nat) {g g' : Nat → Bool} (h : ∀ c, c < 289 → g c = g' c) (i j : Nat) : tp_px k g i j = tp_px k g' i j := by
  unfold tp_px tp_ar
  rw [tp_hs_c h, tp_bs_c h, tp_hs_c h, tp_hs_c h, tp_hs_c h, tp_hs_c h i j]
theorem tp_pt_v3 {g : Nat → Bool} (H : tp_Ok 3 g) {i j : Nat} (hi : i % 2 = 0) (hj : j % 2 = 0) : tp_pt 3 g i j = if tp_cr g i j = 4 then 0 else if tp_cr g i j = 0 then 2 else 1 := by
  unfold tp_pt
  rw [tp_ok_hf H (i := i) (j := j) (by omega), if_neg (by decide), if_neg (by decide), if_neg (by omega), if_neg (by omega)]
theorem tp_pt_e3 {g : Nat → Bool} (H : tp_Ok 3 g) {i j : Nat} (h : i % 2 + j % 2 = 1) : tp_pt 3 g i j = if tp_bs g i j = 2 then 0 else if tp_bs g i j = 1 then 1 else 2 := by
  unfold tp_pt
  rw [tp_ok_hf H (i := i) (j := j) (by omega), if_neg (by decide), if_neg (by decide), if_neg (by omega), if_pos (by omega)]
theorem tp_px_3 {g : Nat → Bool} (H : tp_Ok 3 g) (i j : Nat) : tp_px 3 g i j = tp_pt 3 g i j := by
  unfold tp_px
  rw [if_pos rfl]
  rcases Nat.mod_two_eq_zero_or_one i with hi | hi <;> rcases Nat.mod_two_eq_zero_or_one j with hj | hj
  · have n1 : ¬ i % 2 = 1 := by omega
    have n2 : ¬ j % 2 = 1 := by omega
    rw [tp_pt_v3 H hi hj]
    unfold tp_ar tp_cr
    simp only [if_neg n1, if_neg n2]
    generalize tp_hs g (↑i - 1) (↑j - 1) = a
    generalize tp_hs g (↑i - 1) (↑j + 1) = b
    generalize tp_hs g (↑i + 1) (↑j - 1) = c
    generalize tp_hs g (↑i + 1) (↑j + 1) = d
    revert a b c d
    decide
  · have n1 : ¬ i % 2 = 1 := by omega
    rw [tp_pt_e3 H (by omega)]
    unfold tp_ar tp_bs
    rw [tp_ok_hf H (i := i) (j := j - 1) (by omega), tp_ok_hf H (i := i) (j := j + 1) (by omega)]
    simp only [if_neg n1, if_pos hj]
    generalize tp_hs g (↑i - 1) ↑j = a
    generalize tp_hs g (↑i + 1) ↑j = b
    revert a b
    decide
  · have n1 : ¬ j % 2 = 1 := by omega
    rw [tp_pt_e3 H (by omega)]
    unfold tp_ar tp_bs
    rw [tp_ok_hf H (i := i - 1) (j := j) (by omega), tp_ok_hf H (i := i + 1) (j := j) (by omega)]
    simp only [if_neg n1, if_pos hi]
    generalize tp_hs g ↑i (↑j - 1) = a
    generalize tp_hs g ↑i (↑j + 1) = b
    revert a b
    decide
  · unfold tp_pt tp_ar
    simp only [if_pos hi, if_pos hj]
    rw [if_neg (by decide : ¬ (3 : Nat) = 2), if_pos (Or.inr ⟨hi, hj⟩)]
    generalize tp_hs g ↑i ↑j = a
    revert a
    decide
theorem tp_px_pt {k : Nat} {g : Nat → Bool} (H : tp_Ok k g) (i j : Nat) : tp_px k g i j = tp_pt k g i j := by
  by_cases h3 : k = 3
  · subst h3
    exact tp_px_3 H i j
  by_cases h2 : k = 2
  · subst h2
    unfold tp_px tp_pt
    by_cases hv : i % 2 = 0 ∧ j % 2 = 0
    · rw [tp_ok_hf H (i := i) (j := j) (by omega)]
      have hv2 : i % 2 + j % 2 = 0 := by omega
      simp only [hv2, hv]
      by_cases h0 : tp_bs g i j = 0
      · simp [h0]
      · rcases Nat.mod_two_eq_zero_or_one (tp_bs g i j) with e | e <;> simp [h0, e]
    · have hv2 : ¬ (i % 2 + j % 2 = 0) := by omega
      simp [hv2, hv]
  unfold tp_px tp_pt
  rw [if_neg h3, if_neg (by omega), if_neg h2]
  by_cases e : tp_hs g i j = true
  · rw [if_pos e, if_pos e]
  · rw [if_neg e, if_neg e]
    by_cases h1 : k = 1
    · rw [if_pos (Or.inl h1)]
    · have hk := H.1
      have z : ∀ a b : Int, tp_hs g a b = false := fun a b => tp_ok_hf H (by omega)
      unfold tp_bs tp_cr
      simp only [z]
      simp
