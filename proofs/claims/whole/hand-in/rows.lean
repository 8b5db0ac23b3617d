section
theorem pk_us {f : Nat → Int32} {k : Nat} {x : Int32} : upd f k x k = x := if_pos rfl
theorem pk_un {f : Nat → Int32} {k j : Nat} {x : Int32} (h : j ≠ k) : upd f k x j = f j := if_neg h
theorem pk_sub {a b : Nat} (h : b ≤ a) : nI a - nI b = nI (a - b) := by
  obtain ⟨c, rfl⟩ : ∃ c, a = c + b := ⟨a - b, by omega⟩
  rw [← nI_add, Int32.add_sub_cancel, Nat.add_sub_cancel]
theorem pk_m1 (n : Nat) : nI (n + 1) + (-1) = nI n := by
  rw [← nI_1, Int32.add_assoc, show (1 : Int32) + (-1) = 0 from rfl, Int32.add_zero]
theorem pk_mul (a b : Nat) : nI a * nI b = nI (a * b) := (Int32.ofNat_mul a b).symm
theorem pk_div {a d : Nat} (ha : a < 2 ^ 31) (h0 : 0 < d) (hd : d < 2 ^ 31) : nI a / nI d = nI (a / d) := by
  apply Int32.toInt_inj.mp
  rw [lg_idiv_nonneg (by rw [nI_toInt ha]; omega) (by rw [nI_toInt hd]; omega), nI_toInt ha, nI_toInt hd, nI_toInt (Nat.lt_of_le_of_lt (Nat.div_le_self a d) ha)]
  first | rfl | exact (Int.natCast_ediv _ _).symm
theorem pk_rem {a d : Nat} (ha : a < 2 ^ 31) (h0 : 0 < d) (hd : d < 2 ^ 31) : nI a - nI a / nI d * nI d = nI (a % d) := by
  rw [pk_div ha h0 hd, pk_mul, pk_sub (Nat.div_mul_le_self a d)]
  exact congrArg nI (by have := Nat.div_add_mod' a d; omega)
theorem pk_sub_toInt {a b : Nat} (ha : a < 2 ^ 30) (hb : b < 2 ^ 30) : (nI a - nI b).toInt = (a : Int) - b := by
  rw [Int32.toInt_sub, nI_toInt (by omega), nI_toInt (by omega)]
  exact Int.bmod_eq_of_le (by omega) (by omega)
theorem pk_sneg {a b : Nat} (hb : b < 2 ^ 30) (h : a < b) : nI a - nI b < 0 := by
  rw [Int32.lt_iff_toInt_lt, pk_sub_toInt (by omega) hb, show (0 : Int32).toInt = 0 from by decide]
  omega
theorem pk_ix (x : Int32) {n : Nat} (hn : n < 2 ^ 31) : x < 0 ∨ nI n ≤ x ∨ ∃ j : Nat, j < n ∧ x = nI j := by
  by_cases h : x < 0
  · exact Or.inl h
  · obtain ⟨j, hj, rfl⟩ := nI_of h
    by_cases h2 : j < n
    · exact Or.inr (Or.inr ⟨j, h2, rfl⟩)
    · exact Or.inr (Or.inl (nI_le (by omega) hj))
theorem pk_le {x y : Int32} {A B : Prop} (a b : Nat) (f : a ≤ b → A) (g : b < a → B) (hx : x = nI a := by rfl) (hy : y = nI b := by rfl) (ha : a < 2 ^ 31 := by omega) (hb : b < 2 ^ 31 := by omega) : (x ≤ y → A) ∧ (¬ x ≤ y → B) := by
  subst hx hy
  rw [nI_leI ha hb]
  exact ⟨f, fun z => g (by omega)⟩
theorem pk_lt {x y : Int32} {A B : Prop} (a b : Nat) (f : a < b → A) (g : b ≤ a → B) (hx : x = nI a := by rfl) (hy : y = nI b := by rfl) (ha : a < 2 ^ 31 := by omega) (hb : b < 2 ^ 31 := by omega) : (x < y → A) ∧ (¬ x < y → B) := by
  subst hx hy
  rw [nI_ltI ha hb]
  exact ⟨f, fun z => g (by omega)⟩
theorem pk_eq {x y : Int32} {A B : Prop} (a b : Nat) (f : a = b → A) (g : a ≠ b → B) (hx : x = nI a := by rfl) (hy : y = nI b := by rfl) (ha : a < 2 ^ 31 := by omega) (hb : b < 2 ^ 31 := by omega) : (x = y → A) ∧ (¬ x = y → B) := by
  subst hx hy
  rw [nI_eq ha hb]
  exact ⟨f, g⟩
theorem pk_in {x : Int32} (n N : Nat) (h : n < N) (hx : x = nI n := by rfl) (hN : N < 2 ^ 31 := by omega) : vp_in x N := by
  subst hx
  exact vp_in_nI h hN
theorem pk_cl {x : Int32} (n : Nat) (hx : x = nI n := by rfl) (h : n < 2 ^ 31 := by omega) : x.toNatClampNeg = n := by
  subst hx
  exact nI_clamp h
theorem pk_tn {n : Nat} (h : n < 2 ^ 32) : (nI n).toBitVec.toNat = n := Nat.mod_eq_of_lt h
theorem pk_and (x : Int32) {m : Int32} (k : Nat) (hm : m.toBitVec.toNat = 2 ^ k - 1) : x &&& m = nI (x.toBitVec.toNat % 2 ^ k) := by
  apply Int32.toBitVec_inj.mp
  apply BitVec.eq_of_toNat_eq
  rw [Int32.toBitVec_and, BitVec.toNat_and, hm, Nat.and_two_pow_sub_one_eq_mod]
  show _ = (BitVec.ofNat 32 _).toNat
  rw [BitVec.toNat_ofNat]
  exact (Nat.mod_eq_of_lt (Nat.lt_of_le_of_lt (Nat.mod_le _ _) x.toBitVec.isLt)).symm
theorem pk_andN {n : Nat} (h : n < 2 ^ 32) {m : Int32} (k : Nat) (hm : m.toBitVec.toNat = 2 ^ k - 1) : nI n &&& m = nI (n % 2 ^ k) := by
  rw [pk_and _ k hm, pk_tn h]
theorem pk_loop {σ : Type} (W : Nat → Nat → σ → Prop) (I : Nat → σ → Prop) (e i0 : Nat) (s : σ) (hi : i0 ≤ e) (h0 : I i0 s) (hx : ∀ n s, I e s → W (n + 1) e s)
    (hs : ∀ n i s, i < e → I i s → (∀ s', I (i + 1) s' → W n (i + 1) s') → W (n + 1) i s) : ∃ n, W n i0 s :=
  ⟨e + 1, loop_i W I e hx hs (e + 1) i0 s hi (by omega) h0⟩
theorem pk_least (P : Nat → Prop) (h : ∃ k, P k) : ∃ k, P k ∧ ∀ j, j < k → ¬ P j := by
  obtain ⟨k, hk⟩ := h
  induction k using Nat.strongRecOn with
  | ind k ih =>
    by_cases e : ∃ j, j < k ∧ P j
    · obtain ⟨j, hj, pj⟩ := e
      exact ih j hj pj
    · exact ⟨k, hk, fun j hj pj => e ⟨j, hj, pj⟩⟩
end
section
def tp_b (b : Bool) : Int32 := if b then 1 else 0
def tp_u (f : Nat → Bool) (k : Nat) (b : Bool) : Nat → Bool := fun j => if j = k then b else f j
def tp_v (f : Nat → Nat) (k : Nat) (b : Nat) : Nat → Nat := fun j => if j = k then b else f j
theorem tp_u_s (f : Nat → Bool) (k : Nat) (b : Bool) : tp_u f k b k = b := if_pos rfl
theorem tp_u_n {f : Nat → Bool} {k j : Nat} {b : Bool} (h : j ≠ k) : tp_u f k b j = f j := if_neg h
theorem tp_v_s (f : Nat → Nat) (k : Nat) (b : Nat) : tp_v f k b k = b := if_pos rfl
theorem tp_v_n {f : Nat → Nat} {k j : Nat} {b : Nat} (h : j ≠ k) : tp_v f k b j = f j := if_neg h
theorem tp_ub (f : Nat → Bool) (k : Nat) (b : Bool) : upd (fun x => tp_b (f x)) k (tp_b b) = fun x => tp_b (tp_u f k b x) := by
  funext j
  unfold upd tp_u
  split <;> rfl
theorem tp_uk (f : Nat → Nat) (k b : Nat) : upd (fun x => nI (f x)) k (nI b) = fun x => nI (tp_v f k b x) := by
  funext j
  unfold upd tp_v
  split <;> rfl
theorem tp_b_t : tp_b true = 1 := rfl
theorem tp_b_f : tp_b false = 0 := rfl
theorem tp_b_0 (b : Bool) : tp_b b = 0 ↔ b = false := by
  cases b
  · exact ⟨fun _ => rfl, fun _ => rfl⟩
  · exact ⟨fun h => absurd h (by decide), fun h => nomatch h⟩
theorem tp_b_1 (b : Bool) : ¬ tp_b b = 0 ↔ b = true := by
  cases b
  · exact ⟨fun h => absurd rfl h, fun h => nomatch h⟩
  · exact ⟨fun _ => rfl, fun _ => by decide⟩
def tp_cnt (f : Nat → Bool) : Nat → Nat
  | 0 => 0
  | n + 1 => if f n then tp_cnt f n + 1 else tp_cnt f n
theorem tp_cnt_le (f : Nat → Bool) : ∀ n, tp_cnt f n ≤ n
  | 0 => Nat.le_refl 0
  | n + 1 => by
    have := tp_cnt_le f n
    unfold tp_cnt
    split <;> omega
theorem tp_cnt_congr {f g : Nat → Bool} : ∀ n, (∀ c, c < n → f c = g c) → tp_cnt f n = tp_cnt g n
  | 0, _ => rfl
  | n + 1, h => by
    have e := tp_cnt_congr n (fun c hc => h c (by omega))
    have e2 := h n (by omega)
    simp only [tp_cnt, e, e2]
theorem tp_cnt_pos {f : Nat → Bool} {k : Nat} (hf : f k = true) : ∀ n, k < n → 0 < tp_cnt f n
  | 0, h => absurd h (by omega)
  | n + 1, h => by
    by_cases e : k = n
    · subst e
      unfold tp_cnt
      rw [if_pos hf]
      omega
    · have := tp_cnt_pos hf n (by omega)
      unfold tp_cnt
      split <;> omega
theorem tp_cnt_z {f : Nat → Bool} {n : Nat} (h : tp_cnt f n = 0) : ∀ c, c < n → f c = false := by
  intro c hc
  cases e : f c with
  | false => rfl
  | true =>
    have := tp_cnt_pos e n hc
    omega
theorem tp_cnt_y {f : Nat → Bool} : ∀ n, (∀ c, c < n → f c = false) → tp_cnt f n = 0
  | 0, _ => rfl
  | n + 1, h => by
    unfold tp_cnt
    rw [h n (by omega)]
    exact tp_cnt_y n (fun c hc => h c (by omega))
theorem tp_cnt_u {f : Nat → Bool} {k : Nat} (hf : f k = true) : ∀ n, k < n → tp_cnt (tp_u f k false) n + 1 = tp_cnt f n
  | 0, h => absurd h (by omega)
  | n + 1, h => by
    by_cases e : k = n
    · subst e
      have e2 : tp_cnt (tp_u f k false) k = tp_cnt f k := tp_cnt_congr k (fun c hc => tp_u_n (by omega))
      unfold tp_cnt
      rw [e2, tp_u_s, if_pos hf]
      rfl
    · have h1 := tp_cnt_u hf n (by omega)
      have e3 : tp_u f k false n = f n := tp_u_n (by omega)
      unfold tp_cnt
      rw [e3]
      split <;> omega
def tp_sl (m : Nat → Bool) (s : Nat) : Nat → Bool := fun c => m (289 * s + c)
def tp_w (m : Nat → Bool) (s : Nat) (g : Nat → Bool) (i : Nat) : Nat → Bool := fun x => if 289 * s ≤ x ∧ x < 289 * s + i then g (x - 289 * s) else m x
theorem tp_w_0 (m : Nat → Bool) (s : Nat) (g : Nat → Bool) : tp_w m s g 0 = m := by
  funext x
  unfold tp_w
  rw [if_neg (by omega)]
theorem tp_w_s (m : Nat → Bool) (s : Nat) (g : Nat → Bool) (i : Nat) : tp_u (tp_w m s g i) (289 * s + i) (g i) = tp_w m s g (i + 1) := by
  funext x
  unfold tp_u tp_w
  by_cases h : x = 289 * s + i
  · subst h
    rw [if_pos rfl, if_pos (by omega), Nat.add_sub_cancel_left]
  · rw [if_neg h]
    by_cases h2 : 289 * s ≤ x ∧ x < 289 * s + i
    · rw [if_pos h2, if_pos (by omega)]
    · rw [if_neg h2, if_neg (by omega)]
theorem tp_w_j (m : Nat → Bool) (s : Nat) (g : Nat → Bool) {i i' : Nat} (h : i ≤ i') (hg : ∀ c, i ≤ c → c < i' → g c = m (289 * s + c)) : tp_w m s g i' = tp_w m s g i := by
  funext x
  unfold tp_w
  by_cases h1 : 289 * s ≤ x ∧ x < 289 * s + i
  · rw [if_pos h1, if_pos (by omega)]
  · rw [if_neg h1]
    by_cases h2 : 289 * s ≤ x ∧ x < 289 * s + i'
    · rw [if_pos h2, hg (x - 289 * s) (by omega) (by omega)]
      exact congrArg m (by omega)
    · rw [if_neg h2]
theorem tp_w_at (m : Nat → Bool) (s : Nat) (g : Nat → Bool) {i c : Nat} (hc : c < i) : tp_w m s g i (289 * s + c) = g c := by
  unfold tp_w
  rw [if_pos (by omega), Nat.add_sub_cancel_left]
theorem tp_w_ge (m : Nat → Bool) (s : Nat) (g : Nat → Bool) {i c : Nat} (hc : i ≤ c) : tp_w m s g i (289 * s + c) = m (289 * s + c) := by
  unfold tp_w
  rw [if_neg (by omega)]
theorem tp_w_ne (m : Nat → Bool) (s : Nat) (g : Nat → Bool) {i s' c : Nat} (hs : s' ≠ s) (hc : c < 289) (hi : i ≤ 289) : tp_w m s g i (289 * s' + c) = m (289 * s' + c) := by
  unfold tp_w
  rw [if_neg (by omega)]
theorem tp_w_c (m : Nat → Bool) (s : Nat) {g g' : Nat → Bool} {i : Nat} (h : ∀ c, c < i → g c = g' c) : tp_w m s g i = tp_w m s g' i := by
  funext x
  unfold tp_w
  by_cases h1 : 289 * s ≤ x ∧ x < 289 * s + i
  · rw [if_pos h1, if_pos h1]
    exact h _ (by omega)
  · rw [if_neg h1, if_neg h1]
def tp_dm (c : Nat) : Nat := c / 17 % 2 + c % 17 % 2
def tp_Ok (k : Nat) (g : Nat → Bool) : Prop := k ≤ 3 ∧ (∀ c, c < 289 → g c = true → tp_dm c + 1 = k) ∧ (k ≠ 0 → ∃ c, c < 289 ∧ g c = true)
def tp_hs (g : Nat → Bool) (i j : Int) : Bool := decide (0 ≤ i ∧ i ≤ 16 ∧ 0 ≤ j ∧ j ≤ 16) && g (17 * i + j).toNat
theorem tp_hs_in (g : Nat → Bool) {i j : Nat} (hi : i ≤ 16) (hj : j ≤ 16) : tp_hs g i j = g (17 * i + j) := by
  unfold tp_hs
  have h : (0 ≤ (i : Int) ∧ (i : Int) ≤ 16 ∧ 0 ≤ (j : Int) ∧ (j : Int) ≤ 16) := by omega
  have e : (17 * (i : Int) + (j : Int)).toNat = 17 * i + j := by omega
  rw [e, decide_eq_true h, Bool.true_and]
theorem tp_hs_out (g : Nat → Bool) {i j : Int} (h : ¬ (0 ≤ i ∧ i ≤ 16 ∧ 0 ≤ j ∧ j ≤ 16)) : tp_hs g i j = false := by
  unfold tp_hs
  rw [decide_eq_false h, Bool.false_and]
theorem tp_hs_t {g : Nat → Bool} {i j : Int} (h : tp_hs g i j = true) : ∃ a b : Nat, i = a ∧ j = b ∧ a ≤ 16 ∧ b ≤ 16 ∧ g (17 * a + b) = true := by
  unfold tp_hs at h
  rw [Bool.and_eq_true, decide_eq_true_eq] at h
  refine ⟨i.toNat, j.toNat, by omega, by omega, by omega, by omega, ?_⟩
  rw [← h.2]
  exact congrArg g (by omega)
theorem tp_hs_c {g g' : Nat → Bool} (h : ∀ c, c < 289 → g c = g' c) (i j : Int) : tp_hs g i j = tp_hs g' i j := by
  by_cases e : 0 ≤ i ∧ i ≤ 16 ∧ 0 ≤ j ∧ j ≤ 16
  · unfold tp_hs
    rw [h _ (by omega)]
  · rw [tp_hs_out g e, tp_hs_out g' e]
theorem tp_ok_hs {k : Nat} {g : Nat → Bool} (H : tp_Ok k g) {i j : Int} (h : tp_hs g i j = true) : 0 ≤ i ∧ i ≤ 16 ∧ 0 ≤ j ∧ j ≤ 16 ∧ i % 2 + j % 2 + 1 = k := by
  obtain ⟨a, b, rfl, rfl, ha, hb, e⟩ := tp_hs_t h
  have h1 := H.2.1 _ (by omega) e
  unfold tp_dm at h1
  have e1 : (17 * a + b) / 17 = a := by omega
  have e2 : (17 * a + b) % 17 = b := by omega
  rw [e1, e2] at h1
  omega
theorem tp_ok_hf {k : Nat} {g : Nat → Bool} (H : tp_Ok k g) {i j : Int} (h : ¬ i % 2 + j % 2 + 1 = k) : tp_hs g i j = false := by
  cases e : tp_hs g i j with
  | false => rfl
  | true => exact absurd (tp_ok_hs H e).2.2.2.2 h
def tp_bs (g : Nat → Bool) (i j : Int) : Nat := (tp_hs g (i - 1) j).toNat + (tp_hs g (i + 1) j).toNat + (tp_hs g i (j - 1)).toNat + (tp_hs g i (j + 1)).toNat
def tp_cr (g : Nat → Bool) (i j : Int) : Nat := (tp_hs g (i - 1) (j - 1)).toNat + (tp_hs g (i + 1) (j - 1)).toNat + (tp_hs g (i - 1) (j + 1)).toNat + (tp_hs g (i + 1) (j + 1)).toNat
theorem tp_bs_c {g g' : Nat → Bool} (h : ∀ c, c < 289 → g c = g' c) (i j : Int) : tp_bs g i j = tp_bs g' i j := by
  unfold tp_bs
  rw [tp_hs_c h, tp_hs_c h, tp_hs_c h, tp_hs_c h]
theorem tp_cr_c {g g' : Nat → Bool} (h : ∀ c, c < 289 → g c = g' c) (i j : Int) : tp_cr g i j = tp_cr g' i j := by
  unfold tp_cr
  rw [tp_hs_c h, tp_hs_c h, tp_hs_c h, tp_hs_c h]
/-- the part of element (i, j) as the reference finds it -/
def tp_pt (k : Nat) (g : Nat → Bool) (i j : Nat) : Nat :=
  if tp_hs g i j = true then 0 else
  if k = 2 then (if ¬ (i % 2 = 0 ∧ j % 2 = 0) ∨ tp_bs g i j = 0 then 2 else tp_bs g i j % 2) else
  if k = 1 ∨ (i % 2 = 1 ∧ j % 2 = 1) then 2 else
  if ¬ (i % 2 = 0 ∧ j % 2 = 0) then (if tp_bs g i j = 2 then 0 else if tp_bs g i j = 1 then 1 else 2) else
  if tp_cr g i j = 4 then 0 else if tp_cr g i j = 0 then 2 else 1
theorem tp_pt_c (k : Nat) {g g' : Nat → Bool} (h : ∀ c, c < 289 → g c = g' c) (i j : Nat) : tp_pt k g i j = tp_pt k g' i j := by
  unfold tp_pt
  rw [tp_hs_c h, tp_bs_c h, tp_cr_c h]
theorem tp_pt_le (k : Nat) (g : Nat → Bool) (i j : Nat) : tp_pt k g i j ≤ 2 := by
  unfold tp_pt
  repeat' split
  all_goals omega
/-- the part as the component finds it in an area -/
def tp_ar (g : Nat → Bool) (i j : Nat) : Nat :=
  (tp_hs g (if i % 2 = 1 then (i : Int) else i - 1) (if j % 2 = 1 then (j : Int) else j - 1)).toNat + (tp_hs g (if i % 2 = 1 then (i : Int) else i - 1) (if j % 2 = 1 then (j : Int) else j + 1)).toNat + (tp_hs g (if i % 2 = 1 then (i : Int) else i + 1) (if j % 2 = 1 then (j : Int) else j - 1)).toNat + (tp_hs g (if i % 2 = 1 then (i : Int) else i + 1) (if j % 2 = 1 then (j : Int) else j + 1)).toNat
def tp_px (k : Nat) (g : Nat → Bool) (i j : Nat) : Nat :=
  if k = 3 then (if tp_ar g i j = 0 then 2 else if tp_ar g i j = 4 then 0 else 1) else
  if k = 2 ∧ i % 2 + j % 2 = 0 then (if tp_bs g i j = 0 then 2 else if tp_bs g i j % 2 = 0 then 0 else 1) else
  if tp_hs g i j = true then 0 else 2
theorem tp_px_c (k : Nat) {g g' : Nat → Bool} (h : ∀ c, c < 289 → g c = g' c) (i j : Nat) : tp_px k g i j = tp_px k g' i j := by
  unfold tp_px tp_ar
  rw [tp_hs_c h, tp_bs_c h, tp_hs_c h, tp_hs_c h, tp_hs_c h, tp_hs_c h i j]
theorem tp_pt_v3 {g : Nat → Bool} (H : tp_Ok 3 g) {i j : Nat} (hi : i % 2 = 0) (hj : j % 2 = 0) : tp_pt 3 g i j = if tp_cr g i j = 4 then 0 else if tp_cr g i j = 0 then 2 else 1 := by
  unfold tp_pt
  rw [tp_ok_hf H (i := i) (j := j) (by omega), if_neg (by decide), if_neg (by decide), if_neg (by omega), if_neg (by omega)]
theorem tp_pt_e3 {g : Nat → Bool} (H : tp_Ok 3 g) {i j : Nat} (h : i % 2 + j % 2 = 1) : tp_pt 3 g i j = if tp_bs g i j = 2 then 0 else if tp_bs g i j = 1 then 1 else 2 := by
  unfold tp_pt
  rw [tp_ok_hf H (i := i) (j := j) (by omega), if_neg (by decide), if_neg (by decide), if_neg (by omega), if_pos (by omega)]
theorem tp_px_3 {g : Nat → Bool} (H : tp_Ok 3 g) (i j : Nat) : tp_px 3 g i j = tp_pt 3 g i j := by
  unfold tp_px
  rw [if_pos rfl]
  rcases Nat.mod_two_eq_zero_or_one i with hi | hi <;> rcases Nat.mod_two_eq_zero_or_one j with hj | hj
  · have n1 : ¬ i % 2 = 1 := by omega
    have n2 : ¬ j % 2 = 1 := by omega
    rw [tp_pt_v3 H hi hj]
    unfold tp_ar tp_cr
    simp only [if_neg n1, if_neg n2]
    generalize tp_hs g (↑i - 1) (↑j - 1) = a
    generalize tp_hs g (↑i - 1) (↑j + 1) = b
    generalize tp_hs g (↑i + 1) (↑j - 1) = c
    generalize tp_hs g (↑i + 1) (↑j + 1) = d
    revert a b c d
    decide
  · have n1 : ¬ i % 2 = 1 := by omega
    rw [tp_pt_e3 H (by omega)]
    unfold tp_ar tp_bs
    rw [tp_ok_hf H (i := i) (j := j - 1) (by omega), tp_ok_hf H (i := i) (j := j + 1) (by omega)]
    simp only [if_neg n1, if_pos hj]
    generalize tp_hs g (↑i - 1) ↑j = a
    generalize tp_hs g (↑i + 1) ↑j = b
    revert a b
    decide
  · have n1 : ¬ j % 2 = 1 := by omega
    rw [tp_pt_e3 H (by omega)]
    unfold tp_ar tp_bs
    rw [tp_ok_hf H (i := i - 1) (j := j) (by omega), tp_ok_hf H (i := i + 1) (j := j) (by omega)]
    simp only [if_neg n1, if_pos hi]
    generalize tp_hs g ↑i (↑j - 1) = a
    generalize tp_hs g ↑i (↑j + 1) = b
    revert a b
    decide
  · unfold tp_pt tp_ar
    simp only [if_pos hi, if_pos hj]
    rw [if_neg (by decide : ¬ (3 : Nat) = 2), if_pos (Or.inr ⟨hi, hj⟩)]
    generalize tp_hs g ↑i ↑j = a
    revert a
    decide
theorem tp_px_pt {k : Nat} {g : Nat → Bool} (H : tp_Ok k g) (i j : Nat) : tp_px k g i j = tp_pt k g i j := by
  by_cases h3 : k = 3
  · subst h3
    exact tp_px_3 H i j
  by_cases h2 : k = 2
  · subst h2
    unfold tp_px tp_pt
    by_cases hv : i % 2 = 0 ∧ j % 2 = 0
    · rw [tp_ok_hf H (i := i) (j := j) (by omega)]
      have hv2 : i % 2 + j % 2 = 0 := by omega
      simp only [hv2, hv]
      by_cases h0 : tp_bs g i j = 0
      · simp [h0]
      · rcases Nat.mod_two_eq_zero_or_one (tp_bs g i j) with e | e <;> simp [h0, e]
    · have hv2 : ¬ (i % 2 + j % 2 = 0) := by omega
      simp [hv2, hv]
  unfold tp_px tp_pt
  rw [if_neg h3, if_neg (by omega), if_neg h2]
  by_cases e : tp_hs g i j = true
  · rw [if_pos e, if_pos e]
  · rw [if_neg e, if_neg e]
    by_cases h1 : k = 1
    · rw [if_pos (Or.inl h1)]
    · have hk := H.1
      have z : ∀ a b : Int, tp_hs g a b = false := fun a b => tp_ok_hf H (by omega)
      unfold tp_bs tp_cr
      simp only [z]
      simp
end
section
theorem tp_pt_0 {g : Nat → Bool} (H : tp_Ok 0 g) (i j : Nat) : tp_pt 0 g i j = 2 := by
  have z : ∀ a b : Int, tp_hs g a b = false := fun a b => tp_ok_hf H (by omega)
  unfold tp_pt tp_bs tp_cr
  simp only [z]
  simp
theorem tp_pt_m {k : Nat} {g : Nat → Bool} {i j : Nat} (hi : i ≤ 16) (hj : j ≤ 16) (h : g (17 * i + j) = true) : tp_pt k g i j = 0 := by
  unfold tp_pt
  rw [tp_hs_in g hi hj, if_pos h]
theorem tp_pt_v2 {g : Nat → Bool} (H : tp_Ok 2 g) {i j : Nat} (hi : i % 2 = 0) (hj : j % 2 = 0) (h : tp_bs g i j ≠ 0) : tp_pt 2 g i j ≠ 2 := by
  unfold tp_pt
  rw [tp_ok_hf H (i := i) (j := j) (by omega)]
  rw [if_neg (by decide), if_pos rfl, if_neg (by omega)]
  omega
theorem tp_pt_v3n {g : Nat → Bool} (H : tp_Ok 3 g) {i j : Nat} (hi : i % 2 = 0) (hj : j % 2 = 0) (h : tp_cr g i j ≠ 0) : tp_pt 3 g i j ≠ 2 := by
  rw [tp_pt_v3 H hi hj, if_neg h]
  split <;> decide
theorem tp_vtx_2 {g : Nat → Bool} (H : tp_Ok 2 g) {i j : Nat} (hn : ¬ (i % 2 = 0 ∧ j % 2 = 0)) (h : tp_pt 2 g i j ≠ 2) : tp_pt 2 g (i - i % 2) (j - j % 2) ≠ 2 := by
  have ht : tp_hs g i j = true := by
    cases e : tp_hs g i j with
    | true => rfl
    | false =>
      refine absurd ?_ h
      unfold tp_pt
      rw [e, if_neg (by decide), if_pos rfl, if_pos (Or.inl hn)]
  have hd := (tp_ok_hs H ht).2.2.2.2
  refine tp_pt_v2 H (by omega) (by omega) ?_
  unfold tp_bs
  rcases Nat.mod_two_eq_zero_or_one i with hi | hi
  · have e1 : ((j - j % 2 : Nat) : Int) + 1 = j := by omega
    have e2 : ((i - i % 2 : Nat) : Int) = i := by omega
    rw [e1, e2, ht, Bool.toNat_true]
    omega
  · have e1 : ((i - i % 2 : Nat) : Int) + 1 = i := by omega
    have e2 : ((j - j % 2 : Nat) : Int) = j := by omega
    rw [e1, e2, ht, Bool.toNat_true]
    omega
theorem tp_vtx_3 {g : Nat → Bool} (H : tp_Ok 3 g) {i j : Nat} (hn : ¬ (i % 2 = 0 ∧ j % 2 = 0)) (h : tp_pt 3 g i j ≠ 2) : tp_pt 3 g (i - i % 2) (j - j % 2) ≠ 2 := by
  refine tp_pt_v3n H (by omega) (by omega) ?_
  rcases Nat.mod_two_eq_zero_or_one i with hi | hi <;> rcases Nat.mod_two_eq_zero_or_one j with hj | hj
  · exact absurd ⟨hi, hj⟩ hn
  · have hb : tp_bs g i j ≠ 0 := by
      intro z
      refine h ?_
      rw [tp_pt_e3 H (by omega), z]
      rfl
    unfold tp_bs at hb
    rw [tp_ok_hf H (i := i) (j := j - 1) (by omega), tp_ok_hf H (i := i) (j := j + 1) (by omega), Bool.toNat_false] at hb
    unfold tp_cr
    have e1 : ((j - j % 2 : Nat) : Int) + 1 = j := by omega
    have e2 : ((i - i % 2 : Nat) : Int) = i := by omega
    rw [e1, e2]
    omega
  · have hb : tp_bs g i j ≠ 0 := by
      intro z
      refine h ?_
      rw [tp_pt_e3 H (by omega), z]
      rfl
    unfold tp_bs at hb
    rw [tp_ok_hf H (i := i - 1) (j := j) (by omega), tp_ok_hf H (i := i + 1) (j := j) (by omega), Bool.toNat_false] at hb
    unfold tp_cr
    have e1 : ((i - i % 2 : Nat) : Int) + 1 = i := by omega
    have e2 : ((j - j % 2 : Nat) : Int) = j := by omega
    rw [e1, e2]
    omega
  · have ht : tp_hs g i j = true := by
      cases e : tp_hs g i j with
      | true => rfl
      | false =>
        refine absurd ?_ h
        unfold tp_pt
        rw [e, if_neg (by decide), if_neg (by decide), if_pos (Or.inr ⟨hi, hj⟩)]
    unfold tp_cr
    have e1 : ((i - i % 2 : Nat) : Int) + 1 = i := by omega
    have e2 : ((j - j % 2 : Nat) : Int) + 1 = j := by omega
    rw [e1, e2, ht, Bool.toNat_true]
    omega
/-- an element of the body has a vertex of the body beside it -/
theorem tp_vtx {k : Nat} {g : Nat → Bool} (H : tp_Ok k g) {i j : Nat} (h : tp_pt k g i j ≠ 2) : tp_pt k g (i - i % 2) (j - j % 2) ≠ 2 := by
  by_cases hn : i % 2 = 0 ∧ j % 2 = 0
  · rw [hn.1, hn.2]
    exact h
  have hk := H.1
  have : k = 0 ∨ k = 1 ∨ k = 2 ∨ k = 3 := by omega
  rcases this with rfl | rfl | rfl | rfl
  · exact absurd (tp_pt_0 H i j) h
  · refine absurd ?_ h
    unfold tp_pt
    rw [tp_ok_hf H (i := i) (j := j) (by omega), if_neg (by decide), if_neg (by decide), if_pos (Or.inl rfl)]
  · exact tp_vtx_2 H hn h
  · exact tp_vtx_3 H hn h
theorem tp_vtx_e {k : Nat} {g : Nat → Bool} (H : tp_Ok k g) (hk : k ≠ 0) : ∃ v, v < 81 ∧ tp_pt k g (2 * (v / 9)) (2 * (v % 9)) ≠ 2 := by
  obtain ⟨c, hc, e⟩ := H.2.2 hk
  have e1 : 17 * (c / 17) + c % 17 = c := by omega
  have h0 : tp_pt k g (c / 17) (c % 17) = 0 := tp_pt_m (by omega) (by omega) (by rw [e1]; exact e)
  have h1 := tp_vtx H (i := c / 17) (j := c % 17) (by rw [h0]; decide)
  refine ⟨9 * (c / 17 / 2) + c % 17 / 2, by omega, ?_⟩
  have a1 : 2 * ((9 * (c / 17 / 2) + c % 17 / 2) / 9) = c / 17 - c / 17 % 2 := by omega
  have a2 : 2 * ((9 * (c / 17 / 2) + c % 17 / 2) % 9) = c % 17 - c % 17 % 2 := by omega
  rw [a1, a2]
  exact h1
theorem tp_in_dm {k : Nat} {g : Nat → Bool} (H : tp_Ok k g) {c : Nat} (h : tp_pt k g (c / 17) (c % 17) = 0) : tp_dm c + 1 ≤ k := by
  have hk := H.1
  unfold tp_dm
  cases e : tp_hs g (c / 17 : Nat) (c % 17 : Nat) with
  | true =>
    have := (tp_ok_hs H e).2.2.2.2
    omega
  | false =>
    have : k = 0 ∨ k = 1 ∨ k = 2 ∨ k = 3 := by omega
    rcases this with rfl | rfl | rfl | rfl
    · rw [tp_pt_0 H] at h
      exact absurd h (by decide)
    · unfold tp_pt at h
      rw [e, if_neg (by decide), if_neg (by decide), if_pos (Or.inl rfl)] at h
      exact absurd h (by decide)
    · by_cases hv : c / 17 % 2 = 0 ∧ c % 17 % 2 = 0
      · omega
      · unfold tp_pt at h
        rw [e, if_neg (by decide), if_pos rfl, if_pos (Or.inl hv)] at h
        exact absurd h (by decide)
    · omega
/-- an area has a rim edge -/
theorem tp_rim_e {g : Nat → Bool} (H : tp_Ok 3 g) : ∃ c, c < 289 ∧ tp_dm c = 1 ∧ tp_pt 3 g (c / 17) (c % 17) = 1 := by
  obtain ⟨c, ⟨hc, e⟩, hl⟩ := pk_least (fun c => c < 289 ∧ g c = true) (H.2.2 (by decide))
  have hd := H.2.1 c hc e
  unfold tp_dm at hd
  have h17 : 17 ≤ c := by omega
  refine ⟨c - 17, by omega, by unfold tp_dm; omega, ?_⟩
  rw [tp_pt_e3 H (by omega)]
  have a1 : ((((c - 17) / 17 : Nat) : Int) + 1) = ((c / 17 : Nat) : Int) := by omega
  have a2 : (c - 17) % 17 = c % 17 := by omega
  have hb : tp_bs g (((c - 17) / 17 : Nat) : Int) (((c - 17) % 17 : Nat) : Int) = 1 := by
    unfold tp_bs
    rw [a1, a2, tp_hs_in g (i := c / 17) (j := c % 17) (by omega) (by omega)]
    rw [tp_ok_hf H (i := ((c - 17) / 17 : Nat)) (j := ((c % 17 : Nat) : Int) - 1) (by omega)]
    rw [tp_ok_hf H (i := ((c - 17) / 17 : Nat)) (j := ((c % 17 : Nat) : Int) + 1) (by omega)]
    have e1 : 17 * (c / 17) + c % 17 = c := by omega
    rw [e1, e]
    have z : tp_hs g (((c - 17) / 17 : Nat) - 1) ((c % 17 : Nat) : Int) = false := by
      cases t : tp_hs g (((c - 17) / 17 : Nat) - 1) ((c % 17 : Nat) : Int) with
      | false => rfl
      | true =>
        obtain ⟨a, b, ea, eb, ha, hb, eg⟩ := tp_hs_t t
        exact absurd ⟨by omega, eg⟩ (hl (17 * a + b) (by omega))
    rw [z]
    rfl
  rw [hb]
  rfl
/-- beside it (the reference's growth) -/
def tp_nf (g : Nat → Bool) (i j : Nat) : Nat → Bool
  | 0 => false
  | d + 1 => tp_nf g i j d || tp_hs g (((i + 2 * (d / 3) : Nat) : Int) - 2) (((j + 2 * (d % 3) : Nat) : Int) - 2)
def tp_cb (g : Nat → Bool) (i j : Nat) : Bool := decide (tp_pt 3 g i j ≠ 2)
theorem tp_cb_v {g : Nat → Bool} (H : tp_Ok 3 g) {i j : Nat} (hi : i % 2 = 0) (hj : j % 2 = 0) : tp_cb g i j = (tp_hs g (i - 1) (j - 1) || tp_hs g (i + 1) (j - 1) || tp_hs g (i - 1) (j + 1) || tp_hs g (i + 1) (j + 1)) := by
  unfold tp_cb
  rw [tp_pt_v3 H hi hj]
  unfold tp_cr
  generalize tp_hs g (↑i - 1) (↑j - 1) = a
  generalize tp_hs g (↑i + 1) (↑j - 1) = b
  generalize tp_hs g (↑i - 1) (↑j + 1) = c
  generalize tp_hs g (↑i + 1) (↑j + 1) = d
  revert a b c d
  decide
theorem tp_grow9 : ∀ a b c d e f g h i : Bool, ((((((((((false || a) || b) || c) || d) || e) || f) || g) || h) || i) = (((((a || d) || b) || e) || (((b || e) || c) || f)) || (((d || g) || e) || h) || (((e || h) || f) || i))) := by
  decide +kernel
theorem tp_grow {g : Nat → Bool} (H : tp_Ok 3 g) {a b : Nat} (ha : a % 2 = 0) (hb : b % 2 = 0) : tp_nf g (a + 1) (b + 1) 9 = (tp_cb g a b || tp_cb g a (b + 2) || tp_cb g (a + 2) b || tp_cb g (a + 2) (b + 2)) := by
  rw [tp_cb_v H ha hb, tp_cb_v H ha (by omega), tp_cb_v H (by omega) hb, tp_cb_v H (i := a + 2) (j := b + 2) (by omega) (by omega)]
  have p1 : (((a + 2 : Nat) : Int) - 1) = a + 1 := by omega
  have p2 : (((a + 2 : Nat) : Int) + 1) = a + 3 := by omega
  have p3 : (((b + 2 : Nat) : Int) - 1) = b + 1 := by omega
  have p4 : (((b + 2 : Nat) : Int) + 1) = b + 3 := by omega
  have x0 : ((a + 1 + 0 : Nat) : Int) - 2 = a - 1 := by omega
  have x1 : ((a + 1 + 2 : Nat) : Int) - 2 = a + 1 := by omega
  have x2 : ((a + 1 + 4 : Nat) : Int) - 2 = a + 3 := by omega
  have y0 : ((b + 1 + 0 : Nat) : Int) - 2 = b - 1 := by omega
  have y1 : ((b + 1 + 2 : Nat) : Int) - 2 = b + 1 := by omega
  have y2 : ((b + 1 + 4 : Nat) : Int) - 2 = b + 3 := by omega
  rw [p1, p2, p3, p4]
  simp only [tp_nf, Nat.reduceDiv, Nat.reduceMod, Nat.reduceMul, x0, x1, x2, y0, y1, y2]
  exact tp_grow9 _ _ _ _ _ _ _ _ _
/-- the greatest digit where two parts meet -/
def tp_mt (p q : Nat → Nat) (x y a : Nat) : Nat → Nat
  | 0 => a
  | e + 1 => if p e = x ∧ q e = y ∧ tp_mt p q x y a e < tp_dm e + 1 then tp_dm e + 1 else tp_mt p q x y a e
theorem tp_mt_b {p q : Nat → Nat} {x y a B : Nat} (ha : a ≤ B) : ∀ e, (∀ c, c < e → p c = x → q c = y → tp_dm c + 1 ≤ B) → tp_mt p q x y a e ≤ B
  | 0, _ => ha
  | e + 1, h => by
    unfold tp_mt
    split
    · rename_i hc
      exact h e (by omega) hc.1 hc.2.1
    · exact tp_mt_b ha e (fun c hc => h c (by omega))
theorem tp_mt_g {p q : Nat → Nat} {x y a : Nat} : ∀ e, a ≤ tp_mt p q x y a e
  | 0 => Nat.le_refl _
  | e + 1 => by
    have := @tp_mt_g p q x y a e
    unfold tp_mt
    split <;> omega
theorem tp_mt_3 {p q : Nat → Nat} {x y : Nat} (e : Nat) : tp_mt p q x y 3 e = 3 := by
  have h1 := @tp_mt_g p q x y 3 e
  have h2 := @tp_mt_b p q x y 3 3 (Nat.le_refl 3) e (fun c _ _ _ => by unfold tp_dm; omega)
  omega
theorem tp_mt_p {p q : Nat → Nat} {x y a c : Nat} (h1 : p c = x) (h2 : q c = y) : ∀ e, c < e → 0 < tp_mt p q x y a e
  | 0, h => absurd h (by omega)
  | e + 1, h => by
    unfold tp_mt
    by_cases hc : c = e
    · subst hc
      split
      · omega
      · rename_i hn
        have : ¬ tp_mt p q x y a c < tp_dm c + 1 := fun z => hn ⟨h1, h2, z⟩
        omega
    · have := tp_mt_p (a := a) h1 h2 e (by omega)
      split <;> omega
theorem tp_mt_n {p q : Nat → Nat} {x y : Nat} {e : Nat} (h : ¬ tp_mt p q x y 0 e = 0) : ∃ c, c < e ∧ p c = x ∧ q c = y := by
  by_cases hx : ∃ c, c < e ∧ p c = x ∧ q c = y
  · exact hx
  · refine absurd ?_ h
    have := @tp_mt_b p q x y 0 0 (Nat.le_refl 0) e (fun c hc h1 h2 => absurd ⟨c, hc, h1, h2⟩ hx)
    omega
theorem tp_mt_z {p q : Nat → Nat} {x y : Nat} {e : Nat} : ¬ tp_mt p q x y 0 e = 0 ↔ ∃ c, c < e ∧ p c = x ∧ q c = y := by
  refine ⟨tp_mt_n, ?_⟩
  rintro ⟨c, hc, h1, h2⟩ z
  have := tp_mt_p (a := 0) h1 h2 e hc
  omega
theorem tp_mt_c {p q p' q' : Nat → Nat} {x y a : Nat} : ∀ e, (∀ c, c < e → p c = p' c ∧ q c = q' c) → tp_mt p q x y a e = tp_mt p' q' x y a e
  | 0, _ => rfl
  | e + 1, h => by
    have h1 := tp_mt_c (x := x) (y := y) (a := a) e (fun c hc => h c (by omega))
    have h2 := h e (by omega)
    unfold tp_mt
    rw [h1, h2.1, h2.2]
/-- squares of distances -/
def tp_d (a b : Nat) : Nat := (a - b) * (a - b) + (b - a) * (b - a)
def tp_sq (v w : Nat) : Nat := tp_d (v / 9) (w / 9) + tp_d (v % 9) (w % 9)
theorem tp_d_le : ∀ a, a < 9 → ∀ b, b < 9 → tp_d a b ≤ 64 := by decide
theorem tp_d_i : ∀ a, a < 9 → ∀ b, b < 9 → (nI a - nI b) * (nI a - nI b) = nI (tp_d a b) := by decide +kernel
theorem tp_sq_le {v w : Nat} (hv : v < 81) (hw : w < 81) : tp_sq v w ≤ 128 := by
  have h1 := tp_d_le (v / 9) (by omega) (w / 9) (by omega)
  have h2 := tp_d_le (v % 9) (by omega) (w % 9) (by omega)
  unfold tp_sq
  omega
/-- r is the least of a and the squares over V, W below the bounds -/
def tp_Mn (P : Nat → Nat → Prop) (a r : Nat) : Prop := r ≤ a ∧ (∀ v w, P v w → r ≤ tp_sq v w) ∧ (r = a ∨ ∃ v w, P v w ∧ r = tp_sq v w)
theorem tp_Mn_u {P : Nat → Nat → Prop} {a b r r' : Nat} (ha : 1000 ≤ a) (hb : 1000 ≤ b) (hP : ∃ v w, P v w) (h81 : ∀ v w, P v w → v < 81 ∧ w < 81) (h : tp_Mn P a r) (h' : tp_Mn P b r') : r = r' ∧ r ≤ 128 := by
  obtain ⟨v, w, p⟩ := hP
  have h1 := h.2.1 v w p
  have h2 := h'.2.1 v w p
  have h3 := tp_sq_le (h81 v w p).1 (h81 v w p).2
  rcases h.2.2 with e | ⟨v1, w1, p1, e1⟩
  · omega
  rcases h'.2.2 with e | ⟨v2, w2, p2, e2⟩
  · omega
  have h4 := h.2.1 v2 w2 p2
  have h5 := h'.2.1 v1 w1 p1
  omega
theorem tp_Mn_c {P Q : Nat → Nat → Prop} {a r : Nat} (h : tp_Mn P a r) (e : ∀ v w, P v w ↔ Q v w) : tp_Mn Q a r := by
  refine ⟨h.1, fun v w q => h.2.1 v w ((e v w).mpr q), ?_⟩
  rcases h.2.2 with z | ⟨v, w, p, z⟩
  · exact Or.inl z
  · exact Or.inr ⟨v, w, (e v w).mp p, z⟩
theorem tp_Mn_0 {P : Nat → Nat → Prop} {a : Nat} (e : ∀ v w, ¬ P v w) : tp_Mn P a a := ⟨Nat.le_refl a, fun v w p => absurd p (e v w), Or.inl rfl⟩
theorem tp_Mn_s {P Q : Nat → Nat → Prop} {a r v w : Nat} (h : tp_Mn P a r) (e : ∀ x y, Q x y ↔ P x y ∨ (x = v ∧ y = w)) : tp_Mn Q a (if tp_sq v w < r then tp_sq v w else r) := by
  have hq : Q v w := (e v w).mpr (Or.inr ⟨rfl, rfl⟩)
  refine ⟨?_, ?_, ?_⟩
  · have := h.1
    split <;> omega
  · intro x y q
    rcases (e x y).mp q with p | ⟨rfl, rfl⟩
    · have := h.2.1 x y p
      split <;> omega
    · split <;> omega
  · split
    · exact Or.inr ⟨v, w, hq, rfl⟩
    · rcases h.2.2 with z | ⟨x, y, p, z⟩
      · exact Or.inl z
      · exact Or.inr ⟨x, y, (e x y).mpr (Or.inl p), z⟩
theorem tp_Mn_m {P Q R : Nat → Nat → Prop} {a b r r' : Nat} (hab : a ≤ b) (h : tp_Mn P a r) (h' : tp_Mn Q b r') (e : ∀ x y, R x y ↔ P x y ∨ Q x y) : tp_Mn R a (if r < r' then r else r') := by
  refine ⟨?_, ?_, ?_⟩
  · have := h.1
    split <;> omega
  · intro x y q
    rcases (e x y).mp q with p | p
    · have := h.2.1 x y p
      split <;> omega
    · have := h'.2.1 x y p
      split <;> omega
  · split
    · rcases h.2.2 with z | ⟨x, y, p, z⟩
      · exact Or.inl z
      · exact Or.inr ⟨x, y, (e x y).mpr (Or.inl p), z⟩
    · rcases h'.2.2 with z | ⟨x, y, p, z⟩
      · have := h.1
        exact Or.inl (by omega)
      · exact Or.inr ⟨x, y, (e x y).mpr (Or.inr p), z⟩
end
section
/-- b lies beside a -/
def tp_nb (a b : Nat) : Prop := (b / 17 = a / 17 + 1 ∧ b % 17 = a % 17) ∨ (b / 17 + 1 = a / 17 ∧ b % 17 = a % 17) ∨ (b / 17 = a / 17 ∧ b % 17 = a % 17 + 1) ∨ (b / 17 = a / 17 ∧ b % 17 + 1 = a % 17)
/-- reached from s by steps over H -/
def tp_rc (H : Nat → Bool) (s c : Nat) : Prop := ∀ S : Nat → Prop, S s → (∀ a b, S a → tp_nb a b → b < 289 → H b = true → S b) → S c
theorem tp_rc_0 (H : Nat → Bool) (s : Nat) : tp_rc H s s := fun _ h _ => h
theorem tp_rc_s {H : Nat → Bool} {s a b : Nat} (h : tp_rc H s a) (n : tp_nb a b) (hb : b < 289) (hH : H b = true) : tp_rc H s b := fun S h0 hs => hs a b (h S h0 hs) n hb hH
theorem tp_rc_h {H : Nat → Bool} {s c : Nat} (hs : H s = true) (hs9 : s < 289) (h : tp_rc H s c) : H c = true ∧ c < 289 := h (fun c => H c = true ∧ c < 289) ⟨hs, hs9⟩ (fun _ _ _ _ h9 hb => ⟨hb, h9⟩)
theorem tp_rc_c {H H' : Nat → Bool} (e : ∀ c, c < 289 → H c = H' c) {s c : Nat} (h : tp_rc H s c) : tp_rc H' s c := fun S h0 hs => h S h0 (fun a b sa n hb hH => hs a b sa n hb (by rw [← e b hb]; exact hH))
/-- the state of a walk from s over H: U is still unvisited, q the queue of length L -/
def tp_Q (H : Nat → Bool) (s : Nat) (U : Nat → Bool) (q : Nat → Nat) (L : Nat) : Prop :=
  (∀ p, p < L → q p < 289 ∧ tp_rc H s (q p)) ∧ (∀ c, c < 289 → (U c = true ↔ H c = true ∧ ∀ p, p < L → q p ≠ c)) ∧ L + tp_cnt U 289 = tp_cnt H 289
/-- what the first n of the queue have beside them is no longer unvisited -/
def tp_C (U : Nat → Bool) (q : Nat → Nat) (n : Nat) : Prop := ∀ p, p < n → ∀ b, b < 289 → tp_nb (q p) b → U b = false
theorem tp_Q_l {H : Nat → Bool} {s : Nat} {U : Nat → Bool} {q : Nat → Nat} {L : Nat} (h : tp_Q H s U q L) : L ≤ 289 := by
  have h1 := h.2.2
  have h2 := tp_cnt_le H 289
  omega
theorem tp_Q_lt {H : Nat → Bool} {s : Nat} {U : Nat → Bool} {q : Nat → Nat} {L b : Nat} (h : tp_Q H s U q L) (hb : b < 289) (hU : U b = true) : L < 289 := by
  have h1 := h.2.2
  have h2 := tp_cnt_le H 289
  have h3 := tp_cnt_pos hU 289 hb
  omega
theorem tp_Q_0 (H : Nat → Bool) (s : Nat) (q : Nat → Nat) : tp_Q H s H q 0 := ⟨fun p hp => absurd hp (by omega), fun c _ => ⟨fun h => ⟨h, fun p hp => absurd hp (by omega)⟩, fun h => h.1⟩, by omega⟩
theorem tp_Q_s {H : Nat → Bool} {s : Nat} {U : Nat → Bool} {q : Nat → Nat} {L b : Nat} (h : tp_Q H s U q L) (hb : b < 289) (hU : U b = true) (hr : tp_rc H s b) : tp_Q H s (tp_u U b false) (tp_v q L b) (L + 1) := by
  refine ⟨?_, ?_, ?_⟩
  · intro p hp
    by_cases e : p = L
    · subst e
      rw [tp_v_s]
      exact ⟨hb, hr⟩
    · rw [tp_v_n e]
      exact h.1 p (by omega)
  · intro c hc
    by_cases e : c = b
    · subst e
      rw [tp_u_s]
      refine ⟨(fun z => nomatch z), fun z => absurd (tp_v_s q L c) (z.2 L (by omega))⟩
    · rw [tp_u_n e, h.2.1 c hc]
      refine ⟨fun z => ⟨z.1, fun p hp => ?_⟩, fun z => ⟨z.1, fun p hp => ?_⟩⟩
      · by_cases e2 : p = L
        · subst e2
          rw [tp_v_s]
          exact fun z => e z.symm
        · rw [tp_v_n e2]
          exact z.2 p (by omega)
      · have := z.2 p (by omega)
        rw [tp_v_n (by omega)] at this
        exact this
  · have h1 := h.2.2
    have h2 := tp_cnt_u hU 289 hb
    omega
theorem tp_C_s {U : Nat → Bool} {q : Nat → Nat} {n L b : Nat} (h : tp_C U q n) (hn : n ≤ L) : tp_C (tp_u U b false) (tp_v q L b) n := by
  intro p hp c hc hnb
  rw [tp_v_n (by omega)] at hnb
  by_cases e : c = b
  · subst e
    exact tp_u_s U c false
  · rw [tp_u_n e]
    exact h p hp c hc hnb
/-- at the end of a walk the queue holds just what is reached -/
theorem tp_Q_e {H : Nat → Bool} {s : Nat} {U : Nat → Bool} {q : Nat → Nat} {L : Nat} (h : tp_Q H s U q L) (hc : tp_C U q L) (hs : ∃ p, p < L ∧ q p = s) (c : Nat) : (∃ p, p < L ∧ q p = c) ↔ tp_rc H s c := by
  refine ⟨?_, fun hr => ?_⟩
  · rintro ⟨p, hp, rfl⟩
    exact (h.1 p hp).2
  · refine hr (fun c => ∃ p, p < L ∧ q p = c) hs ?_
    rintro a b ⟨p, hp, rfl⟩ n hb hH
    have h0 := hc p hp b hb n
    by_cases e : ∃ p, p < L ∧ q p = b
    · exact e
    · have := (h.2.1 b hb).mpr ⟨hH, fun p hp z => e ⟨p, hp, z⟩⟩
      rw [h0] at this
      exact nomatch this
theorem tp_Q_u {H : Nat → Bool} {s : Nat} {U : Nat → Bool} {q : Nat → Nat} {L : Nat} (h : tp_Q H s U q L) (hc : tp_C U q L) (hs : ∃ p, p < L ∧ q p = s) {c : Nat} (h9 : c < 289) : U c = true ↔ H c = true ∧ ¬ tp_rc H s c := by
  rw [h.2.1 c h9]
  refine ⟨fun z => ⟨z.1, fun r => ?_⟩, fun z => ⟨z.1, fun p hp e => z.2 ((tp_Q_e h hc hs c).mp ⟨p, hp, e⟩)⟩⟩
  obtain ⟨p, hp, e⟩ := (tp_Q_e h hc hs c).mpr r
  exact z.2 p hp e
/-- the labels that the walks give, element by element -/
noncomputable def tp_lb (h : Nat → Bool) : Nat → (Nat → Nat) × Nat
  | 0 => (fun _ => 0, 0)
  | e + 1 =>
    if h e = true ∧ (tp_lb h e).1 e = 0 then
      (fun c => @ite Nat (tp_rc (fun x => h x && ((tp_lb h e).1 x == 0)) e c) (Classical.propDecidable _) ((tp_lb h e).2 + 1) ((tp_lb h e).1 c), (tp_lb h e).2 + 1)
    else tp_lb h e
noncomputable def tp_op (h : Nat → Bool) (e : Nat) : Nat → Bool := fun x => h x && ((tp_lb h e).1 x == 0)
theorem tp_op_t {h : Nat → Bool} {e x : Nat} : tp_op h e x = true ↔ h x = true ∧ (tp_lb h e).1 x = 0 := by
  unfold tp_op
  rw [Bool.and_eq_true, beq_iff_eq]
theorem tp_lb_n {h : Nat → Bool} {e : Nat} (hn : ¬ tp_op h e e = true) : tp_lb h (e + 1) = tp_lb h e := by
  rw [tp_op_t] at hn
  rw [tp_lb, if_neg hn]
theorem tp_lb_2 {h : Nat → Bool} {e : Nat} (ht : tp_op h e e = true) : (tp_lb h (e + 1)).2 = (tp_lb h e).2 + 1 := by
  rw [tp_op_t] at ht
  rw [tp_lb, if_pos ht]
theorem tp_lb_y {h : Nat → Bool} {e c : Nat} (ht : tp_op h e e = true) (hr : tp_rc (tp_op h e) e c) : (tp_lb h (e + 1)).1 c = (tp_lb h e).2 + 1 := by
  rw [tp_op_t] at ht
  rw [tp_lb, if_pos ht]
  exact if_pos hr
theorem tp_lb_o {h : Nat → Bool} {e c : Nat} (ht : tp_op h e e = true) (hr : ¬ tp_rc (tp_op h e) e c) : (tp_lb h (e + 1)).1 c = (tp_lb h e).1 c := by
  rw [tp_op_t] at ht
  rw [tp_lb, if_pos ht]
  exact if_neg hr
theorem tp_lb_le (h : Nat → Bool) : ∀ e c, (tp_lb h e).1 c ≤ (tp_lb h e).2
  | 0, _ => Nat.le_refl 0
  | e + 1, c => by
    have h1 := tp_lb_le h e c
    by_cases ht : tp_op h e e = true
    · rw [tp_lb_2 ht]
      by_cases hr : tp_rc (tp_op h e) e c
      · rw [tp_lb_y ht hr]
        omega
      · rw [tp_lb_o ht hr]
        omega
    · rw [tp_lb_n ht]
      exact h1
theorem tp_lb_n9 (h : Nat → Bool) : ∀ e, (tp_lb h e).2 ≤ e
  | 0 => Nat.le_refl 0
  | e + 1 => by
    have h1 := tp_lb_n9 h e
    by_cases ht : tp_op h e e = true
    · rw [tp_lb_2 ht]
      omega
    · rw [tp_lb_n ht]
      omega
/-- the next walk leaves the elements with an old label as they were -/
theorem tp_lb_k {h : Nat → Bool} {e c k : Nat} (he : e < 289) (h1 : 1 ≤ k) (hk : k ≤ (tp_lb h e).2) : (tp_lb h (e + 1)).1 c = k ↔ (tp_lb h e).1 c = k := by
  by_cases ht : tp_op h e e = true
  · by_cases hr : tp_rc (tp_op h e) e c
    · rw [tp_lb_y ht hr]
      have := (tp_op_t.mp (tp_rc_h ht he hr).1).2
      omega
    · rw [tp_lb_o ht hr]
  · rw [tp_lb_n ht]
/-- a border element -/
def tp_bd (c : Nat) : Bool := decide (c / 17 = 0 ∨ c / 17 = 16 ∨ c % 17 = 0 ∨ c % 17 = 16)
/-- label k reaches no border among the first n -/
def tp_hl (l : Nat → Nat) (k : Nat) : Nat → Bool
  | 0 => true
  | n + 1 => tp_hl l k n && !(decide (l n = k) && tp_bd n)
theorem tp_hl_t {l : Nat → Nat} {k : Nat} : ∀ n, tp_hl l k n = true ↔ ∀ c, c < n → l c = k → tp_bd c = false
  | 0 => ⟨fun _ c hc => absurd hc (by omega), fun _ => rfl⟩
  | n + 1 => by
    unfold tp_hl
    rw [Bool.and_eq_true, tp_hl_t n]
    refine ⟨fun z c hc e => ?_, fun z => ⟨fun c hc => z c (by omega), ?_⟩⟩
    · by_cases hn : c = n
      · subst hn
        have := z.2
        rw [decide_eq_true e, Bool.true_and] at this
        cases hb : tp_bd c with
        | false => rfl
        | true =>
          rw [hb] at this
          exact nomatch this
      · exact z.1 c (by omega) e
    · by_cases e : l n = k
      · rw [z n (by omega) e, Bool.and_false]
        rfl
      · rw [decide_eq_false e, Bool.false_and]
        rfl
theorem tp_hl_c {l l' : Nat → Nat} {k k' : Nat} (n : Nat) (h : ∀ c, c < n → (l c = k ↔ l' c = k')) : tp_hl l k n = tp_hl l' k' n := by
  rw [Bool.eq_iff_iff, tp_hl_t, tp_hl_t]
  exact ⟨fun z c hc e => z c hc ((h c hc).mpr e), fun z c hc e => z c hc ((h c hc).mp e)⟩
/-- the number of holes among the labels 1 .. n -/
def tp_hc (l : Nat → Nat) (n : Nat) : Nat := tp_cnt (fun k => tp_hl l (k + 1) 289) n
theorem tp_hc_k {h : Nat → Bool} {e : Nat} (he : e < 289) : tp_hc (tp_lb h (e + 1)).1 (tp_lb h e).2 = tp_hc (tp_lb h e).1 (tp_lb h e).2 := by
  refine tp_cnt_congr _ (fun k hk => ?_)
  exact tp_hl_c 289 (fun c _ => tp_lb_k he (by omega) (by omega))
/-- the cells that filling adds -/
def tp_fl (g : Nat → Bool) (l : Nat → Nat) (n : Nat) : Nat → Bool := fun c => g c || (decide (tp_dm c = 2) && decide (1 ≤ l c) && decide (l c ≤ n) && tp_hl l (l c) 289)
end
section
def tp_Cr (k : Nat → Nat) (m : Nat → Bool) (S P : Nat → Int32) : Prop :=
  (∀ s, s < 12 → tp_Ok (k s) (tp_sl m s)) ∧ (∀ s, s < 12 → S s = nI (tp_cnt (tp_sl m s) 289)) ∧ (∀ s, s < 12 → ∀ c, c < 289 → P (289 * s + c) = nI (tp_pt (k s) (tp_sl m s) (c / 17) (c % 17)))
theorem tp_Ok_c {k : Nat} {g g' : Nat → Bool} (h : ∀ c, c < 289 → g c = g' c) (H : tp_Ok k g) : tp_Ok k g' := by
  refine ⟨H.1, fun c hc e => H.2.1 c hc (by rw [h c hc]; exact e), fun hk => ?_⟩
  obtain ⟨c, hc, e⟩ := H.2.2 hk
  exact ⟨c, hc, by rw [← h c hc]; exact e⟩
theorem tp_Ok_z {q : Nat} {g : Nat → Bool} (hq : q ≤ 3) (h : ∀ c, c < 289 → g c = true → tp_dm c + 1 = q) : tp_Ok (if tp_cnt g 289 = 0 then 0 else q) g := by
  by_cases z : tp_cnt g 289 = 0
  · rw [if_pos z]
    exact ⟨by omega, fun c hc e => (by rw [tp_cnt_z z c hc] at e; exact nomatch e), fun hk => absurd rfl hk⟩
  · rw [if_neg z]
    refine ⟨hq, h, fun _ => ?_⟩
    by_cases hx : ∃ c, c < 289 ∧ g c = true
    · exact hx
    · refine absurd (tp_cnt_y 289 (fun c hc => ?_)) z
      cases e : g c with
      | false => rfl
      | true => exact absurd ⟨c, hc, e⟩ hx
theorem tp_Ok_p {q : Nat} {g : Nat → Bool} (hg : ∃ c, c < 289 ∧ g c = true) : (if tp_cnt g 289 = 0 then 0 else q) = q := by
  obtain ⟨c, hc, e⟩ := hg
  have := tp_cnt_pos e 289 hc
  rw [if_neg (by omega)]
theorem tp_sl_w (m : Nat → Bool) (s : Nat) (g : Nat → Bool) : ∀ c, c < 289 → tp_sl (tp_w m s g 289) s c = g c := fun _ hc => tp_w_at m s g hc
theorem tp_sl_n (m : Nat → Bool) (s : Nat) (g : Nat → Bool) {s' : Nat} (hs : s' ≠ s) : ∀ c, c < 289 → tp_sl (tp_w m s g 289) s' c = tp_sl m s' c := fun _ hc => tp_w_ne m s g hs hc (Nat.le_refl _)
/-- a slot renewed -/
theorem tp_Cr_s {k : Nat → Nat} {m : Nat → Bool} {S P P' : Nat → Int32} {s q : Nat} {g : Nat → Bool} (H : tp_Cr k m S P) (hs : s < 12) (hq : q ≤ 3) (hg : ∀ c, c < 289 → g c = true → tp_dm c + 1 = q)
    (h1 : ∀ c, c < 289 → P' (289 * s + c) = nI (tp_px (if tp_cnt g 289 = 0 then 0 else q) g (c / 17) (c % 17))) (h2 : ∀ s', s' < 12 → s' ≠ s → ∀ c, c < 289 → P' (289 * s' + c) = P (289 * s' + c)) :
    tp_Cr (tp_v k s (if tp_cnt g 289 = 0 then 0 else q)) (tp_w m s g 289) (upd S s (nI (tp_cnt g 289))) P' := by
  have hok := tp_Ok_z hq hg
  have hw := tp_sl_w m s g
  refine ⟨fun s' hs' => ?_, fun s' hs' => ?_, fun s' hs' c hc => ?_⟩
  · by_cases e : s' = s
    · subst e
      rw [tp_v_s]
      exact tp_Ok_c (fun c hc => (hw c hc).symm) hok
    · rw [tp_v_n e]
      exact tp_Ok_c (fun c hc => (tp_sl_n m s g e c hc).symm) (H.1 s' hs')
  · by_cases e : s' = s
    · subst e
      rw [pk_us, tp_cnt_congr 289 hw]
    · rw [pk_un e, H.2.1 s' hs', tp_cnt_congr 289 (tp_sl_n m s g e)]
  · by_cases e : s' = s
    · subst e
      rw [tp_v_s, h1 c hc, tp_px_pt hok, tp_pt_c _ hw]
    · rw [tp_v_n e, h2 s' hs' e c hc, H.2.2 s' hs' c hc, tp_pt_c _ (tp_sl_n m s g e)]
theorem tp_w_w (m : Nat → Bool) (s : Nat) (g g' : Nat → Bool) (i : Nat) : tp_w (tp_w m s g i) s g' i = tp_w m s g' i := by
  funext x
  unfold tp_w
  by_cases h : 289 * s ≤ x ∧ x < 289 * s + i
  · rw [if_pos h, if_pos h]
  · rw [if_neg h, if_neg h, if_neg h]
theorem tp_w_u (m : Nat → Bool) (s c0 : Nat) (b : Bool) (hc : c0 < 289) : tp_u m (289 * s + c0) b = tp_w m s (tp_u (tp_sl m s) c0 b) 289 := by
  funext x
  unfold tp_u tp_w tp_sl
  by_cases h : x = 289 * s + c0
  · subst h
    rw [if_pos rfl, if_pos (by omega)]
    dsimp only
    rw [if_pos (by omega)]
  · rw [if_neg h]
    by_cases h2 : 289 * s ≤ x ∧ x < 289 * s + 289
    · rw [if_pos h2]
      dsimp only
      rw [if_neg (by omega)]
      exact congrArg m (by omega)
    · rw [if_neg h2]
theorem tp_w_i (m : Nat → Bool) (s : Nat) : tp_w m s (tp_sl m s) 289 = m := by
  rw [tp_w_j m s (tp_sl m s) (i := 0) (i' := 289) (by omega) (fun c _ _ => rfl), tp_w_0]
theorem tp_v_i (k : Nat → Nat) (s : Nat) : tp_v k s (k s) = k := by
  funext x
  unfold tp_v
  split
  · rename_i h
    rw [h]
  · rfl
theorem tp_v_q {k : Nat → Nat} {s q : Nat} (h : k s = q) : tp_v k s q = k := by
  rw [← h]
  exact tp_v_i k s
def tp_mn (a b : Nat) : Nat := if a < b then a else b
def tp_mx (a b : Nat) : Nat := if b < a then a else b
theorem tp_mn_d (a b : Nat) : tp_mn a b / 9 = tp_mn (a / 9) (b / 9) := by
  unfold tp_mn
  split <;> split <;> omega
theorem tp_mx_d (a b : Nat) : tp_mx a b / 9 = tp_mx (a / 9) (b / 9) := by
  unfold tp_mx
  split <;> split <;> omega
/-- within the box of two vertices -/
def tp_bx (f t i j : Nat) : Bool := decide (2 * tp_mn (f / 9) (t / 9) ≤ i ∧ i ≤ 2 * tp_mx (f / 9) (t / 9) ∧ 2 * tp_mn (f % 9) (t % 9) ≤ j ∧ j ≤ 2 * tp_mx (f % 9) (t % 9))
theorem tp_bx_t {f t i j : Nat} : tp_bx f t i j = true ↔ 2 * tp_mn (f / 9) (t / 9) ≤ i ∧ i ≤ 2 * tp_mx (f / 9) (t / 9) ∧ 2 * tp_mn (f % 9) (t % 9) ≤ j ∧ j ≤ 2 * tp_mx (f % 9) (t % 9) := by
  unfold tp_bx
  exact decide_eq_true_iff
/-- the slot's set with what lies in a box put in or taken out -/
def tp_mk (g : Nat → Bool) (q f t : Nat) (b : Bool) : Nat → Bool := fun c => if tp_bx f t (c / 17) (c % 17) = true ∧ tp_dm c + 1 = q then b else g c
theorem tp_mk_t {g : Nat → Bool} {k q f t : Nat} (H : tp_Ok k g) (hk : k = 0 ∨ k = q) (b : Bool) : ∀ c, c < 289 → tp_mk g q f t b c = true → tp_dm c + 1 = q := by
  intro c hc h
  unfold tp_mk at h
  by_cases e : tp_bx f t (c / 17) (c % 17) = true ∧ tp_dm c + 1 = q
  · exact e.2
  · rw [if_neg e] at h
    have := H.2.1 c hc h
    omega
theorem tp_mk_1 {v : Nat} (hv : v < 81) (g : Nat → Bool) : ∀ c, c < 289 → tp_mk g 1 v v true c = tp_u g (17 * (2 * (v / 9)) + 2 * (v % 9)) true c := by
  intro c hc
  unfold tp_mk tp_u
  have e : (tp_bx v v (c / 17) (c % 17) = true ∧ tp_dm c + 1 = 1) ↔ c = 17 * (2 * (v / 9)) + 2 * (v % 9) := by
    rw [tp_bx_t]
    unfold tp_mn tp_mx tp_dm
    rw [if_neg (Nat.lt_irrefl _), if_neg (Nat.lt_irrefl _)]
    omega
  by_cases h : c = 17 * (2 * (v / 9)) + 2 * (v % 9)
  · rw [if_pos h, if_pos (e.mpr h)]
  · rw [if_neg h, if_neg (fun z => h (e.mp z))]
theorem tp_mk_2 {f t : Nat} (hf : f < 81) (ht : t < 81) (h : ¬ ((f / 9 = t / 9) ↔ (f % 9 = t % 9))) (g : Nat → Bool) : ∃ c, c < 289 ∧ tp_mk g 2 f t true c = true := by
  by_cases e : f / 9 = t / 9
  · refine ⟨17 * (2 * (f / 9)) + (2 * tp_mn (f % 9) (t % 9) + 1), ?_, ?_⟩
    · unfold tp_mn
      split <;> omega
    · have h1 : tp_mn (f % 9) (t % 9) ≤ 8 := by unfold tp_mn; split <;> omega
      have h2 : tp_mn (f % 9) (t % 9) < tp_mx (f % 9) (t % 9) := by unfold tp_mn tp_mx; split <;> split <;> omega
      have h3 : tp_mn (f / 9) (t / 9) = f / 9 := by unfold tp_mn; split <;> omega
      have h4 : tp_mx (f / 9) (t / 9) = f / 9 := by unfold tp_mx; split <;> omega
      have h5 : tp_mx (f % 9) (t % 9) ≤ 8 := by unfold tp_mx; split <;> omega
      unfold tp_mk
      rw [if_pos]
      rw [tp_bx_t, h3, h4]
      unfold tp_dm
      generalize tp_mn (f % 9) (t % 9) = a at *
      generalize tp_mx (f % 9) (t % 9) = b at *
      omega
  · have e' : f % 9 = t % 9 := by omega
    refine ⟨17 * (2 * tp_mn (f / 9) (t / 9) + 1) + 2 * (f % 9), ?_, ?_⟩
    · unfold tp_mn
      split <;> omega
    · have h2 : tp_mn (f / 9) (t / 9) < tp_mx (f / 9) (t / 9) := by unfold tp_mn tp_mx; split <;> split <;> omega
      have h3 : tp_mn (f % 9) (t % 9) = f % 9 := by unfold tp_mn; split <;> omega
      have h4 : tp_mx (f % 9) (t % 9) = f % 9 := by unfold tp_mx; split <;> omega
      unfold tp_mk
      rw [if_pos]
      rw [tp_bx_t, h3, h4]
      unfold tp_dm
      generalize tp_mn (f / 9) (t / 9) = a at *
      generalize tp_mx (f / 9) (t / 9) = b at *
      omega
theorem tp_mk_3 {f t : Nat} (hf : f < 81) (ht : t < 81) (h1 : ¬ f / 9 = t / 9) (h2 : ¬ f % 9 = t % 9) (g : Nat → Bool) : ∃ c, c < 289 ∧ tp_mk g 3 f t true c = true := by
  have a1 : tp_mn (f / 9) (t / 9) < tp_mx (f / 9) (t / 9) := by unfold tp_mn tp_mx; split <;> split <;> omega
  have a2 : tp_mn (f % 9) (t % 9) < tp_mx (f % 9) (t % 9) := by unfold tp_mn tp_mx; split <;> split <;> omega
  have a3 : tp_mx (f / 9) (t / 9) ≤ 8 := by unfold tp_mx; split <;> omega
  have a4 : tp_mx (f % 9) (t % 9) ≤ 8 := by unfold tp_mx; split <;> omega
  refine ⟨17 * (2 * tp_mn (f / 9) (t / 9) + 1) + (2 * tp_mn (f % 9) (t % 9) + 1), by omega, ?_⟩
  unfold tp_mk
  rw [if_pos]
  rw [tp_bx_t]
  unfold tp_dm
  generalize tp_mn (f / 9) (t / 9) = a at *
  generalize tp_mx (f / 9) (t / 9) = b at *
  generalize tp_mn (f % 9) (t % 9) = c at *
  generalize tp_mx (f % 9) (t % 9) = d at *
  omega
/-- one of the first n -/
def tp_an (f : Nat → Bool) : Nat → Bool
  | 0 => false
  | n + 1 => tp_an f n || f n
theorem tp_an_t {f : Nat → Bool} : ∀ n, tp_an f n = true ↔ ∃ c, c < n ∧ f c = true
  | 0 => ⟨(fun h => nomatch h), fun ⟨c, hc, _⟩ => absurd hc (by omega)⟩
  | n + 1 => by
    unfold tp_an
    rw [Bool.or_eq_true, tp_an_t n]
    refine ⟨?_, ?_⟩
    · rintro (⟨c, hc, e⟩ | e)
      · exact ⟨c, by omega, e⟩
      · exact ⟨n, by omega, e⟩
    · rintro ⟨c, hc, e⟩
      by_cases h : c = n
      · subst h
        exact Or.inr e
      · exact Or.inl ⟨c, by omega, e⟩
theorem tp_an_c {f g : Nat → Bool} (n : Nat) (h : ∀ c, c < n → f c = g c) : tp_an f n = tp_an g n := by
  rw [Bool.eq_iff_iff, tp_an_t, tp_an_t]
  exact ⟨fun ⟨c, hc, e⟩ => ⟨c, hc, by rw [← h c hc]; exact e⟩, fun ⟨c, hc, e⟩ => ⟨c, hc, by rw [h c hc]; exact e⟩⟩
/-- a body reaches into a window: by vertices, and by all elements -/
theorem tp_win {k : Nat} {g : Nat → Bool} (H : tp_Ok k g) {f t : Nat} (hf : f < 81) (ht : t < 81) : (∃ v, v < 81 ∧ tp_bx f t (2 * (v / 9)) (2 * (v % 9)) = true ∧ tp_pt k g (2 * (v / 9)) (2 * (v % 9)) ≠ 2) ↔ (∃ i j, tp_bx f t i j = true ∧ tp_pt k g i j ≠ 2) := by
  refine ⟨fun ⟨v, _, h1, h2⟩ => ⟨_, _, h1, h2⟩, ?_⟩
  rintro ⟨i, j, h1, h2⟩
  rw [tp_bx_t] at h1
  have a3 : tp_mx (f / 9) (t / 9) ≤ 8 := by unfold tp_mx; split <;> omega
  have a4 : tp_mx (f % 9) (t % 9) ≤ 8 := by unfold tp_mx; split <;> omega
  have h3 := tp_vtx H h2
  refine ⟨9 * (i / 2) + j / 2, by omega, ?_⟩
  have b1 : 2 * ((9 * (i / 2) + j / 2) / 9) = i - i % 2 := by omega
  have b2 : 2 * ((9 * (i / 2) + j / 2) % 9) = j - j % 2 := by omega
  rw [b1, b2, tp_bx_t]
  generalize tp_mn (f / 9) (t / 9) = a at *
  generalize tp_mx (f / 9) (t / 9) = b at *
  generalize tp_mn (f % 9) (t % 9) = c at *
  generalize tp_mx (f % 9) (t % 9) = d at *
  exact ⟨by omega, h3⟩
/-- relate's digits -/
def tp_dg (f : Nat → Nat) : Nat → Nat
  | 0 => 0
  | p + 1 => tp_dg f p * 4 + f p
def tp_me (P Q : Nat → Nat) (p : Nat) : Nat := if p = 8 then 3 else tp_mt P Q (p / 3) (p % 3) 0 289
/-- whether a name holds of two shapes -/
def tp_so (k1 k2 : Nat) (P Q : Nat → Nat) (nm : Nat) : Bool :=
  if nm = 0 then decide ((tp_me P Q 2 = 0 ∧ tp_me P Q 5 = 0) ∧ (tp_me P Q 6 = 0 ∧ tp_me P Q 7 = 0)) else
  if nm = 1 then decide (tp_me P Q 0 = 0 ∧ tp_me P Q 1 = 0 ∧ tp_me P Q 3 = 0 ∧ tp_me P Q 4 = 0) else
  if nm = 2 then decide (¬ (tp_me P Q 0 = 0 ∧ tp_me P Q 1 = 0 ∧ tp_me P Q 3 = 0 ∧ tp_me P Q 4 = 0) ∧ tp_me P Q 0 = 0) else
  if nm = 3 then decide (tp_me P Q 0 ≠ 0 ∧ (tp_me P Q 2 = 0 ∧ tp_me P Q 5 = 0)) else
  if nm = 4 then decide (tp_me P Q 6 = 0 ∧ tp_me P Q 7 = 0) else
  if nm = 5 then decide (tp_me P Q 0 ≠ 0 ∧ tp_me P Q 2 ≠ 0 ∧ tp_me P Q 0 ≠ tp_mx k1 k2) else
  decide (k1 = k2 ∧ tp_me P Q 0 = k1 ∧ tp_me P Q 2 ≠ 0 ∧ tp_me P Q 6 ≠ 0)
/-- the nearest so far: (12, 1000) if none -/
def tp_ns (ok : Nat → Bool) (D : Nat → Nat) : Nat → Nat × Nat
  | 0 => (12, 1000)
  | e + 1 => if ok e = true ∧ D e < (tp_ns ok D e).2 then (e, D e) else tp_ns ok D e
/-- the window's answer from slot s on, f found so far -/
def tp_iw (wd : Nat → Bool) (k : Int32) : Nat → Nat → Nat → Int32
  | 0, _, _ => -7
  | d + 1, s, f => if wd s = true then (if nI f = k then nI s else tp_iw wd k d (s + 1) (f + 1)) else tp_iw wd k d (s + 1) f
end
section
theorem tp_fl_t {g : Nat → Bool} {l : Nat → Nat} {n c : Nat} : tp_fl g l n c = true ↔ g c = true ∨ (tp_dm c = 2 ∧ 1 ≤ l c ∧ l c ≤ n ∧ tp_hl l (l c) 289 = true) := by
  unfold tp_fl
  simp only [Bool.or_eq_true, Bool.and_eq_true, decide_eq_true_eq, and_assoc]
theorem tp_lb_q {h : Nat → Bool} {e c : Nat} (ht : tp_op h e e = true) : (tp_lb h (e + 1)).1 c = (tp_lb h e).2 + 1 ↔ tp_rc (tp_op h e) e c := by
  by_cases hr : tp_rc (tp_op h e) e c
  · exact ⟨fun _ => hr, fun _ => tp_lb_y ht hr⟩
  · rw [tp_lb_o ht hr]
    have := tp_lb_le h e c
    exact ⟨fun z => absurd z (by omega), fun z => absurd z hr⟩
theorem tp_hl_k {h : Nat → Bool} {e k : Nat} (he : e < 289) (h1 : 1 ≤ k) (hk : k ≤ (tp_lb h e).2) : tp_hl (tp_lb h (e + 1)).1 k 289 = tp_hl (tp_lb h e).1 k 289 := tp_hl_c 289 (fun c _ => tp_lb_k he h1 hk)
theorem tp_fl_y {g h : Nat → Bool} {e c : Nat} (he : e < 289) (ht : tp_op h e e = true) (hh : tp_hl (tp_lb h (e + 1)).1 ((tp_lb h e).2 + 1) 289 = true) : tp_fl g (tp_lb h (e + 1)).1 ((tp_lb h e).2 + 1) c = true ↔ tp_fl g (tp_lb h e).1 (tp_lb h e).2 c = true ∨ (tp_rc (tp_op h e) e c ∧ tp_dm c = 2) := by
  rw [tp_fl_t, tp_fl_t]
  by_cases hr : tp_rc (tp_op h e) e c
  · have h0 := (tp_op_t.mp (tp_rc_h ht he hr).1).2
    rw [tp_lb_y ht hr, h0]
    refine ⟨?_, ?_⟩
    · rintro (z | z)
      · exact Or.inl (Or.inl z)
      · exact Or.inr ⟨hr, z.1⟩
    · rintro ((z | z) | z)
      · exact Or.inl z
      · exact absurd z.2.1 (by omega)
      · exact Or.inr ⟨z.2, by omega, by omega, hh⟩
  · rw [tp_lb_o ht hr]
    have hl := tp_lb_le h e c
    refine ⟨?_, ?_⟩
    · rintro (z | ⟨z1, z2, z3, z4⟩)
      · exact Or.inl (Or.inl z)
      · rw [tp_hl_k he z2 hl] at z4
        exact Or.inl (Or.inr ⟨z1, z2, hl, z4⟩)
    · rintro ((z | ⟨z1, z2, z3, z4⟩) | z)
      · exact Or.inl z
      · rw [← tp_hl_k he z2 hl] at z4
        exact Or.inr ⟨z1, z2, by omega, z4⟩
      · exact absurd z.1 hr
theorem tp_fl_x {g h : Nat → Bool} {e c : Nat} (he : e < 289) (ht : tp_op h e e = true) (hh : tp_hl (tp_lb h (e + 1)).1 ((tp_lb h e).2 + 1) 289 = false) : tp_fl g (tp_lb h (e + 1)).1 ((tp_lb h e).2 + 1) c = tp_fl g (tp_lb h e).1 (tp_lb h e).2 c := by
  rw [Bool.eq_iff_iff, tp_fl_t, tp_fl_t]
  by_cases hr : tp_rc (tp_op h e) e c
  · have h0 := (tp_op_t.mp (tp_rc_h ht he hr).1).2
    rw [tp_lb_y ht hr, h0, hh]
    refine ⟨?_, ?_⟩
    · rintro (z | z)
      · exact Or.inl z
      · exact nomatch z.2.2.2
    · rintro (z | z)
      · exact Or.inl z
      · exact absurd z.2.1 (by omega)
  · rw [tp_lb_o ht hr]
    have hl := tp_lb_le h e c
    refine ⟨?_, ?_⟩
    · rintro (z | ⟨z1, z2, z3, z4⟩)
      · exact Or.inl z
      · rw [tp_hl_k he z2 hl] at z4
        exact Or.inr ⟨z1, z2, hl, z4⟩
    · rintro (z | ⟨z1, z2, z3, z4⟩)
      · exact Or.inl z
      · rw [← tp_hl_k he z2 hl] at z4
        exact Or.inr ⟨z1, z2, by omega, z4⟩
theorem tp_fl_0 {g : Nat → Bool} {l : Nat → Nat} (c : Nat) : tp_fl g l 0 c = g c := by
  rw [Bool.eq_iff_iff, tp_fl_t]
  refine ⟨?_, Or.inl⟩
  rintro (z | z)
  · exact z
  · exact absurd z.2.1 (by omega)
theorem tp_fl_s {g : Nat → Bool} {l : Nat → Nat} {k c : Nat} : tp_fl g l (k + 1) c = true ↔ tp_fl g l k c = true ∨ (tp_hl l (k + 1) 289 = true ∧ l c = k + 1 ∧ tp_dm c = 2) := by
  rw [tp_fl_t, tp_fl_t]
  refine ⟨?_, ?_⟩
  · rintro (z | ⟨z1, z2, z3, z4⟩)
    · exact Or.inl (Or.inl z)
    · by_cases e : l c = k + 1
      · rw [e] at z4
        exact Or.inr ⟨z4, e, z1⟩
      · exact Or.inl (Or.inr ⟨z1, z2, by omega, z4⟩)
  · rintro ((z | ⟨z1, z2, z3, z4⟩) | ⟨z1, z2, z3⟩)
    · exact Or.inl z
    · exact Or.inr ⟨z1, z2, by omega, z4⟩
    · refine Or.inr ⟨z3, by omega, by omega, ?_⟩
      rw [z2]
      exact z1
theorem tp_bd_h {h : Nat → Bool} {e : Nat} (he : e < 289) (ht : tp_op h e e = true) : tp_hl (tp_lb h (e + 1)).1 ((tp_lb h e).2 + 1) 289 = false ↔ ∃ c, tp_rc (tp_op h e) e c ∧ tp_bd c = true := by
  rw [← Bool.not_eq_true, tp_hl_t]
  refine ⟨fun z => ?_, ?_⟩
  · by_cases hx : ∃ c, tp_rc (tp_op h e) e c ∧ tp_bd c = true
    · exact hx
    · refine absurd (fun c _ ec => ?_) z
      cases hb : tp_bd c with
      | false => rfl
      | true => exact absurd ⟨c, (tp_lb_q ht).mp ec, hb⟩ hx
  · rintro ⟨c, hr, hb⟩ z
    have := z c (tp_rc_h ht he hr).2 ((tp_lb_q ht).mpr hr)
    rw [hb] at this
    exact nomatch this
/-- the unvisited elements after a walk -/
theorem tp_op_s {h : Nat → Bool} {e c : Nat} (ht : tp_op h e e = true) : tp_op h (e + 1) c = true ↔ tp_op h e c = true ∧ ¬ tp_rc (tp_op h e) e c := by
  rw [tp_op_t, tp_op_t]
  by_cases hr : tp_rc (tp_op h e) e c
  · rw [tp_lb_y ht hr]
    exact ⟨fun z => absurd z.2 (by omega), fun z => absurd hr z.2⟩
  · rw [tp_lb_o ht hr]
    exact ⟨fun z => ⟨z, hr⟩, fun z => z.1⟩
theorem tp_op_n {h : Nat → Bool} {e c : Nat} (ht : ¬ tp_op h e e = true) : tp_op h (e + 1) c = tp_op h e c := by
  unfold tp_op
  rw [tp_lb_n ht]
theorem tp_op_0 (h : Nat → Bool) (c : Nat) : tp_op h 0 c = h c := by
  unfold tp_op tp_lb
  simp
theorem tp_hc_s {h : Nat → Bool} {e : Nat} (he : e < 289) (ht : tp_op h e e = true) : tp_hc (tp_lb h (e + 1)).1 (tp_lb h (e + 1)).2 = if tp_hl (tp_lb h (e + 1)).1 ((tp_lb h e).2 + 1) 289 = true then tp_hc (tp_lb h e).1 (tp_lb h e).2 + 1 else tp_hc (tp_lb h e).1 (tp_lb h e).2 := by
  rw [tp_lb_2 ht]
  have := @tp_hc_k h e he
  unfold tp_hc at this ⊢
  rw [tp_cnt, this]
/-- meetings of bodies -/
theorem tp_me_z {P Q : Nat → Nat} {p : Nat} (h8 : p ≠ 8) : ¬ tp_me P Q p = 0 ↔ ∃ c, c < 289 ∧ P c = p / 3 ∧ Q c = p % 3 := by
  unfold tp_me
  rw [if_neg h8]
  exact tp_mt_z
theorem tp_bo1 (P Q : Nat → Nat) : (∃ c, c < 289 ∧ P c < 2 ∧ Q c = 2) ↔ ¬ (tp_me P Q 2 = 0 ∧ tp_me P Q 5 = 0) := by
  have h2 := @tp_me_z P Q 2 (by decide)
  have h5 := @tp_me_z P Q 5 (by decide)
  refine ⟨?_, fun z => ?_⟩
  · rintro ⟨c, hc, h1, h3⟩ ⟨z1, z2⟩
    by_cases e : P c = 0
    · exact h2.mpr ⟨c, hc, e, h3⟩ z1
    · exact h5.mpr ⟨c, hc, (by omega : P c = 1), h3⟩ z2
  · by_cases e : tp_me P Q 2 = 0
    · obtain ⟨c, hc, h1, h3⟩ := h5.mp (fun e5 => z ⟨e, e5⟩)
      exact ⟨c, hc, by omega, by omega⟩
    · obtain ⟨c, hc, h1, h3⟩ := h2.mp e
      exact ⟨c, hc, by omega, by omega⟩
theorem tp_bo2 (P Q : Nat → Nat) : (∃ c, c < 289 ∧ Q c < 2 ∧ P c = 2) ↔ ¬ (tp_me P Q 6 = 0 ∧ tp_me P Q 7 = 0) := by
  have h2 := @tp_me_z P Q 6 (by decide)
  have h5 := @tp_me_z P Q 7 (by decide)
  refine ⟨?_, fun z => ?_⟩
  · rintro ⟨c, hc, h1, h3⟩ ⟨z1, z2⟩
    by_cases e : Q c = 0
    · exact h2.mpr ⟨c, hc, h3, e⟩ z1
    · exact h5.mpr ⟨c, hc, h3, (by omega : Q c = 1)⟩ z2
  · by_cases e : tp_me P Q 6 = 0
    · obtain ⟨c, hc, h1, h3⟩ := h5.mp (fun e5 => z ⟨e, e5⟩)
      exact ⟨c, hc, by omega, by omega⟩
    · obtain ⟨c, hc, h1, h3⟩ := h2.mp e
      exact ⟨c, hc, by omega, by omega⟩
theorem tp_bm (P Q : Nat → Nat) : (∃ c, c < 289 ∧ P c < 2 ∧ Q c < 2) ↔ ¬ (tp_me P Q 0 = 0 ∧ tp_me P Q 1 = 0 ∧ tp_me P Q 3 = 0 ∧ tp_me P Q 4 = 0) := by
  have h0 := @tp_me_z P Q 0 (by decide)
  have h1 := @tp_me_z P Q 1 (by decide)
  have h3 := @tp_me_z P Q 3 (by decide)
  have h4 := @tp_me_z P Q 4 (by decide)
  refine ⟨?_, fun z => ?_⟩
  · rintro ⟨c, hc, hp, hq⟩ ⟨z0, z1, z3, z4⟩
    by_cases e : P c = 0
    · by_cases f : Q c = 0
      · exact h0.mpr ⟨c, hc, e, f⟩ z0
      · exact h1.mpr ⟨c, hc, e, (by omega : Q c = 1)⟩ z1
    · by_cases f : Q c = 0
      · exact h3.mpr ⟨c, hc, (by omega : P c = 1), f⟩ z3
      · exact h4.mpr ⟨c, hc, (by omega : P c = 1), (by omega : Q c = 1)⟩ z4
  · by_cases e0 : tp_me P Q 0 = 0
    · by_cases e1 : tp_me P Q 1 = 0
      · by_cases e3 : tp_me P Q 3 = 0
        · obtain ⟨c, hc, a, b⟩ := h4.mp (fun e4 => z ⟨e0, e1, e3, e4⟩)
          exact ⟨c, hc, by omega, by omega⟩
        · obtain ⟨c, hc, a, b⟩ := h3.mp e3
          exact ⟨c, hc, by omega, by omega⟩
      · obtain ⟨c, hc, a, b⟩ := h1.mp e1
        exact ⟨c, hc, by omega, by omega⟩
    · obtain ⟨c, hc, a, b⟩ := h0.mp e0
      exact ⟨c, hc, by omega, by omega⟩
/-- insides meet in no more than the lesser kind -/
theorem tp_me_k {k1 k2 : Nat} {g1 g2 : Nat → Bool} (H1 : tp_Ok k1 g1) (H2 : tp_Ok k2 g2) : tp_me (fun c => tp_pt k1 g1 (c / 17) (c % 17)) (fun c => tp_pt k2 g2 (c / 17) (c % 17)) 0 ≤ tp_mx k1 k2 := by
  have h : tp_me (fun c => tp_pt k1 g1 (c / 17) (c % 17)) (fun c => tp_pt k2 g2 (c / 17) (c % 17)) 0 ≤ k1 := by
    unfold tp_me
    rw [if_neg (by decide)]
    exact tp_mt_b (by omega) 289 (fun c _ e _ => tp_in_dm H1 e)
  unfold tp_mx
  split <;> omega
end
section
/-- neighbour number d of a: in the reference's order -/
def tp_nd (a d b : Nat) : Prop := (d = 0 ∧ b / 17 = a / 17 + 1 ∧ b % 17 = a % 17) ∨ (d = 1 ∧ b / 17 + 1 = a / 17 ∧ b % 17 = a % 17) ∨ (d = 2 ∧ b / 17 = a / 17 ∧ b % 17 = a % 17 + 1) ∨ (d = 3 ∧ b / 17 = a / 17 ∧ b % 17 + 1 = a % 17)
theorem tp_nd_nb {a d b : Nat} (h : tp_nd a d b) : tp_nb a b := by
  unfold tp_nd at h
  unfold tp_nb
  omega
theorem tp_nb_nd {a b : Nat} (h : tp_nb a b) : ∃ d, d < 4 ∧ tp_nd a d b := by
  unfold tp_nb at h
  unfold tp_nd
  rcases h with h | h | h | h
  · exact ⟨0, by omega, Or.inl ⟨rfl, h⟩⟩
  · exact ⟨1, by omega, Or.inr (Or.inl ⟨rfl, h⟩)⟩
  · exact ⟨2, by omega, Or.inr (Or.inr (Or.inl ⟨rfl, h⟩))⟩
  · exact ⟨3, by omega, Or.inr (Or.inr (Or.inr ⟨rfl, h⟩))⟩
theorem tp_nd_u {a d b b' : Nat} (h : tp_nd a d b) (h' : tp_nd a d b') : b = b' := by
  unfold tp_nd at h h'
  omega
/-- the walk's state while the n-th of the queue is looked at: the neighbours with D are done -/
def tp_S (H : Nat → Bool) (s n a : Nat) (D : Nat → Prop) (U : Nat → Bool) (q : Nat → Nat) (L : Nat) : Prop :=
  tp_Q H s U q L ∧ tp_C U q n ∧ n < L ∧ q n = a ∧ (∃ p, p < L ∧ q p = s) ∧ ∀ d b, D d → b < 289 → tp_nd a d b → U b = false
theorem tp_S_y {H : Nat → Bool} {s n a d b : Nat} {D D' : Nat → Prop} {U : Nat → Bool} {q : Nat → Nat} {L : Nat} (h : tp_S H s n a D U q L) (hb : b < 289) (hn : tp_nd a d b) (hU : U b = true) (e : ∀ x, D' x → D x ∨ x = d) : tp_S H s n a D' (tp_u U b false) (tp_v q L b) (L + 1) := by
  obtain ⟨hQ, hC, hL, ha, ⟨p, hp, es⟩, hD⟩ := h
  have hH := ((hQ.2.1 b hb).mp hU).1
  have hr : tp_rc H s a := by
    rw [← ha]
    exact (hQ.1 n hL).2
  refine ⟨tp_Q_s hQ hb hU (tp_rc_s hr (tp_nd_nb hn) hb hH), tp_C_s hC (by omega), by omega, ?_, ⟨p, by omega, ?_⟩, ?_⟩
  · rw [tp_v_n (by omega)]
    exact ha
  · rw [tp_v_n (by omega)]
    exact es
  · intro x c hx hc hnd
    by_cases ec : c = b
    · subst ec
      exact tp_u_s U c false
    · rw [tp_u_n ec]
      rcases e x hx with z | z
      · exact hD x c z hc hnd
      · subst z
        exact absurd (tp_nd_u hnd hn) ec
theorem tp_S_n {H : Nat → Bool} {s n a d : Nat} {D D' : Nat → Prop} {U : Nat → Bool} {q : Nat → Nat} {L : Nat} (h : tp_S H s n a D U q L) (hn : ∀ b, b < 289 → tp_nd a d b → U b = false) (e : ∀ x, D' x → D x ∨ x = d) : tp_S H s n a D' U q L := by
  obtain ⟨hQ, hC, hL, ha, hs, hD⟩ := h
  refine ⟨hQ, hC, hL, ha, hs, ?_⟩
  intro x c hx hc hnd
  rcases e x hx with z | z
  · exact hD x c z hc hnd
  · subst z
    exact hn c hc hnd
theorem tp_S_0 {H : Nat → Bool} {s n : Nat} {U : Nat → Bool} {q : Nat → Nat} {L : Nat} (hQ : tp_Q H s U q L) (hC : tp_C U q n) (hL : n < L) (hs : ∃ p, p < L ∧ q p = s) : tp_S H s n (q n) (fun _ => False) U q L := ⟨hQ, hC, hL, rfl, hs, fun _ _ z => z.elim⟩
theorem tp_S_e {H : Nat → Bool} {s n a : Nat} {D : Nat → Prop} {U : Nat → Bool} {q : Nat → Nat} {L : Nat} (h : tp_S H s n a D U q L) (hD : ∀ d, d < 4 → D d) : tp_C U q (n + 1) := by
  intro p hp b hb hnb
  by_cases e : p = n
  · subst e
    rw [h.2.2.2.1] at hnb
    obtain ⟨d, hd, hnd⟩ := tp_nb_nd hnb
    exact h.2.2.2.2.2 d b (hD d hd) hb hnd
  · exact h.2.1 p (by omega) b hb hnb
/-- the walk's first step -/
theorem tp_Q_1 {H : Nat → Bool} {s : Nat} (q : Nat → Nat) (hs : s < 289) (hH : H s = true) : tp_Q H s (tp_u H s false) (tp_v q 0 s) 1 := tp_Q_s (tp_Q_0 H s q) hs hH (tp_rc_0 H s)
theorem tp_Q_1s (q : Nat → Nat) (s : Nat) : ∃ p, p < 1 ∧ tp_v q 0 s p = s := ⟨0, by omega, tp_v_s q 0 s⟩
theorem tp_C_0 (U : Nat → Bool) (q : Nat → Nat) : tp_C U q 0 := fun p hp => absurd hp (by omega)
end
section
theorem tp_br {b : Bool} {A B : Prop} (h0 : b = false → A) (h1 : b = true → B) : (tp_b b = 0 → A) ∧ (¬ tp_b b = 0 → B) := ⟨fun h => h0 ((tp_b_0 b).mp h), fun h => h1 ((tp_b_1 b).mp h)⟩
theorem tp_p0 {b : Bool} {post : Int32 → Prop} (h : post (tp_b b)) (e : b = false) : post 0 := by
  rw [e] at h
  exact h
theorem tp_p1 {b : Bool} {post : Int32 → Prop} (h : post (tp_b b)) (e : b = true) : post 1 := by
  rw [e] at h
  exact h
theorem tp_rfl (n : Nat) : nI n ≤ nI n := Int32.le_refl _
theorem tp_nat {x : Int32} {n : Nat} (h0 : 0 ≤ x.toInt) (h1 : x.toInt ≤ n) : ∃ i : Nat, i ≤ n ∧ x = nI i := by
  have hx : ¬ x < 0 := by
    rw [Int32.lt_iff_toInt_lt, show (0 : Int32).toInt = 0 from rfl]
    omega
  obtain ⟨j, hj, rfl⟩ := nI_of hx
  rw [nI_toInt hj] at h1
  exact ⟨j, by omega, rfl⟩
theorem tp_nar (b : Bool) : vp_nar .boolean (tp_b b) = tp_b b := by cases b <;> rfl
theorem tp_nar0 : vp_nar .boolean 0 = tp_b false := by rfl
theorem tp_nar1 : vp_nar .boolean 1 = tp_b true := by rfl
theorem tp_nab (b : Bool) : narrow .boolean (.int (tp_b b)) = .int (tp_b b) := by cases b <;> rfl
theorem tp_ix1 (s c : Nat) : nI s * 289 + nI c = nI (289 * s + c) := by
  rw [show (289 : Int32) = nI 289 from rfl, pk_mul, nI_add]
  exact congrArg nI (by omega)
theorem tp_ix2 (s i j : Nat) : nI s * 289 + nI i * 17 + nI j = nI (289 * s + (17 * i + j)) := by
  rw [show (289 : Int32) = nI 289 from rfl, show (17 : Int32) = nI 17 from rfl, pk_mul, pk_mul, nI_add, nI_add]
  exact congrArg nI (by omega)
theorem tp_iy1 (s c : Nat) : 289 * nI s + nI c = nI (289 * s + c) := by
  rw [show (289 : Int32) = nI 289 from rfl, pk_mul, nI_add]
theorem tp_iy2 (s i j : Nat) : 289 * nI s + 17 * nI i + nI j = nI (289 * s + (17 * i + j)) := by
  rw [show (289 : Int32) = nI 289 from rfl, show (17 : Int32) = nI 17 from rfl, pk_mul, pk_mul, nI_add, nI_add]
  exact congrArg nI (by omega)
theorem tp_i17 (i j : Nat) : nI i * 17 + nI j = nI (17 * i + j) := by
  rw [show (17 : Int32) = nI 17 from rfl, pk_mul, nI_add]
  exact congrArg nI (by omega)
theorem tp_j17 (i j : Nat) : 17 * nI i + nI j = nI (17 * i + j) := by
  rw [show (17 : Int32) = nI 17 from rfl, pk_mul, nI_add]
theorem tp_t2 (i : Nat) : 2 * nI i = nI (2 * i) := by
  rw [show (2 : Int32) = nI 2 from rfl, pk_mul]
theorem tp_d17 {c : Nat} (h : c < 2 ^ 31) : nI c / 17 = nI (c / 17) := pk_div (d := 17) h (by decide) (by decide)
theorem tp_r17 {c : Nat} (h : c < 2 ^ 31) : nI c - nI c / 17 * 17 = nI (c % 17) := pk_rem (d := 17) h (by decide) (by decide)
theorem tp_d9 {c : Nat} (h : c < 2 ^ 31) : nI c / 9 = nI (c / 9) := pk_div (d := 9) h (by decide) (by decide)
theorem tp_r9 {c : Nat} (h : c < 2 ^ 31) : nI c - nI c / 9 * 9 = nI (c % 9) := pk_rem (d := 9) h (by decide) (by decide)
theorem tp_d3 {c : Nat} (h : c < 2 ^ 31) : nI c / 3 = nI (c / 3) := pk_div (d := 3) h (by decide) (by decide)
theorem tp_r3 {c : Nat} (h : c < 2 ^ 31) : nI c - nI c / 3 * 3 = nI (c % 3) := pk_rem (d := 3) h (by decide) (by decide)
theorem tp_d12 {c : Nat} (h : c < 2 ^ 31) : nI c / 12 = nI (c / 12) := pk_div (d := 12) h (by decide) (by decide)
theorem tp_r12 {c : Nat} (h : c < 2 ^ 31) : nI c - nI c / 12 * 12 = nI (c % 12) := pk_rem (d := 12) h (by decide) (by decide)
theorem tp_r2 {c : Nat} (h : c < 2 ^ 31) : nI c - nI c / 2 * 2 = nI (c % 2) := pk_rem (d := 2) h (by decide) (by decide)
theorem tp_a1 {c : Nat} (h : c < 2 ^ 31) : nI c &&& 1 = nI (c % 2) := pk_andN (by omega) (m := 1) 1 (by decide)
theorem tp_m1 {a : Nat} (h : a < 2 ^ 30) : (nI a - 1).toInt = (a : Int) - 1 := pk_sub_toInt (b := 1) h (by decide)
theorem tp_q1 {a : Nat} (h : a < 2 ^ 30) : (nI a + 1).toInt = (a : Int) + 1 := by
  rw [nI_1, nI_toInt (by omega)]
  omega
theorem tp_0i {a : Nat} (h : a < 2 ^ 30) : (nI a).toInt = (a : Int) := nI_toInt (by omega)
theorem tp_bn (b : Bool) : tp_b b = nI b.toNat := by cases b <;> rfl
theorem tp_b4 (a b c d : Bool) : tp_b a + tp_b b + tp_b c + tp_b d = nI (a.toNat + b.toNat + c.toNat + d.toNat) := by
  rw [tp_bn, tp_bn, tp_bn, tp_bn, nI_add, nI_add, nI_add]
theorem tp_b4l (a b c d : Bool) : a.toNat + b.toNat + c.toNat + d.toNat ≤ 4 := by
  revert a b c d
  decide
theorem tp_9 : ¬ (9 : Int32) = 0 := by decide
theorem tp_17 : ¬ (17 : Int32) = 0 := by decide
theorem tp_2 : ¬ (2 : Int32) = 0 := by decide
theorem tp_3 : ¬ (3 : Int32) = 0 := by decide
theorem tp_12 : ¬ (12 : Int32) = 0 := by decide
theorem tp_bo {i : Nat} {A B : Prop} (hi : i < 2 ^ 31) (f : i % 2 = 1 → A) (g : ¬ i % 2 = 1 → B) : ((nI i &&& 1) = 1 → A) ∧ (¬ (nI i &&& 1) = 1 → B) := by
  rw [tp_a1 hi]
  exact pk_eq (i % 2) 1 f g rfl rfl (by omega) (by decide)
theorem tp_uM {M : Nat → Int32} {m : Nat → Bool} (hM : ∀ x, M x = tp_b (m x)) (i : Nat) (b : Bool) : ∀ x, upd M i (tp_b b) x = tp_b (tp_u m i b x) := by
  intro x
  unfold upd tp_u
  split
  · rfl
  · exact hM x
theorem tp_uK {K : Nat → Int32} {k : Nat → Nat} (hK : ∀ x, K x = nI (k x)) (i : Nat) (b : Nat) : ∀ x, upd K i (nI b) x = nI (tp_v k i b x) := by
  intro x
  unfold upd tp_v
  split
  · rfl
  · exact hK x
def tp_g (i j : Int) : Bool := decide (0 ≤ i ∧ i ≤ 16 ∧ 0 ≤ j ∧ j ≤ 16)
theorem tp_g_t {i j : Int} : tp_g i j = true ↔ 0 ≤ i ∧ i ≤ 16 ∧ 0 ≤ j ∧ j ≤ 16 := decide_eq_true_iff
theorem tp_g_f {i j : Int} : tp_g i j = false ↔ ¬ (0 ≤ i ∧ i ≤ 16 ∧ 0 ≤ j ∧ j ≤ 16) := decide_eq_false_iff_not
theorem tp_lt0 {x : Int32} : x < 0 ↔ x.toInt < 0 := by
  rw [Int32.lt_iff_toInt_lt, show (0 : Int32).toInt = 0 from rfl]
theorem tp_leL {x : Int32} {n : Nat} (h : n < 2 ^ 31) : nI n ≤ x ↔ (n : Int) ≤ x.toInt := by
  rw [Int32.le_iff_toInt_le, nI_toInt h]
theorem tp_ltL {x : Int32} {n : Nat} (h : n < 2 ^ 31) : nI n < x ↔ (n : Int) < x.toInt := by
  rw [Int32.lt_iff_toInt_lt, nI_toInt h]
theorem tp_leR {x : Int32} {n : Nat} (h : n < 2 ^ 31) : x ≤ nI n ↔ x.toInt ≤ (n : Int) := by
  rw [Int32.le_iff_toInt_le, nI_toInt h]
/-- a number in a range or not -/
theorem tp_rg (x : Int32) (n : Nat) (hn : n < 2 ^ 31) : (∃ j : Nat, j < n ∧ x = nI j) ∨ (x < 0 ∨ nI n ≤ x) := by
  rcases pk_ix x hn with h | h | h
  · exact Or.inr (Or.inl h)
  · exact Or.inr (Or.inr h)
  · exact Or.inl h
theorem tx_grid {post : Int32 → Prop} {x y : Int32} (h : post (tp_b (tp_g x.toInt y.toInt))) : wpX_isOnGrid post x y := by
  have a1 := @tp_lt0 x
  have a2 := @tp_leL x 17 (by decide)
  have a3 := @tp_lt0 y
  have a4 := @tp_leL y 17 (by decide)
  refine br_c (fun a => tp_p0 h ?_) (fun a => br_c (fun b => tp_p0 h ?_) (fun b => br_c (fun c => tp_p0 h ?_) (fun c => br_c (fun d => tp_p0 h ?_) (fun d => tp_p1 h ?_))))
  · rw [a1] at a
    rw [tp_g_f]
    omega
  · have b := a2.mp b
    rw [tp_g_f]
    omega
  · rw [a3] at c
    rw [tp_g_f]
    omega
  · have d := a4.mp d
    rw [tp_g_f]
    omega
  · rw [a1] at a
    rw [a3] at c
    have b : ¬ ((17 : Nat) : Int) ≤ x.toInt := fun z => b (a2.mpr z)
    have d : ¬ ((17 : Nat) : Int) ≤ y.toInt := fun z => d (a4.mpr z)
    rw [tp_g_t]
    omega
theorem tx_cm {post : Int32 → Prop} {f : Int32} {K S M P T U Q : Nat → Int32} {m : Nat → Bool} (hM : ∀ x, M x = tp_b (m x)) {s : Nat} (hs : s < 12) {x y : Int32} (h : post (tp_b (tp_hs (tp_sl m s) x.toInt y.toInt))) : wpX_countMember post (f, K, S, M, P, T, U, Q) (nI s) x y := by
  unfold wpX_countMember
  dsimp only
  refine tx_grid ?_
  refine tp_br (fun g => ?_) (fun g => ?_)
  · exact tp_p0 h (tp_hs_out _ (tp_g_f.mp g))
  · have g := tp_g_t.mp g
    obtain ⟨i, hi, rfl⟩ := tp_nat (n := 16) g.1 (by omega)
    obtain ⟨j, hj, rfl⟩ := tp_nat (n := 16) g.2.2.1 (by omega)
    rw [tp_0i (by omega), tp_0i (by omega), tp_hs_in _ hi hj] at h
    rw [tp_ix2, nI_clamp (by omega), hM]
    exact ⟨vp_in_nI (by omega) (by decide), tp_br (fun e => tp_p0 h e) (fun e => tp_p1 h e)⟩
theorem tx_dim {post : Int32 → Prop} {i j : Nat} (hi : i < 2 ^ 31) (hj : j < 2 ^ 31) (h : post (nI (i % 2 + j % 2))) : wpX_dimension post (nI i) (nI j) := by
  unfold wpX_dimension
  rw [tp_a1 hi, tp_a1 hj, nI_add]
  exact h
def tp_p3 (n : Nat) : Nat := if n = 0 then 2 else if n = 4 then 0 else 1
theorem tx_fpa62 {post : Int32 → Prop} {f : Int32} {K S M P T U Q : Nat → Int32} {m : Nat → Bool} (hM : ∀ x, M x = tp_b (m x)) {s : Nat} (hs : s < 12) {x4 x5 x6 x7 : Int32} {l r b t : Int} (hl : x4.toInt = l) (hr : x5.toInt = r) (hb : x6.toInt = b) (ht : x7.toInt = t)
    (h : post (nI (tp_p3 ((tp_hs (tp_sl m s) l b).toNat + (tp_hs (tp_sl m s) l t).toNat + (tp_hs (tp_sl m s) r b).toNat + (tp_hs (tp_sl m s) r t).toNat)))) : wX_findPlaceInArea_62 post (nI s) x4 x5 x6 x7 f K S M P T U Q := by
  subst hl hr hb ht
  unfold wX_findPlaceInArea_62
  refine tx_cm hM hs ?_
  refine tx_cm hM hs ?_
  refine tx_cm hM hs ?_
  refine tx_cm hM hs ?_
  refine nm_r (tp_b4 _ _ _ _) ?_
  generalize hn : (tp_hs (tp_sl m s) x4.toInt x6.toInt).toNat + (tp_hs (tp_sl m s) x4.toInt x7.toInt).toNat + (tp_hs (tp_sl m s) x5.toInt x6.toInt).toNat + (tp_hs (tp_sl m s) x5.toInt x7.toInt).toNat = n at h ⊢
  have hn4 : n ≤ 4 := by
    rw [← hn]
    exact tp_b4l _ _ _ _
  unfold tp_p3 at h
  refine pk_eq n 0 (fun e => ?_) (fun e => pk_eq n 4 (fun e2 => ?_) (fun e2 => ?_))
  · rw [if_pos e] at h
    exact h
  · rw [if_neg e, if_pos e2] at h
    exact h
  · rw [if_neg e, if_neg e2] at h
    exact h
theorem tp_L1 {i : Nat} (hi : i < 2 ^ 30) (e : i % 2 = 1) : (nI i).toInt = (if i % 2 = 1 then (i : Int) else i - 1) := by
  rw [if_pos e, tp_0i hi]
theorem tp_L0 {i : Nat} (hi : i < 2 ^ 30) (e : ¬ i % 2 = 1) : (nI i - 1).toInt = (if i % 2 = 1 then (i : Int) else i - 1) := by
  rw [if_neg e, tp_m1 hi]
theorem tp_R1 {i : Nat} (hi : i < 2 ^ 30) (e : i % 2 = 1) : (nI i).toInt = (if i % 2 = 1 then (i : Int) else i + 1) := by
  rw [if_pos e, tp_0i hi]
theorem tp_R0 {i : Nat} (hi : i < 2 ^ 30) (e : ¬ i % 2 = 1) : (nI i + 1).toInt = (if i % 2 = 1 then (i : Int) else i + 1) := by
  rw [if_neg e, tp_q1 hi]
theorem tx_fpa {post : Int32 → Prop} {f : Int32} {K S M P T U Q : Nat → Int32} {m : Nat → Bool} (hM : ∀ x, M x = tp_b (m x)) {s i j : Nat} (hs : s < 12) (hi : i ≤ 16) (hj : j ≤ 16) (h : post (nI (tp_p3 (tp_ar (tp_sl m s) i j)))) : wpX_findPlaceInArea post (f, K, S, M, P, T, U, Q) (nI s) (nI i) (nI j) := by
  have hi' : i < 2 ^ 30 := by omega
  have hj' : j < 2 ^ 30 := by omega
  have hi2 : i < 2 ^ 31 := by omega
  have hj2 : j < 2 ^ 31 := by omega
  refine tp_bo hi2 (fun a => tp_bo hi2 (fun _ => tp_bo hj2 (fun b => tp_bo hj2 (fun _ => ?_) (fun z => absurd b z)) (fun b => tp_bo hj2 (fun z => absurd z b) (fun _ => ?_))) (fun z => absurd a z)) (fun a => tp_bo hi2 (fun z => absurd z a) (fun _ => tp_bo hj2 (fun b => tp_bo hj2 (fun _ => ?_) (fun z => absurd b z)) (fun b => tp_bo hj2 (fun z => absurd z b) (fun _ => ?_))))
  · exact tx_fpa62 hM hs (tp_L1 hi' a) (tp_R1 hi' a) (tp_L1 hj' b) (tp_R1 hj' b) h
  · exact tx_fpa62 hM hs (tp_L1 hi' a) (tp_R1 hi' a) (tp_L0 hj' b) (tp_R0 hj' b) h
  · exact tx_fpa62 hM hs (tp_L0 hi' a) (tp_R0 hi' a) (tp_L1 hj' b) (tp_R1 hj' b) h
  · exact tx_fpa62 hM hs (tp_L0 hi' a) (tp_R0 hi' a) (tp_L0 hj' b) (tp_R0 hj' b) h
theorem tx_fvl {post : Int32 → Prop} {f : Int32} {K S M P T U Q : Nat → Int32} {m : Nat → Bool} (hM : ∀ x, M x = tp_b (m x)) {s i j : Nat} (hs : s < 12) (hi : i ≤ 16) (hj : j ≤ 16) (h : post (nI (if tp_bs (tp_sl m s) i j = 0 then 2 else if tp_bs (tp_sl m s) i j % 2 = 0 then 0 else 1))) : wpX_findVertexPlaceInLine post (f, K, S, M, P, T, U, Q) (nI s) (nI i) (nI j) := by
  unfold wpX_findVertexPlaceInLine
  dsimp only
  refine tx_cm hM hs ?_
  refine tx_cm hM hs ?_
  refine tx_cm hM hs ?_
  refine tx_cm hM hs ?_
  refine nm_r (tp_b4 _ _ _ _) ?_
  have hi' : i < 2 ^ 30 := by omega
  have hj' : j < 2 ^ 30 := by omega
  rw [tp_m1 hi', tp_q1 hi', tp_m1 hj', tp_q1 hj', tp_0i hi', tp_0i hj']
  have hn4 : tp_bs (tp_sl m s) i j ≤ 4 := tp_b4l _ _ _ _
  show (nI (tp_bs (tp_sl m s) i j) = 0 → post 2) ∧ (¬ nI (tp_bs (tp_sl m s) i j) = 0 → (((nI (tp_bs (tp_sl m s) i j) &&& 1) = 0 → post 0) ∧ (¬ (nI (tp_bs (tp_sl m s) i j) &&& 1) = 0 → post 1)))
  generalize tp_bs (tp_sl m s) i j = n at *
  rw [tp_a1 (by omega)]
  refine pk_eq n 0 (fun e => ?_) (fun e => pk_eq (n % 2) 0 (fun e2 => ?_) (fun e2 => ?_))
  · rw [if_pos e] at h
    exact h
  · rw [if_neg e, if_pos e2] at h
    exact h
  · rw [if_neg e, if_neg e2] at h
    exact h
theorem tx_fp44 {post : Int32 → Prop} {f : Int32} {K S M P T U Q : Nat → Int32} {m : Nat → Bool} (hM : ∀ x, M x = tp_b (m x)) {s i j : Nat} (hs : s < 12) (hi : i ≤ 16) (hj : j ≤ 16) (h : post (nI (if tp_hs (tp_sl m s) i j = true then 0 else 2))) : wX_findPlace_44 post (nI s) (nI i) (nI j) f K S M P T U Q := by
  unfold wX_findPlace_44
  refine tx_cm hM hs ?_
  rw [tp_0i (by omega), tp_0i (by omega)]
  cases e : tp_hs (tp_sl m s) i j with
  | false =>
    rw [e] at h
    exact br_f (by decide) h
  | true =>
    rw [e] at h
    exact br_t rfl h
theorem tx_fp {post : Int32 → Prop} {f : Int32} {K S M P T U Q : Nat → Int32} {k : Nat → Nat} {m : Nat → Bool} (hK : ∀ x, K x = nI (k x)) (hM : ∀ x, M x = tp_b (m x)) {s i j : Nat} (hs : s < 12) (hi : i ≤ 16) (hj : j ≤ 16) (hk : k s ≤ 3) (h : post (nI (tp_px (k s) (tp_sl m s) i j))) : wpX_findPlace post (f, K, S, M, P, T, U, Q) (nI s) (nI i) (nI j) := by
  have hi9 : vp_in (nI s) 12 := vp_in_nI hs (by decide)
  unfold tp_px at h
  unfold wpX_findPlace
  dsimp only
  rw [nI_clamp (by omega), hK s]
  refine ⟨hi9, pk_eq (k s) 3 (fun e => ?_) (fun e => ⟨hi9, pk_eq (k s) 2 (fun e2 => ?_) (fun e2 => ?_)⟩)⟩
  · rw [if_pos e] at h
    exact tx_fpa hM hs hi hj h
  · rw [if_neg e] at h
    refine tx_dim (by omega) (by omega) (pk_eq (i % 2 + j % 2) 0 (fun e3 => ?_) (fun e3 => ?_))
    · rw [if_pos ⟨e2, e3⟩] at h
      exact tx_fvl hM hs hi hj h
    · rw [if_neg (fun z => e3 z.2)] at h
      exact tx_fp44 hM hs hi hj h
  · rw [if_neg e, if_neg (fun z => e2 z.1)] at h
    exact tx_fp44 hM hs hi hj h
theorem tx_st73 {post : SX → Prop} {f : Int32} {K S M P T U Q P0 : Nat → Int32} {k : Nat → Nat} {m : Nat → Bool} (hK : ∀ x, K x = nI (k x)) (hM : ∀ x, M x = tp_b (m x)) {s i : Nat} (hs : s < 12) (hi : i < 17) (hk : k s ≤ 3) {J : Int32 → (Nat → Int32) → (Nat → Int32) → (Nat → Int32) → (Nat → Int32) → (Nat → Int32) → (Nat → Int32) → (Nat → Int32) → Prop}
    (h1 : ∀ c, c < 17 * i → P (289 * s + c) = nI (tp_px (k s) (tp_sl m s) (c / 17) (c % 17))) (h2 : ∀ x, (x < 289 * s ∨ 289 * s + 289 ≤ x) → P x = P0 x)
    (h : ∀ P', (∀ c, c < 17 * (i + 1) → P' (289 * s + c) = nI (tp_px (k s) (tp_sl m s) (c / 17) (c % 17))) → (∀ x, (x < 289 * s ∨ 289 * s + 289 ≤ x) → P' x = P0 x) → J (nI (i + 1)) K S M P' T U Q) :
    ∃ n, wX_settle_73 post J (nI s) (nI i) f n 0 K S M P T U Q := by
  refine loop_0 (fun n j p => wX_settle_73 post J (nI s) (nI i) f n (nI j) K S M p T U Q) (fun j p => (∀ c, c < 17 * i + j → p (289 * s + c) = nI (tp_px (k s) (tp_sl m s) (c / 17) (c % 17))) ∧ (∀ x, (x < 289 * s ∨ 289 * s + 289 ≤ x) → p x = P0 x)) 17 P ⟨h1, h2⟩ ?_ ?_
  · intro n p hp
    exact br_t (tp_rfl 17) (nm_r (nI_1 i) (h p hp.1 hp.2))
  · intro n j p hj hp ih
    refine br_f (nI_ge (b := 17) hj (by decide)) (tx_fp hK hM hs (by omega) (by omega) hk ?_)
    rw [tp_ix2, nI_clamp (by omega)]
    refine ⟨vp_in_nI (by omega) (by decide), nm_e (nm_r (nI_1 j) (ih _ ⟨fun c hc => ?_, fun x hx => ?_⟩))⟩
    · by_cases e : c = 17 * i + j
      · subst e
        rw [pk_us, show (17 * i + j) / 17 = i from by omega, show (17 * i + j) % 17 = j from by omega]
      · rw [pk_un (by omega)]
        exact hp.1 c (by omega)
    · rw [pk_un (by omega)]
      exact hp.2 x hx
theorem tx_st63 {post : SX → Prop} {f : Int32} {K S M P T U Q : Nat → Int32} {k : Nat → Nat} {m : Nat → Bool} (hK : ∀ x, K x = nI (k x)) (hM : ∀ x, M x = tp_b (m x)) {s : Nat} (hs : s < 12) (hk : k s ≤ 3)
    (h : ∀ P', (∀ c, c < 289 → P' (289 * s + c) = nI (tp_px (k s) (tp_sl m s) (c / 17) (c % 17))) → (∀ x, (x < 289 * s ∨ 289 * s + 289 ≤ x) → P' x = P x) → post (f, K, S, M, P', T, U, Q)) :
    ∃ n, wX_settle_63 post (nI s) f n 0 K S M P T U Q := by
  refine loop_0 (fun n i p => wX_settle_63 post (nI s) f n (nI i) K S M p T U Q) (fun i p => (∀ c, c < 17 * i → p (289 * s + c) = nI (tp_px (k s) (tp_sl m s) (c / 17) (c % 17))) ∧ (∀ x, (x < 289 * s ∨ 289 * s + 289 ≤ x) → p x = P x)) 17 P ⟨fun c hc => absurd hc (by omega), fun x _ => rfl⟩ ?_ ?_
  · intro n p hp
    exact br_t (tp_rfl 17) (h p hp.1 hp.2)
  · intro n i p hi hp ih
    exact br_f (nI_ge (b := 17) hi (by decide)) (tx_st73 hK hM hs hi hk hp.1 hp.2 (fun p' a b => ih p' ⟨a, b⟩))
/-- settle: the slot's kind, size and parts anew -/
theorem tx_settle {post : SX → Prop} {f : Int32} {K S M P T U Q : Nat → Int32} {k : Nat → Nat} {m : Nat → Bool} (hK : ∀ x, K x = nI (k x)) (hM : ∀ x, M x = tp_b (m x)) {s q : Nat} (hs : s < 12) (hq : q ≤ 3)
    (h : ∀ K' P', (∀ x, K' x = nI (tp_v k s (if tp_cnt (tp_sl m s) 289 = 0 then 0 else q) x)) → (∀ c, c < 289 → P' (289 * s + c) = nI (tp_px (if tp_cnt (tp_sl m s) 289 = 0 then 0 else q) (tp_sl m s) (c / 17) (c % 17))) → (∀ x, (x < 289 * s ∨ 289 * s + 289 ≤ x) → P' x = P x) → post (f, K', upd S s (nI (tp_cnt (tp_sl m s) 289)), M, P', T, U, Q)) :
    wpX_settle post (f, K, S, M, P, T, U, Q) (nI s) (nI q) := by
  have hi9 : vp_in (nI s) 12 := vp_in_nI hs (by decide)
  refine loop_0 (fun n c (x : Nat) => wX_settle_5 post (nI s) (nI q) f K S M P T U Q n (nI x) (nI c)) (fun c x => x = tp_cnt (tp_sl m s) c) 289 0 rfl ?_ ?_
  · intro n x hx
    refine br_t (tp_rfl 289) ⟨hi9, nm_r (congrArg (fun z => upd S z (nI x)) (nI_clamp (by omega))) ?_⟩
    have hl := tp_cnt_le (tp_sl m s) 289
    subst hx
    refine pk_eq (tp_cnt (tp_sl m s) 289) 0 (fun e => ?_) (fun e => ?_)
    · rw [if_pos e] at h
      refine ⟨hi9, nm_r (congrArg (fun z => upd K z 0) (nI_clamp (by omega))) ?_⟩
      refine tx_st63 (k := tp_v k s 0) (fun x => tp_uK hK s 0 x) hM hs (by rw [tp_v_s]; omega) (fun P' a b => h _ P' (fun x => tp_uK hK s 0 x) (fun c hc => ?_) b)
      have := a c hc
      rw [tp_v_s] at this
      exact this
    · rw [if_neg e] at h
      refine ⟨hi9, nm_r (congrArg (fun z => upd K z (nI q)) (nI_clamp (by omega))) ?_⟩
      refine tx_st63 (k := tp_v k s q) (fun x => tp_uK hK s q x) hM hs (by rw [tp_v_s]; exact hq) (fun P' a b => h _ P' (fun x => tp_uK hK s q x) (fun c hc => ?_) b)
      have := a c hc
      rw [tp_v_s] at this
      exact this
  · intro n c x hc hx ih
    refine br_f (nI_ge (b := 289) hc (by decide)) ?_
    rw [tp_ix1, nI_clamp (by omega), hM]
    refine ⟨vp_in_nI (by omega) (by decide), tp_br (fun e => nm_r (nI_1 c) (ih x ?_)) (fun e => nm_r (nI_1 x) (nm_r (nI_1 c) (ih (x + 1) ?_)))⟩
    · rw [hx, tp_cnt, if_neg]
      exact fun z => by
        have : m (289 * s + c) = true := z
        rw [e] at this
        exact nomatch this
    · rw [hx, tp_cnt, if_pos]
      exact e
end
section
theorem tp_ry {A B C : Prop} {s n : Nat} (hs : s < n) (hn : n < 2 ^ 31) (h : B) : (nI s < 0 → A) ∧ (¬ nI s < 0 → ((nI n ≤ nI s → C) ∧ (¬ nI n ≤ nI s → B))) := br_f (nI_pos (by omega)) (br_f (nI_ge hs hn) h)
theorem tp_rn {A B C : Prop} {x : Int32} {n : Nat} (hx : x < 0 ∨ nI n ≤ x) (a : A) (c : C) : (x < 0 → A) ∧ (¬ x < 0 → ((nI n ≤ x → C) ∧ (¬ nI n ≤ x → B))) := by
  by_cases h : x < 0
  · exact br_t h a
  · exact br_f h (br_t (hx.resolve_left h) c)
theorem tp_ryl {A B C : Prop} {s n : Nat} (hs : s ≤ n) (hn : n < 2 ^ 31) (h : B) : (nI s < 0 → A) ∧ (¬ nI s < 0 → ((nI n < nI s → C) ∧ (¬ nI n < nI s → B))) := br_f (nI_pos (by omega)) (br_f (nI_nlt hs hn) h)
theorem tp_rnl {A B C : Prop} {x : Int32} {n : Nat} (hx : x < 0 ∨ nI (n + 1) ≤ x) (hn : n + 1 < 2 ^ 31) (a : A) (c : C) : (x < 0 → A) ∧ (¬ x < 0 → ((nI n < x → C) ∧ (¬ nI n < x → B))) := by
  by_cases h : x < 0
  · exact br_t h a
  · refine br_f h (br_t ?_ c)
    have := (tp_leL hn).mp (hx.resolve_left h)
    rw [tp_ltL (by omega)]
    omega
theorem tx_slot_y {post : Int32 → Prop} {s : Nat} (hs : s < 12) (h : post 1) : wpX_isSlot post (nI s) := tp_ry (n := 12) hs (by decide) h
theorem tx_slot_n {post : Int32 → Prop} {x : Int32} (hx : x < 0 ∨ nI 12 ≤ x) (h : post 0) : wpX_isSlot post x := tp_rn (n := 12) hx h h
theorem tx_vert_y {post : Int32 → Prop} {s : Nat} (hs : s < 81) (h : post 1) : wpX_isVertex post (nI s) := tp_ry (n := 81) hs (by decide) h
theorem tx_vert_n {post : Int32 → Prop} {x : Int32} (hx : x < 0 ∨ nI 81 ≤ x) (h : post 0) : wpX_isVertex post x := tp_rn (n := 81) hx h h
theorem tx_name_y {post : Int32 → Prop} {s : Nat} (hs : s < 7) (h : post 1) : wpX_isName post (nI s) := tp_ry (n := 7) hs (by decide) h
theorem tx_name_n {post : Int32 → Prop} {x : Int32} (hx : x < 0 ∨ nI 7 ≤ x) (h : post 0) : wpX_isName post x := tp_rn (n := 7) hx h h
section
variable {post : Int32 → Prop} {K M H A B p q : Nat → Int32}
theorem ty_slot_y {s : Nat} (hs : s < 12) (h : post 1) : wpY_isSlot post (K, M, H, A, B, p, q) (nI s) := tp_ryl (n := 11) (by omega) (by decide) h
theorem ty_slot_n {x : Int32} (hx : x < 0 ∨ nI 12 ≤ x) (h : post 0) : wpY_isSlot post (K, M, H, A, B, p, q) x := tp_rnl (n := 11) hx (by decide) h h
theorem ty_vert_y {s : Nat} (hs : s < 81) (h : post 1) : wpY_isVertex post (K, M, H, A, B, p, q) (nI s) := tp_ryl (n := 80) (by omega) (by decide) h
theorem ty_vert_n {x : Int32} (hx : x < 0 ∨ nI 81 ≤ x) (h : post 0) : wpY_isVertex post (K, M, H, A, B, p, q) x := tp_rnl (n := 80) hx (by decide) h h
theorem ty_has {m : Nat → Bool} (hM : ∀ x, M x = tp_b (m x)) {s : Nat} (hs : s < 12) {x y : Int32} (h : post (tp_b (tp_hs (tp_sl m s) x.toInt y.toInt))) : wpY_has post (K, M, H, A, B, p, q) (nI s) x y := by
  have a1 := @tp_lt0 x
  have a2 := @tp_ltL x 16 (by decide)
  have a3 := @tp_lt0 y
  have a4 := @tp_ltL y 16 (by decide)
  refine br_c (fun a => tp_p0 h (tp_hs_out _ ?_)) (fun a => br_c (fun b => tp_p0 h (tp_hs_out _ ?_)) (fun b => br_c (fun c => tp_p0 h (tp_hs_out _ ?_)) (fun c => br_c (fun d => tp_p0 h (tp_hs_out _ ?_)) (fun d => ?_))))
  · rw [a1] at a
    omega
  · have b := a2.mp b
    omega
  · rw [a3] at c
    omega
  · have d := a4.mp d
    omega
  · rw [a1] at a
    rw [a3] at c
    have b : ¬ ((16 : Nat) : Int) < x.toInt := fun z => b (a2.mpr z)
    have d : ¬ ((16 : Nat) : Int) < y.toInt := fun z => d (a4.mpr z)
    obtain ⟨i, hi, rfl⟩ := tp_nat (x := x) (n := 16) (by omega) (by omega)
    obtain ⟨j, hj, rfl⟩ := tp_nat (x := y) (n := 16) (by omega) (by omega)
    rw [tp_0i (by omega), tp_0i (by omega), tp_hs_in _ hi hj] at h
    rw [tp_iy2, nI_clamp (by omega), hM]
    exact ⟨vp_in_nI (by omega) (by decide), tp_br (fun e => tp_p0 h e) (fun e => tp_p1 h e)⟩
theorem tp_z0 {b : Bool} {n : Nat} {P : Int32 → Prop} (h : P (nI (n + b.toNat))) (e : b = false) : P (nI n) := by
  rw [e] at h
  exact h
theorem tp_z1 {b : Bool} {n : Nat} {P : Int32 → Prop} (h : P (nI (n + b.toNat))) (e : b = true) : P (nI n + 1) := by
  rw [e] at h
  rw [nI_1]
  exact h
theorem ty_bes63 {m : Nat → Bool} (hM : ∀ x, M x = tp_b (m x)) {s i j n : Nat} (hs : s < 12) (hi : i < 2 ^ 30) (hj : j < 2 ^ 30) (h : post (nI (n + (tp_hs (tp_sl m s) i (j + 1)).toNat))) : wY_besides_63 post (nI s) (nI i) (nI j) (nI n) K M H A B p q := by
  unfold wY_besides_63
  refine ty_has hM hs ?_
  rw [tp_0i hi, tp_q1 hj]
  exact tp_br (tp_z0 h) (tp_z1 h)
theorem ty_bes40 {m : Nat → Bool} (hM : ∀ x, M x = tp_b (m x)) {s i j n : Nat} (hs : s < 12) (hi : i < 2 ^ 30) (hj : j < 2 ^ 30) (h : post (nI (n + (tp_hs (tp_sl m s) i (j - 1)).toNat + (tp_hs (tp_sl m s) i (j + 1)).toNat))) : wY_besides_40 post (nI s) (nI i) (nI j) (nI n) K M H A B p q := by
  unfold wY_besides_40
  refine ty_has hM hs ?_
  rw [tp_0i hi, tp_m1 hj]
  have h' := ty_bes63 (post := post) (K := K) (H := H) (A := A) (B := B) (p := p) (q := q) hM hs hi hj h
  exact tp_br (tp_z0 (P := fun z => wY_besides_63 post (nI s) (nI i) (nI j) z K M H A B p q) h') (tp_z1 (P := fun z => wY_besides_63 post (nI s) (nI i) (nI j) z K M H A B p q) h')
theorem ty_bes17 {m : Nat → Bool} (hM : ∀ x, M x = tp_b (m x)) {s i j n : Nat} (hs : s < 12) (hi : i < 2 ^ 30) (hj : j < 2 ^ 30) (h : post (nI (n + (tp_hs (tp_sl m s) (i + 1) j).toNat + (tp_hs (tp_sl m s) i (j - 1)).toNat + (tp_hs (tp_sl m s) i (j + 1)).toNat))) : wY_besides_17 post (nI s) (nI i) (nI j) (nI n) K M H A B p q := by
  unfold wY_besides_17
  refine ty_has hM hs ?_
  rw [tp_0i hj, tp_q1 hi]
  have h' := ty_bes40 (post := post) (K := K) (H := H) (A := A) (B := B) (p := p) (q := q) hM hs hi hj h
  exact tp_br (tp_z0 (P := fun z => wY_besides_40 post (nI s) (nI i) (nI j) z K M H A B p q) h') (tp_z1 (P := fun z => wY_besides_40 post (nI s) (nI i) (nI j) z K M H A B p q) h')
theorem ty_bes {m : Nat → Bool} (hM : ∀ x, M x = tp_b (m x)) {s i j : Nat} (hs : s < 12) (hi : i < 2 ^ 30) (hj : j < 2 ^ 30) (h : post (nI (tp_bs (tp_sl m s) i j))) : wpY_besides post (K, M, H, A, B, p, q) (nI s) (nI i) (nI j) := by
  unfold wpY_besides
  dsimp only
  refine ty_has hM hs ?_
  rw [tp_0i hj, tp_m1 hi]
  have h' := ty_bes17 (post := post) (K := K) (H := H) (A := A) (B := B) (p := p) (q := q) hM hs hi hj (n := 0 + (tp_hs (tp_sl m s) (i - 1) j).toNat) (by rw [Nat.zero_add]; exact h)
  exact tp_br (tp_z0 (n := 0) (P := fun z => wY_besides_17 post (nI s) (nI i) (nI j) z K M H A B p q) h') (tp_z1 (n := 0) (P := fun z => wY_besides_17 post (nI s) (nI i) (nI j) z K M H A B p q) h')
theorem ty_cr69 {m : Nat → Bool} (hM : ∀ x, M x = tp_b (m x)) {s i j n : Nat} (hs : s < 12) (hi : i < 2 ^ 30) (hj : j < 2 ^ 30) (h : post (nI (n + (tp_hs (tp_sl m s) (i + 1) (j + 1)).toNat))) : wY_corners_69 post (nI s) (nI i) (nI j) (nI n) K M H A B p q := by
  unfold wY_corners_69
  refine ty_has hM hs ?_
  rw [tp_q1 hi, tp_q1 hj]
  exact tp_br (tp_z0 h) (tp_z1 h)
theorem ty_cr44 {m : Nat → Bool} (hM : ∀ x, M x = tp_b (m x)) {s i j n : Nat} (hs : s < 12) (hi : i < 2 ^ 30) (hj : j < 2 ^ 30) (h : post (nI (n + (tp_hs (tp_sl m s) (i - 1) (j + 1)).toNat + (tp_hs (tp_sl m s) (i + 1) (j + 1)).toNat))) : wY_corners_44 post (nI s) (nI i) (nI j) (nI n) K M H A B p q := by
  unfold wY_corners_44
  refine ty_has hM hs ?_
  rw [tp_m1 hi, tp_q1 hj]
  have h' := ty_cr69 (post := post) (K := K) (H := H) (A := A) (B := B) (p := p) (q := q) hM hs hi hj h
  exact tp_br (tp_z0 (P := fun z => wY_corners_69 post (nI s) (nI i) (nI j) z K M H A B p q) h') (tp_z1 (P := fun z => wY_corners_69 post (nI s) (nI i) (nI j) z K M H A B p q) h')
theorem ty_cr19 {m : Nat → Bool} (hM : ∀ x, M x = tp_b (m x)) {s i j n : Nat} (hs : s < 12) (hi : i < 2 ^ 30) (hj : j < 2 ^ 30) (h : post (nI (n + (tp_hs (tp_sl m s) (i + 1) (j - 1)).toNat + (tp_hs (tp_sl m s) (i - 1) (j + 1)).toNat + (tp_hs (tp_sl m s) (i + 1) (j + 1)).toNat))) : wY_corners_19 post (nI s) (nI i) (nI j) (nI n) K M H A B p q := by
  unfold wY_corners_19
  refine ty_has hM hs ?_
  rw [tp_q1 hi, tp_m1 hj]
  have h' := ty_cr44 (post := post) (K := K) (H := H) (A := A) (B := B) (p := p) (q := q) hM hs hi hj h
  exact tp_br (tp_z0 (P := fun z => wY_corners_44 post (nI s) (nI i) (nI j) z K M H A B p q) h') (tp_z1 (P := fun z => wY_corners_44 post (nI s) (nI i) (nI j) z K M H A B p q) h')
theorem ty_cr {m : Nat → Bool} (hM : ∀ x, M x = tp_b (m x)) {s i j : Nat} (hs : s < 12) (hi : i < 2 ^ 30) (hj : j < 2 ^ 30) (h : post (nI (tp_cr (tp_sl m s) i j))) : wpY_corners post (K, M, H, A, B, p, q) (nI s) (nI i) (nI j) := by
  unfold wpY_corners
  dsimp only
  refine ty_has hM hs ?_
  rw [tp_m1 hj, tp_m1 hi]
  have h' := ty_cr19 (post := post) (K := K) (H := H) (A := A) (B := B) (p := p) (q := q) hM hs hi hj (n := 0 + (tp_hs (tp_sl m s) (i - 1) (j - 1)).toNat) (by rw [Nat.zero_add]; exact h)
  exact tp_br (tp_z0 (n := 0) (P := fun z => wY_corners_19 post (nI s) (nI i) (nI j) z K M H A B p q) h') (tp_z1 (n := 0) (P := fun z => wY_corners_19 post (nI s) (nI i) (nI j) z K M H A B p q) h')
theorem ty_p95 {m : Nat → Bool} (hM : ∀ x, M x = tp_b (m x)) {s i j n : Nat} (hs : s < 12) (hi : i < 2 ^ 30) (hj : j < 2 ^ 30) (hn : n ≤ 4) {v : Bool} (h : post (nI (if v = false then (if n = 2 then 0 else if n = 1 then 1 else 2) else (if tp_cr (tp_sl m s) i j = 4 then 0 else if tp_cr (tp_sl m s) i j = 0 then 2 else 1)))) : wY_partOf_95 post (nI s) (nI i) (nI j) (nI n) (tp_b v) K M H A B p q := by
  refine tp_br (fun e => ?_) (fun e => ?_)
  · rw [if_pos e] at h
    refine pk_eq n 2 (fun a => ?_) (fun a => pk_eq n 1 (fun b => ?_) (fun b => ?_))
    · rw [if_pos a] at h
      exact h
    · rw [if_neg a, if_pos b] at h
      exact h
    · rw [if_neg a, if_neg b] at h
      exact h
  · rw [if_neg (by rw [e]; decide)] at h
    refine ty_cr hM hs hi hj ?_
    have h4 : tp_cr (tp_sl m s) i j ≤ 4 := tp_b4l _ _ _ _
    generalize tp_cr (tp_sl m s) i j = n at *
    refine pk_eq n 4 (fun a => ?_) (fun a => pk_eq n 0 (fun b => ?_) (fun b => ?_))
    · rw [if_pos a] at h
      exact h
    · rw [if_neg a, if_pos b] at h
      exact h
    · rw [if_neg a, if_neg b] at h
      exact h
theorem ty_p38 {k : Nat → Nat} {m : Nat → Bool} (hK : ∀ x, K x = nI (k x)) (hM : ∀ x, M x = tp_b (m x)) {s i j n : Nat} (hs : s < 12) (hk : k s ≤ 3) (hi : i < 2 ^ 30) (hj : j < 2 ^ 30) (hn : n ≤ 4) {v : Bool} (hv : v = true ↔ (i % 2 = 0 ∧ j % 2 = 0))
    (h : post (nI (if k s = 2 then (if ¬ (i % 2 = 0 ∧ j % 2 = 0) ∨ n = 0 then 2 else n % 2) else if k s = 1 ∨ (i % 2 = 1 ∧ j % 2 = 1) then 2 else if ¬ (i % 2 = 0 ∧ j % 2 = 0) then (if n = 2 then 0 else if n = 1 then 1 else 2) else if tp_cr (tp_sl m s) i j = 4 then 0 else if tp_cr (tp_sl m s) i j = 0 then 2 else 1))) :
    wY_partOf_38 post (nI s) (nI i) (nI j) (nI n) (tp_b v) K M H A B p q := by
  have hi9 : vp_in (nI s) 12 := vp_in_nI hs (by decide)
  have hv0 : v = false ↔ ¬ (i % 2 = 0 ∧ j % 2 = 0) := by
    rw [← hv]
    cases v <;> decide
  unfold wY_partOf_38
  rw [nI_clamp (by omega), hK s, tp_r2 (c := n) (by omega), tp_r2 (c := i) (by omega), tp_r2 (c := j) (by omega)]
  have h95 : ¬ k s = 2 → ¬ k s = 1 → ¬ (i % 2 = 1 ∧ j % 2 = 1) → wY_partOf_95 post (nI s) (nI i) (nI j) (nI n) (tp_b v) K M H A B p q := by
    intro e2 e1 eo
    refine ty_p95 hM hs hi hj hn ?_
    rw [if_neg e2, if_neg (by omega)] at h
    by_cases e : v = false
    · rw [if_pos (hv0.mp e)] at h
      rw [if_pos e]
      exact h
    · rw [if_neg (fun z => e (hv0.mpr z))] at h
      rw [if_neg e]
      exact h
  refine ⟨hi9, pk_eq (k s) 2 (fun e2 => tp_br (fun e => ?_) (fun e => pk_eq n 0 (fun e0 => ?_) (fun e0 => ⟨tp_2, ?_⟩))) (fun e2 => ⟨hi9, pk_eq (k s) 1 (fun e1 => ?_) (fun e1 => ⟨tp_2, pk_eq (i % 2) 1 (fun o1 => ⟨tp_2, pk_eq (j % 2) 1 (fun o2 => ?_) (fun o2 => h95 e2 e1 (by omega))⟩) (fun o1 => h95 e2 e1 (by omega))⟩)⟩)⟩
  · rw [if_pos e2, if_pos (Or.inl (hv0.mp e))] at h
    exact h
  · rw [if_pos e2, if_pos (Or.inr e0)] at h
    exact h
  · rw [if_pos e2, if_neg (fun z => z.elim (fun z => z (hv.mp e)) e0)] at h
    exact h
  · rw [if_neg e2, if_pos (Or.inl e1)] at h
    exact h
  · rw [if_neg e2, if_pos (Or.inr ⟨o1, o2⟩)] at h
    exact h
theorem ty_part {k : Nat → Nat} {m : Nat → Bool} (hK : ∀ x, K x = nI (k x)) (hM : ∀ x, M x = tp_b (m x)) {s i j : Nat} (hs : s < 12) (hk : k s ≤ 3) (hi : i < 2 ^ 30) (hj : j < 2 ^ 30) (h : post (nI (tp_pt (k s) (tp_sl m s) i j))) : wpY_partOf post (K, M, H, A, B, p, q) (nI s) (nI i) (nI j) := by
  unfold wpY_partOf
  dsimp only
  refine ty_has hM hs ?_
  rw [tp_0i hi, tp_0i hj]
  unfold tp_pt at h
  refine tp_br (fun e => ?_) (fun e => ?_)
  · rw [if_neg (by rw [e]; decide)] at h
    refine ty_bes hM hs hi hj ?_
    have hn : tp_bs (tp_sl m s) i j ≤ 4 := tp_b4l _ _ _ _
    rw [tp_r2 (c := i) (by omega), tp_r2 (c := j) (by omega)]
    refine ⟨tp_2, pk_eq (i % 2) 0 (fun a => ⟨tp_2, pk_eq (j % 2) 0 (fun b => ?_) (fun b => ?_)⟩) (fun a => ?_)⟩
    · exact ty_p38 (v := true) hK hM hs hk hi hj hn (by simp [a, b]) h
    · exact ty_p38 (v := false) hK hM hs hk hi hj hn (by simp [b]) h
    · exact ty_p38 (v := false) hK hM hs hk hi hj hn (by simp [a]) h
  · rw [if_pos e] at h
    exact h
theorem ty_count {m : Nat → Bool} (hM : ∀ x, M x = tp_b (m x)) {s : Nat} (hs : s < 12) (h : post (nI (tp_cnt (tp_sl m s) 289))) : wpY_count post (K, M, H, A, B, p, q) (nI s) := by
  refine loop_0 (fun n c (x : Nat) => wY_count_4 post (nI s) K M H A B p q n (nI x) (nI c)) (fun c x => x = tp_cnt (tp_sl m s) c) 289 0 rfl ?_ ?_
  · intro n x hx
    subst hx
    exact br_t (tp_rfl 289) h
  · intro n c x hc hx ih
    refine br_f (nI_ge (b := 289) hc (by decide)) ?_
    rw [tp_iy1, nI_clamp (by omega), hM]
    refine ⟨vp_in_nI (by omega) (by decide), tp_br (fun e => nm_r (nI_1 c) (ih x ?_)) (fun e => nm_r (nI_1 x) (nm_r (nI_1 c) (ih (x + 1) ?_)))⟩
    · rw [hx, tp_cnt, if_neg]
      exact fun z => by
        have : m (289 * s + c) = true := z
        rw [e] at this
        exact nomatch this
    · rw [hx, tp_cnt, if_pos]
      exact e
theorem ty_dim {c : Nat} (hc : c < 289) (h : post (nI (tp_dm c))) : wpY_dimension post (K, M, H, A, B, p, q) (nI c) := by
  unfold wpY_dimension
  dsimp only
  rw [tp_r17 (by omega), tp_d17 (by omega), tp_r2 (by omega), tp_r2 (by omega), nI_add]
  exact ⟨tp_17, tp_2, tp_17, tp_2, h⟩
theorem ty_edge {c : Nat} (hc : c < 289) (h : post (tp_b (decide (tp_dm c = 1)))) : wpY_isEdge post (K, M, H, A, B, p, q) (nI c) := by
  unfold wpY_isEdge
  dsimp only
  refine ty_dim hc (pk_eq (tp_dm c) 1 (fun e => tp_p1 h (decide_eq_true e)) (fun e => tp_p0 h (decide_eq_false e)) rfl rfl ?_ (by decide))
  unfold tp_dm
  omega
theorem ty_least {a b : Nat} (ha : a < 2 ^ 31) (hb : b < 2 ^ 31) (h : post (nI (tp_mn a b))) : wpY_least post (K, M, H, A, B, p, q) (nI a) (nI b) := by
  unfold tp_mn at h
  refine pk_le b a (fun e => ?_) (fun e => ?_)
  · rw [if_neg (by omega)] at h
    exact h
  · rw [if_pos e] at h
    exact h
theorem ty_most {a b : Nat} (ha : a < 2 ^ 31) (hb : b < 2 ^ 31) (h : post (nI (tp_mx a b))) : wpY_most post (K, M, H, A, B, p, q) (nI a) (nI b) := by
  unfold tp_mx at h
  refine pk_le a b (fun e => ?_) (fun e => ?_)
  · rw [if_neg (by omega)] at h
    exact h
  · rw [if_pos e] at h
    exact h
theorem tp_mn_l {a b n : Nat} (ha : a ≤ n) (hb : b ≤ n) : tp_mn a b ≤ n := by
  unfold tp_mn
  split <;> omega
theorem tp_mx_l {a b n : Nat} (ha : a ≤ n) (hb : b ≤ n) : tp_mx a b ≤ n := by
  unfold tp_mx
  split <;> omega
theorem ty_btw {i j f t : Nat} (hi : i < 2 ^ 30) (hj : j < 2 ^ 30) (hf : f < 81) (ht : t < 81) (h : post (tp_b (tp_bx f t i j))) : wpY_isBetween post (K, M, H, A, B, p, q) (nI i) (nI j) (nI f) (nI t) := by
  have b1 : tp_mn (f / 9) (t / 9) ≤ 8 := tp_mn_l (by omega) (by omega)
  have b2 : tp_mx (f / 9) (t / 9) ≤ 8 := tp_mx_l (by omega) (by omega)
  have b3 : tp_mn (f % 9) (t % 9) ≤ 8 := tp_mn_l (by omega) (by omega)
  have b4 : tp_mx (f % 9) (t % 9) ≤ 8 := tp_mx_l (by omega) (by omega)
  unfold wpY_isBetween
  dsimp only
  rw [tp_r9 (by omega), tp_r9 (by omega), tp_d9 (by omega), tp_d9 (by omega)]
  refine ⟨tp_9, tp_9, ty_least (by omega) (by omega) (nm_r (tp_t2 _) ⟨tp_9, tp_9, ty_most (by omega) (by omega) (nm_r (tp_t2 _) ⟨tp_9, tp_9, ty_least (by omega) (by omega) (nm_r (tp_t2 _) ⟨tp_9, tp_9, ty_most (by omega) (by omega) (nm_r (tp_t2 _) ?_)⟩)⟩)⟩)⟩
  unfold tp_bx at h
  generalize tp_mn (f / 9) (t / 9) = x0 at *
  generalize tp_mx (f / 9) (t / 9) = x1 at *
  generalize tp_mn (f % 9) (t % 9) = y0 at *
  generalize tp_mx (f % 9) (t % 9) = y1 at *
  refine pk_lt i (2 * x0) (fun e => tp_p0 h (decide_eq_false (by omega))) (fun e1 => pk_lt (2 * x1) i (fun e => tp_p0 h (decide_eq_false (by omega))) (fun e2 => pk_lt j (2 * y0) (fun e => tp_p0 h (decide_eq_false (by omega))) (fun e3 => pk_lt (2 * y1) j (fun e => tp_p0 h (decide_eq_false (by omega))) (fun e4 => tp_p1 h (decide_eq_true (by omega))))))
end
section
variable {K M H A B p q : Nat → Int32}
theorem ty_parts1 {post : SY → Prop} {k : Nat → Nat} {m : Nat → Bool} (hK : ∀ x, K x = nI (k x)) (hM : ∀ x, M x = tp_b (m x)) {s : Nat} (hs : s < 12) (hk : k s ≤ 3) (h : ∀ A', (∀ c, c < 289 → A' c = nI (tp_pt (k s) (tp_sl m s) (c / 17) (c % 17))) → post (K, M, H, A', B, p, q)) : wpY_findParts post (K, M, H, A, B, p, q) (nI s) 1 := by
  refine loop_0 (fun n c a => wY_findParts_2 post (nI s) 1 n (nI c) K M H a B p q) (fun c a => ∀ x, x < c → a x = nI (tp_pt (k s) (tp_sl m s) (x / 17) (x % 17))) 289 A (fun x hx => absurd hx (by omega)) ?_ ?_
  · intro n a ha
    exact br_t (tp_rfl 289) (h a ha)
  · intro n c a hc ha ih
    refine br_f (nI_ge (b := 289) hc (by decide)) ⟨tp_17, tp_17, ?_⟩
    rw [tp_r17 (by omega), tp_d17 (by omega)]
    refine ty_part hK hM hs hk (by omega) (by omega) (br_f (by decide) ⟨vp_in_nI hc (by decide), ?_⟩)
    rw [nI_clamp (by omega)]
    refine nm_e (nm_r (nI_1 c) (ih _ (fun x hx => ?_)))
    by_cases e : x = c
    · subst e
      rw [pk_us]
    · rw [pk_un e]
      exact ha x (by omega)
theorem ty_parts0 {post : SY → Prop} {k : Nat → Nat} {m : Nat → Bool} (hK : ∀ x, K x = nI (k x)) (hM : ∀ x, M x = tp_b (m x)) {s : Nat} (hs : s < 12) (hk : k s ≤ 3) (h : ∀ B', (∀ c, c < 289 → B' c = nI (tp_pt (k s) (tp_sl m s) (c / 17) (c % 17))) → post (K, M, H, A, B', p, q)) : wpY_findParts post (K, M, H, A, B, p, q) (nI s) 0 := by
  refine loop_0 (fun n c a => wY_findParts_2 post (nI s) 0 n (nI c) K M H A a p q) (fun c a => ∀ x, x < c → a x = nI (tp_pt (k s) (tp_sl m s) (x / 17) (x % 17))) 289 B (fun x hx => absurd hx (by omega)) ?_ ?_
  · intro n a ha
    exact br_t (tp_rfl 289) (h a ha)
  · intro n c a hc ha ih
    refine br_f (nI_ge (b := 289) hc (by decide)) ⟨tp_17, tp_17, ?_⟩
    rw [tp_r17 (by omega), tp_d17 (by omega)]
    refine ty_part hK hM hs hk (by omega) (by omega) (br_t rfl ⟨vp_in_nI hc (by decide), ?_⟩)
    rw [nI_clamp (by omega)]
    refine nm_e (nm_r (nI_1 c) (ih _ (fun x hx => ?_)))
    by_cases e : x = c
    · subst e
      rw [pk_us]
    · rw [pk_un e]
      exact ha x (by omega)
end
end
section
def tp_X (k : Nat → Nat) (m : Nat → Bool) (u : SX) : Prop := match u with
  | (_, K, S, M, P, _, _, _) => (∀ x, K x = nI (k x)) ∧ (∀ x, M x = tp_b (m x)) ∧ tp_Cr k m S P
def tp_Y (k : Nat → Nat) (m : Nat → Bool) (v : SY) : Prop := match v with
  | (K, M, _, _, _, _, _) => (∀ x, K x = nI (k x)) ∧ (∀ x, M x = tp_b (m x))
theorem tp_wu {M : Nat → Int32} {m : Nat → Bool} {s c : Nat} {g : Nat → Bool} (hM : ∀ x, M x = tp_b (tp_w m s g c x)) {b : Bool} (hb : g c = b) : ∀ x, upd M (289 * s + c) (tp_b b) x = tp_b (tp_w m s g (c + 1) x) := by
  intro x
  rw [tp_uM hM, ← hb, tp_w_s]
theorem tp_wk {M : Nat → Int32} {m : Nat → Bool} {s c : Nat} {g : Nat → Bool} (hM : ∀ x, M x = tp_b (tp_w m s g c x)) (hb : g c = m (289 * s + c)) : ∀ x, M x = tp_b (tp_w m s g (c + 1) x) := by
  intro x
  rw [hM, tp_w_j m s g (i := c) (i' := c + 1) (by omega) (fun z h1 h2 => by rw [show z = c from by omega]; exact hb)]
/-- settle at the end of a change: slot s now holds g -/
theorem tx_fin {post : SX → Prop} {f : Int32} {K S M P T U Q : Nat → Int32} {k : Nat → Nat} {m : Nat → Bool} {s q : Nat} {g : Nat → Bool} (H : tp_Cr k m S P) (hK : ∀ x, K x = nI (k x)) (hM : ∀ x, M x = tp_b (tp_w m s g 289 x)) (hs : s < 12) (hq : q ≤ 3) (hg : ∀ c, c < 289 → g c = true → tp_dm c + 1 = q)
    (h : ∀ f K S M P T U Q, tp_X (tp_v k s (if tp_cnt g 289 = 0 then 0 else q)) (tp_w m s g 289) (f, K, S, M, P, T, U, Q) → S s = nI (tp_cnt g 289) → post (f, K, S, M, P, T, U, Q)) :
    wpX_settle post (f, K, S, M, P, T, U, Q) (nI s) (nI q) := by
  have e : tp_cnt (tp_sl (tp_w m s g 289) s) 289 = tp_cnt g 289 := tp_cnt_congr 289 (tp_sl_w m s g)
  refine tx_settle hK hM hs hq (fun K' P' a b o => ?_)
  rw [e] at a b ⊢
  refine h _ _ _ _ _ _ _ _ ⟨a, hM, tp_Cr_s H hs hq hg (fun c hc => ?_) (fun s' hs' hn c hc => o _ (by omega))⟩ pk_us
  rw [b c hc, tp_px_c _ (tp_sl_w m s g)]
theorem tx_great {post : Int32 → Prop} {a b : Nat} (ha : a < 2 ^ 31) (hb : b < 2 ^ 31) (h : post (nI (tp_mx a b))) : wpX_greater post (nI a) (nI b) := by
  unfold tp_mx at h
  refine pk_le a b (fun e => ?_) (fun e => ?_)
  · rw [if_neg (by omega)] at h
    exact h
  · rw [if_pos e] at h
    exact h
theorem tx_less {post : Int32 → Prop} {a b : Nat} (ha : a < 2 ^ 31) (hb : b < 2 ^ 31) (h : post (nI (tp_mn a b))) : wpX_lesser post (nI a) (nI b) := by
  unfold tp_mn at h
  refine pk_le b a (fun e => ?_) (fun e => ?_)
  · rw [if_neg (by omega)] at h
    exact h
  · rw [if_pos e] at h
    exact h
theorem tx_col {post : Int32 → Prop} {a : Nat} (ha : a < 2 ^ 31) (h : post (nI (a / 9))) : wpX_column post (nI a) := by
  unfold wpX_column
  rw [tp_d9 ha]
  exact ⟨tp_9, h⟩
theorem tx_row {post : Int32 → Prop} {a : Nat} (ha : a < 2 ^ 31) (h : post (nI (a % 9))) : wpX_row post (nI a) := by
  unfold wpX_row
  rw [tp_r9 ha]
  exact ⟨tp_9, h⟩
theorem tx_highI {post : Int32 → Prop} {f t : Nat} (hf : f < 81) (ht : t < 81) (h : post (nI (2 * tp_mx (f / 9) (t / 9)))) : wpX_highestI post (nI f) (nI t) := by
  have hm : tp_mx f t ≤ 80 := tp_mx_l (by omega) (by omega)
  unfold wpX_highestI
  refine tx_great (by omega) (by omega) ?_
  refine tx_col (by omega) ?_
  rw [tp_mx_d, tp_t2]
  exact h
theorem tx_lowI {post : Int32 → Prop} {f t : Nat} (hf : f < 81) (ht : t < 81) (h : post (nI (2 * tp_mn (f / 9) (t / 9)))) : wpX_lowestI post (nI f) (nI t) := by
  have hm : tp_mn f t ≤ 80 := tp_mn_l (by omega) (by omega)
  unfold wpX_lowestI
  refine tx_less (by omega) (by omega) ?_
  refine tx_col (by omega) ?_
  rw [tp_mn_d, tp_t2]
  exact h
theorem tx_highJ {post : Int32 → Prop} {f t : Nat} (hf : f < 81) (ht : t < 81) (h : post (nI (2 * tp_mx (f % 9) (t % 9)))) : wpX_highestJ post (nI f) (nI t) := by
  unfold wpX_highestJ
  refine tx_row (by omega) ?_
  refine tx_row (by omega) ?_
  refine tx_great (by omega) (by omega) ?_
  rw [tp_t2]
  exact h
theorem tx_lowJ {post : Int32 → Prop} {f t : Nat} (hf : f < 81) (ht : t < 81) (h : post (nI (2 * tp_mn (f % 9) (t % 9)))) : wpX_lowestJ post (nI f) (nI t) := by
  unfold wpX_lowestJ
  refine tx_row (by omega) ?_
  refine tx_row (by omega) ?_
  refine tx_less (by omega) (by omega) ?_
  rw [tp_t2]
  exact h
theorem tp_mk_o {g : Nat → Bool} {q f t : Nat} {b : Bool} {c : Nat} (h : ¬ (2 * tp_mn (f / 9) (t / 9) ≤ c / 17 ∧ c / 17 ≤ 2 * tp_mx (f / 9) (t / 9) ∧ 2 * tp_mn (f % 9) (t % 9) ≤ c % 17 ∧ c % 17 ≤ 2 * tp_mx (f % 9) (t % 9))) : tp_mk g q f t b c = g c := by
  unfold tp_mk
  rw [if_neg (fun z => h (tp_bx_t.mp z.1))]
theorem tp_mk_b {g : Nat → Bool} {q f t : Nat} {b : Bool} {i j : Nat} (hj : j ≤ 16) (h : 2 * tp_mn (f / 9) (t / 9) ≤ i ∧ i ≤ 2 * tp_mx (f / 9) (t / 9) ∧ 2 * tp_mn (f % 9) (t % 9) ≤ j ∧ j ≤ 2 * tp_mx (f % 9) (t % 9)) : tp_mk g q f t b (17 * i + j) = if i % 2 + j % 2 + 1 = q then b else g (17 * i + j) := by
  unfold tp_mk tp_dm
  rw [show (17 * i + j) / 17 = i from by omega, show (17 * i + j) % 17 = j from by omega]
  by_cases e : i % 2 + j % 2 + 1 = q
  · rw [if_pos e, if_pos ⟨tp_bx_t.mpr h, e⟩]
  · rw [if_neg e, if_neg (fun z => e z.2)]
theorem tx_mark {post : SX → Prop} {fl : Int32} {K S M P T U Q : Nat → Int32} {m : Nat → Bool} (hM : ∀ x, M x = tp_b (m x)) {s q f t : Nat} (hs : s < 12) (hq1 : 1 ≤ q) (hq : q ≤ 3) (hf : f < 81) (ht : t < 81) {b : Bool}
    (h : ∀ M', (∀ x, M' x = tp_b (tp_w m s (tp_mk (tp_sl m s) q f t b) 289 x)) → post (fl, K, S, M', P, T, U, Q)) : wpX_mark post (fl, K, S, M, P, T, U, Q) (nI s) (nI q) (nI f) (nI t) (tp_b b) := by
  unfold wpX_mark
  dsimp only
  refine tx_highI hf ht ?_
  refine tx_highJ hf ht ?_
  refine tx_lowI hf ht ?_
  have b1 : tp_mn (f / 9) (t / 9) ≤ tp_mx (f / 9) (t / 9) := by unfold tp_mn tp_mx; split <;> split <;> omega
  have b2 : tp_mx (f / 9) (t / 9) ≤ 8 := tp_mx_l (by omega) (by omega)
  have b3 : tp_mn (f % 9) (t % 9) ≤ tp_mx (f % 9) (t % 9) := by unfold tp_mn tp_mx; split <;> split <;> omega
  have b4 : tp_mx (f % 9) (t % 9) ≤ 8 := tp_mx_l (by omega) (by omega)
  refine pk_loop (fun n i M => wX_mark_24 post (nI s) (nI q) (nI f) (nI t) (tp_b b) (nI (2 * tp_mx (f / 9) (t / 9))) (nI (2 * tp_mx (f % 9) (t % 9))) fl n (nI i) K S M P T U Q) (fun i M => (2 * tp_mn (f / 9) (t / 9) ≤ i) ∧ ∀ x, M x = tp_b (tp_w m s (tp_mk (tp_sl m s) q f t b) (17 * i) x)) (2 * tp_mx (f / 9) (t / 9) + 1) (2 * tp_mn (f / 9) (t / 9)) M (by omega) ⟨Nat.le_refl _, fun x => ?_⟩ ?_ ?_
  · rw [tp_w_j m s (tp_mk (tp_sl m s) q f t b) (i := 0) (i' := 17 * (2 * tp_mn (f / 9) (t / 9))) (by omega) (fun c _ hc => tp_mk_o (by omega)), tp_w_0]
    exact hM x
  · rintro n M' ⟨_, hM'⟩
    refine br_t (nI_lt (by omega) (by omega)) (h M' (fun x => ?_))
    rw [hM', tp_w_j m s (tp_mk (tp_sl m s) q f t b) (i := 17 * (2 * tp_mx (f / 9) (t / 9) + 1)) (i' := 289) (by omega) (fun c hc _ => tp_mk_o (by omega))]
  · rintro n i M' hi ⟨hi0, hM'⟩ ih
    refine br_f (nI_nlt (by omega) (by omega)) (tx_lowJ hf ht ?_)
    refine pk_loop (fun n j M => wX_mark_39 post _ (nI s) (nI q) (nI f) (nI t) (tp_b b) (nI (2 * tp_mx (f / 9) (t / 9))) (nI (2 * tp_mx (f % 9) (t % 9))) (nI i) fl n (nI j) K S M P T U Q) (fun j M => (2 * tp_mn (f % 9) (t % 9) ≤ j) ∧ ∀ x, M x = tp_b (tp_w m s (tp_mk (tp_sl m s) q f t b) (17 * i + j) x)) (2 * tp_mx (f % 9) (t % 9) + 1) (2 * tp_mn (f % 9) (t % 9)) M' (by omega) ⟨Nat.le_refl _, fun x => ?_⟩ ?_ ?_
    · rw [hM', tp_w_j m s (tp_mk (tp_sl m s) q f t b) (i := 17 * i) (i' := 17 * i + 2 * tp_mn (f % 9) (t % 9)) (by omega) (fun c h1 h2 => tp_mk_o (by omega))]
    · rintro n M2 ⟨_, hM2⟩
      refine br_t (nI_lt (by omega) (by omega)) (nm_r (nI_1 i) (ih M2 ⟨by omega, fun x => ?_⟩))
      rw [hM2, tp_w_j m s (tp_mk (tp_sl m s) q f t b) (i := 17 * i + (2 * tp_mx (f % 9) (t % 9) + 1)) (i' := 17 * (i + 1)) (by omega) (fun c h1 h2 => tp_mk_o (by omega))]
    · rintro n j M2 hj ⟨hj0, hM2⟩ ih2
      refine br_f (nI_nlt (by omega) (by omega)) (tx_dim (by omega) (by omega) ?_)
      have hb := @tp_mk_b (tp_sl m s) q f t b i j (by omega) (by omega)
      rw [show nI q - 1 = nI (q - 1) from pk_sub (b := 1) hq1, tp_ix2, nI_clamp (by omega), tp_nar]
      refine pk_eq (i % 2 + j % 2) (q - 1) (fun e => ?_) (fun e => ?_)
      · rw [if_pos (by omega)] at hb
        exact ⟨vp_in_nI (by omega) (by decide), nm_e (nm_r (nI_1 j) (ih2 _ ⟨by omega, tp_wu hM2 hb⟩))⟩
      · rw [if_neg (by omega)] at hb
        exact nm_r (nI_1 j) (ih2 _ ⟨by omega, tp_wk hM2 hb⟩)
end
section
section
variable {K M H A B p q : Nat → Int32}
theorem ty_empty {post : SY → Prop} {k : Nat → Nat} {m : Nat → Bool} (hK : ∀ x, K x = nI (k x)) (hM : ∀ x, M x = tp_b (m x)) {s : Nat} (hs : s < 12) (h : ∀ v, tp_Y (tp_v k s 0) (tp_w m s (fun _ => false) 289) v → post v) : wpY_empty post (K, M, H, A, B, p, q) (nI s) := by
  refine ⟨vp_in_nI hs (by decide), nm_r (congrArg (fun z => upd K z 0) (nI_clamp (by omega))) ?_⟩
  refine loop_0 (fun n c M => wY_empty_9 post (nI s) n (nI c) (upd K s 0) M H A B p q) (fun c M => ∀ x, M x = tp_b (tp_w m s (fun _ => false) c x)) 289 M (fun x => by rw [tp_w_0]; exact hM x) ?_ ?_
  · intro n M' hM'
    exact br_t (tp_rfl 289) (h _ ⟨fun x => tp_uK hK s 0 x, hM'⟩)
  · intro n c M' hc hM' ih
    refine br_f (nI_ge (b := 289) hc (by decide)) ?_
    rw [tp_iy1, nI_clamp (by omega), tp_nar0]
    exact ⟨vp_in_nI (by omega) (by decide), nm_e (nm_r (nI_1 c) (ih _ (tp_wu hM' rfl)))⟩
theorem tp_pc {b : Nat} {A B : Prop} (hb : b < 2 ^ 31) (f : b = 0 → A) (g : b ≠ 0 → B) : (nI b = 0 → A) ∧ (¬ nI b = 0 → B) := pk_eq b 0 f g rfl rfl hb (by decide)
theorem ty_settle {post : Int32 → SY → Prop} {k : Nat → Nat} {m : Nat → Bool} (hK : ∀ x, K x = nI (k x)) {s : Nat} {g : Nat → Bool} (hM : ∀ x, M x = tp_b (tp_w m s g 289 x)) (hs : s < 12) (h : ∀ K', (∀ x, K' x = nI (tp_v k s (if tp_cnt g 289 = 0 then 0 else k s) x)) → post (nI (tp_cnt g 289)) (K', M, H, A, B, p, q)) : wpY_settle post (K, M, H, A, B, p, q) (nI s) := by
  have e : tp_cnt (tp_sl (tp_w m s g 289) s) 289 = tp_cnt g 289 := tp_cnt_congr 289 (tp_sl_w m s g)
  have hl := tp_cnt_le g 289
  refine ty_count hM hs ?_
  rw [e]
  refine tp_pc (by omega) (fun z => ⟨vp_in_nI hs (by decide), nm_r (congrArg (fun z => upd K z 0) (nI_clamp (by omega))) ?_⟩) (fun z => ?_)
  · refine h _ (fun x => ?_)
    rw [if_pos z]
    exact tp_uK hK s 0 x
  · refine h _ (fun x => ?_)
    rw [if_neg z, tp_v_i]
    exact hK x
theorem ty_cells {post : SY → Prop} {m : Nat → Bool} (hM : ∀ x, M x = tp_b (m x)) {s f t : Nat} (hs : s < 12) (hf : f < 81) (ht : t < 81) {b : Bool} (h : ∀ M', (∀ x, M' x = tp_b (tp_w m s (tp_mk (tp_sl m s) 3 f t b) 289 x)) → post (K, M', H, A, B, p, q)) : wpY_setCells post (K, M, H, A, B, p, q) (nI s) (nI f) (nI t) (tp_b b) := by
  refine loop_0 (fun n c M => wY_setCells_3 post (nI s) (nI f) (nI t) (tp_b b) n (nI c) K M H A B p q) (fun c M => ∀ x, M x = tp_b (tp_w m s (tp_mk (tp_sl m s) 3 f t b) c x)) 289 M (fun x => by rw [tp_w_0]; exact hM x) ?_ ?_
  · intro n M' hM'
    exact br_t (tp_rfl 289) (h _ hM')
  · intro n c M' hc hM' ih
    have no : ¬ (tp_bx f t (c / 17) (c % 17) = true ∧ tp_dm c + 1 = 3) → ∀ x, M' x = tp_b (tp_w m s (tp_mk (tp_sl m s) 3 f t b) (c + 1) x) := by
      intro hn
      refine tp_wk hM' ?_
      unfold tp_mk
      rw [if_neg hn]
      rfl
    refine br_f (nI_ge (b := 289) hc (by decide)) ?_
    rw [tp_r17 (by omega), tp_d17 (by omega), tp_r2 (by omega), tp_r2 (by omega), tp_iy1, nI_clamp (by omega), tp_nar]
    refine ⟨tp_17, tp_2, pk_eq (c / 17 % 2) 1 (fun e1 => ⟨tp_17, tp_2, pk_eq (c % 17 % 2) 1 (fun e2 => ⟨tp_17, tp_17, ty_btw (by omega) (by omega) hf ht (tp_br (fun e => ?_) (fun e => ?_))⟩) (fun e2 => ?_)⟩) (fun e1 => ?_)⟩
    · exact nm_r (nI_1 c) (ih _ (no (fun z => by rw [e] at z; exact nomatch z.1)))
    · refine ⟨vp_in_nI (by omega) (by decide), nm_e (nm_r (nI_1 c) (ih _ (tp_wu hM' ?_)))⟩
      unfold tp_mk
      rw [if_pos ⟨e, by unfold tp_dm; omega⟩]
    · exact nm_r (nI_1 c) (ih _ (no (fun z => by have := z.2; unfold tp_dm at this; omega)))
    · exact nm_r (nI_1 c) (ih _ (no (fun z => by have := z.2; unfold tp_dm at this; omega)))
theorem ty_line91 {post : Int32 → SY → Prop} {m : Nat → Bool} (hM : ∀ x, M x = tp_b (m x)) {s f t : Nat} (hs : s < 12) (hf : f < 81) (ht : t < 81) (h : ∀ M', (∀ x, M' x = tp_b (tp_w m s (tp_mk (tp_sl m s) 2 f t true) 289 x)) → post (nI (tp_cnt (tp_mk (tp_sl m s) 2 f t true) 289)) (K, M', H, A, B, p, q)) : ∃ n, wY_line_91 post (nI s) (nI f) (nI t) n 0 K M H A B p q := by
  refine loop_0 (fun n c M => wY_line_91 post (nI s) (nI f) (nI t) n (nI c) K M H A B p q) (fun c M => ∀ x, M x = tp_b (tp_w m s (tp_mk (tp_sl m s) 2 f t true) c x)) 289 M (fun x => by rw [tp_w_0]; exact hM x) ?_ ?_
  · intro n M' hM'
    refine br_t (tp_rfl 289) (ty_count hM' hs ?_)
    rw [tp_cnt_congr 289 (tp_sl_w m s (tp_mk (tp_sl m s) 2 f t true))]
    exact h _ hM'
  · intro n c M' hc hM' ih
    have no : ¬ (tp_bx f t (c / 17) (c % 17) = true ∧ tp_dm c + 1 = 2) → ∀ x, M' x = tp_b (tp_w m s (tp_mk (tp_sl m s) 2 f t true) (c + 1) x) := by
      intro hn
      refine tp_wk hM' ?_
      unfold tp_mk
      rw [if_neg hn]
      rfl
    refine br_f (nI_ge (b := 289) hc (by decide)) ?_
    rw [tp_r17 (by omega), tp_d17 (by omega), nI_add, tp_r2 (by omega), tp_iy1, nI_clamp (by omega), tp_nar1]
    refine ⟨tp_17, tp_17, tp_2, pk_eq ((c / 17 + c % 17) % 2) 1 (fun e1 => ⟨tp_17, tp_17, ty_btw (by omega) (by omega) hf ht (tp_br (fun e => ?_) (fun e => ?_))⟩) (fun e1 => ?_)⟩
    · exact nm_r (nI_1 c) (ih _ (no (fun z => by rw [e] at z; exact nomatch z.1)))
    · refine ⟨vp_in_nI (by omega) (by decide), nm_e (nm_r (nI_1 c) (ih _ (tp_wu hM' ?_)))⟩
      unfold tp_mk
      rw [if_pos ⟨e, by unfold tp_dm; omega⟩]
    · exact nm_r (nI_1 c) (ih _ (no (fun z => by have := z.2; unfold tp_dm at this; omega)))
end
/-- combining two sets -/
def tp_op2 (a b : Bool) (how : Nat) : Bool := if how = 0 then a || b else if how = 1 then a && b else if how = 2 then a && !b else a != b
theorem tx_chosen {post : Int32 → Prop} {a b : Bool} {w : Nat} (hw : w ≤ 3) (h : post (tp_b (tp_op2 a b w))) : wpX_isChosen post (tp_b a) (tp_b b) (nI w) := by
  have : w = 0 ∨ w = 1 ∨ w = 2 ∨ w = 3 := by omega
  rcases this with rfl | rfl | rfl | rfl <;> cases a <;> cases b
  all_goals first
    | exact br_t rfl (br_t rfl (br_t rfl h))
    | exact br_t rfl (br_t rfl (br_f (by decide) h))
    | exact br_t rfl (br_f (by decide) h)
    | exact br_f (by decide) (br_t rfl (br_t rfl h))
    | exact br_f (by decide) (br_t rfl (br_f (by decide) (br_t rfl h)))
    | exact br_f (by decide) (br_t rfl (br_f (by decide) (br_f (by decide) h)))
    | exact br_f (by decide) (br_f (by decide) (br_t rfl (br_t rfl h)))
    | exact br_f (by decide) (br_f (by decide) (br_t rfl (br_f (by decide) (br_t rfl h))))
    | exact br_f (by decide) (br_f (by decide) (br_t rfl (br_f (by decide) (br_f (by decide) h))))
    | exact br_f (by decide) (br_f (by decide) (br_f (by decide) (br_t rfl h)))
    | exact br_f (by decide) (br_f (by decide) (br_f (by decide) (br_f (by decide) h)))
theorem ty_combined {post : Int32 → Prop} {K M H A B p q : Nat → Int32} {a b : Bool} {w : Nat} (hw : w ≤ 3) (h : post (tp_b (tp_op2 a b w))) : wpY_combined post (K, M, H, A, B, p, q) (tp_b a) (tp_b b) (nI w) := tx_chosen hw h
theorem ty_comb72 {post : Int32 → SY → Prop} {K M H A B p q : Nat → Int32} {k : Nat → Nat} {m : Nat → Bool} (hK : ∀ x, K x = nI (k x)) (hM : ∀ x, M x = tp_b (m x)) {s t w : Nat} (hs : s < 12) (ht : t < 12) (hw : w ≤ 3) {g : Nat → Bool} (hg : g = fun c => tp_op2 (m (289 * s + c)) (m (289 * t + c)) w) (h : ∀ v, tp_Y (tp_v k s (if tp_cnt g 289 = 0 then 0 else k s)) (tp_w m s g 289) v → post (nI (tp_cnt g 289)) v) : ∃ n, wY_combine_72 post (nI s) (nI t) (nI w) n 0 K M H A B p q := by
  refine loop_0 (fun n c M => wY_combine_72 post (nI s) (nI t) (nI w) n (nI c) K M H A B p q) (fun c M => ∀ x, M x = tp_b (tp_w m s g c x)) 289 M (fun x => by rw [tp_w_0]; exact hM x) ?_ ?_
  · intro n M' hM'
    exact br_t (tp_rfl 289) (ty_settle hK hM' hs (fun K' hK' => h _ ⟨hK', hM'⟩))
  · intro n c M' hc hM' ih
    refine br_f (nI_ge (b := 289) hc (by decide)) ?_
    have e1 : M' (289 * s + c) = tp_b (m (289 * s + c)) := by rw [hM', tp_w_ge m s g (Nat.le_refl c)]
    have e2 : M' (289 * t + c) = tp_b (m (289 * t + c)) := by
      by_cases e : t = s
      · subst e
        exact e1
      · rw [hM', tp_w_ne m s g e hc (by omega)]
    rw [tp_iy1, tp_iy1, nI_clamp (by omega), nI_clamp (by omega), e1, e2]
    refine ⟨vp_in_nI (by omega) (by decide), vp_in_nI (by omega) (by decide), ty_combined hw ⟨vp_in_nI (by omega) (by decide), ?_⟩⟩
    rw [tp_nar]
    exact nm_e (nm_r (nI_1 c) (ih _ (tp_wu hM' (by rw [hg]))))
theorem tx_comb49 {post : Int32 → SX → Prop} {f : Int32} {K S M P T U Q : Nat → Int32} {k : Nat → Nat} {m : Nat → Bool} (H : tp_Cr k m S P) (hK : ∀ x, K x = nI (k x)) (hM : ∀ x, M x = tp_b (m x)) {s t w : Nat} (hs : s < 12) (ht : t < 12) (hw : w ≤ 3) (hk : k s = k t) {g : Nat → Bool} (hg : g = fun c => tp_op2 (m (289 * s + c)) (m (289 * t + c)) w) (h : ∀ u, tp_X (tp_v k s (if tp_cnt g 289 = 0 then 0 else k s)) (tp_w m s g 289) u → post (nI (tp_cnt g 289)) u) : ∃ n, wX_combine_49 post (nI s) (nI t) (nI w) f n 0 K S M P T U Q := by
  have hi9 : vp_in (nI s) 12 := vp_in_nI hs (by decide)
  have hq := (H.1 s hs).1
  refine loop_0 (fun n c M => wX_combine_49 post (nI s) (nI t) (nI w) f n (nI c) K S M P T U Q) (fun c M => ∀ x, M x = tp_b (tp_w m s g c x)) 289 M (fun x => by rw [tp_w_0]; exact hM x) ?_ ?_
  · intro n M' hM'
    refine br_t (tp_rfl 289) ⟨hi9, ?_⟩
    rw [nI_clamp (by omega), hK s]
    refine tx_fin H hK hM' hs hq (fun c hc e => ?_) (fun f K S M P T U Q hu hS => ⟨hi9, ?_⟩)
    · have e1 := (H.1 s hs).2.1 c hc
      have e2 := (H.1 t ht).2.1 c hc
      rw [hg] at e
      unfold tp_op2 at e
      unfold tp_sl at e1 e2
      cases a : m (289 * s + c) with
      | true => exact e1 a
      | false =>
        cases b : m (289 * t + c) with
        | true =>
          rw [hk]
          exact e2 b
        | false =>
          simp [a, b] at e
    · rw [hS]
      exact h _ hu
  · intro n c M' hc hM' ih
    refine br_f (nI_ge (b := 289) hc (by decide)) ?_
    have e1 : M' (289 * s + c) = tp_b (m (289 * s + c)) := by rw [hM', tp_w_ge m s g (Nat.le_refl c)]
    have e2 : M' (289 * t + c) = tp_b (m (289 * t + c)) := by
      by_cases e : t = s
      · subst e
        exact e1
      · rw [hM', tp_w_ne m s g e hc (by omega)]
    rw [tp_ix1, tp_ix1, nI_clamp (by omega), nI_clamp (by omega)]
    refine ⟨vp_in_nI (by omega) (by decide), nm_r e1 ⟨vp_in_nI (by omega) (by decide), nm_r e2 (tx_chosen hw ⟨vp_in_nI (by omega) (by decide), ?_⟩)⟩⟩
    rw [tp_nar]
    exact nm_e (nm_r (nI_1 c) (ih _ (tp_wu hM' (by rw [hg]))))
end
section
section
variable {post : Int32 → Prop} {f : Int32} {K S M P T U Q : Nat → Int32} {k : Nat → Nat}
theorem tp_in12 {s : Nat} (hs : s < 12) : vp_in (nI s) 12 := vp_in_nI hs (by decide)
theorem tx_ras_1 {x : Int32} (hx : x < 0 ∨ nI 12 ≤ x) (h : post (-1)) : wpX_refuseAsShape post (f, K, S, M, P, T, U, Q) x := by
  unfold wpX_refuseAsShape
  dsimp only
  exact tx_slot_n hx (br_t rfl h)
theorem tx_ras_2 (hK : ∀ x, K x = nI (k x)) {s : Nat} (hs : s < 12) (hk : k s = 0) (h : post (-2)) : wpX_refuseAsShape post (f, K, S, M, P, T, U, Q) (nI s) := by
  unfold wpX_refuseAsShape
  dsimp only
  rw [nI_clamp (by omega), hK s, hk]
  exact tx_slot_y hs (br_f (by decide) ⟨tp_in12 hs, br_t rfl h⟩)
theorem tx_ras_0 (hK : ∀ x, K x = nI (k x)) {s : Nat} (hs : s < 12) (h3 : k s ≤ 3) (hk : k s ≠ 0) (h : post 0) : wpX_refuseAsShape post (f, K, S, M, P, T, U, Q) (nI s) := by
  unfold wpX_refuseAsShape
  dsimp only
  rw [nI_clamp (by omega), hK s]
  exact tx_slot_y hs (br_f (by decide) ⟨tp_in12 hs, br_f (nI_ne0 (by omega) (by omega)) h⟩)
theorem tx_raa_1 {x : Int32} (hx : x < 0 ∨ nI 12 ≤ x) (h : post (-1)) : wpX_refuseAsArea post (f, K, S, M, P, T, U, Q) x := by
  unfold wpX_refuseAsArea
  dsimp only
  exact tx_ras_1 hx (br_f (by decide) h)
theorem tx_raa_2 (hK : ∀ x, K x = nI (k x)) {s : Nat} (hs : s < 12) (hk : k s = 0) (h : post (-2)) : wpX_refuseAsArea post (f, K, S, M, P, T, U, Q) (nI s) := by
  unfold wpX_refuseAsArea
  dsimp only
  exact tx_ras_2 hK hs hk (br_f (by decide) h)
theorem tx_raa_3 (hK : ∀ x, K x = nI (k x)) {s : Nat} (hs : s < 12) (h3 : k s ≤ 3) (h0 : k s ≠ 0) (hk : k s ≠ 3) (h : post (-3)) : wpX_refuseAsArea post (f, K, S, M, P, T, U, Q) (nI s) := by
  unfold wpX_refuseAsArea
  dsimp only
  refine tx_ras_0 hK hs h3 h0 (br_t rfl ⟨tp_in12 hs, ?_⟩)
  rw [nI_clamp (by omega), hK s]
  exact pk_eq (k s) 3 (fun z => absurd z hk) (fun _ => h)
theorem tx_raa_0 (hK : ∀ x, K x = nI (k x)) {s : Nat} (hs : s < 12) (hk : k s = 3) (h : post 0) : wpX_refuseAsArea post (f, K, S, M, P, T, U, Q) (nI s) := by
  unfold wpX_refuseAsArea
  dsimp only
  refine tx_ras_0 hK hs (by omega) (by omega) (br_t rfl ⟨tp_in12 hs, ?_⟩)
  rw [nI_clamp (by omega), hK s]
  exact pk_eq (k s) 3 (fun _ => h) (fun z => absurd hk z)
theorem tx_rss_1 {x y : Int32} (hx : (x < 0 ∨ nI 12 ≤ x) ∨ (∃ s, s < 12 ∧ x = nI s) ∧ (y < 0 ∨ nI 12 ≤ y)) (h : post (-1)) : wpX_refuseAsShapes post (f, K, S, M, P, T, U, Q) x y := by
  unfold wpX_refuseAsShapes
  dsimp only
  rcases hx with hx | ⟨⟨s, hs, rfl⟩, hy⟩
  · exact tx_slot_n hx (br_t rfl h)
  · exact tx_slot_y hs (br_f (by decide) (tx_slot_n hy (br_t rfl h)))
theorem tx_rss_2 (hK : ∀ x, K x = nI (k x)) {s t : Nat} (hs : s < 12) (ht : t < 12) (h3 : k s ≤ 3) (hk : k s = 0 ∨ k t = 0) (h : post (-2)) : wpX_refuseAsShapes post (f, K, S, M, P, T, U, Q) (nI s) (nI t) := by
  unfold wpX_refuseAsShapes
  dsimp only
  rw [nI_clamp (by omega), nI_clamp (by omega), hK s, hK t]
  refine tx_slot_y hs (br_f (by decide) (tx_slot_y ht (br_f (by decide) ⟨tp_in12 hs, ?_⟩)))
  refine pk_eq (k s) 0 (fun _ => h) (fun e => ⟨tp_in12 ht, ?_⟩)
  rw [hk.resolve_left e]
  exact br_t rfl h
theorem tx_rss_0 (hK : ∀ x, K x = nI (k x)) {s t : Nat} (hs : s < 12) (ht : t < 12) (h3 : k s ≤ 3) (h3t : k t ≤ 3) (hk : k s ≠ 0) (hkt : k t ≠ 0) (h : post 0) : wpX_refuseAsShapes post (f, K, S, M, P, T, U, Q) (nI s) (nI t) := by
  unfold wpX_refuseAsShapes
  dsimp only
  rw [nI_clamp (by omega), nI_clamp (by omega), hK s, hK t]
  exact tx_slot_y hs (br_f (by decide) (tx_slot_y ht (br_f (by decide) ⟨tp_in12 hs, br_f (nI_ne0 (by omega) (by omega)) ⟨tp_in12 ht, br_f (nI_ne0 (by omega) (by omega)) h⟩⟩)))
theorem tx_rta_1 {x a y z : Int32} (hx : x < 0 ∨ nI 12 ≤ x) (h : post (-1)) : wpX_refuseToAdd post (f, K, S, M, P, T, U, Q) x a y z := by
  unfold wpX_refuseToAdd
  dsimp only
  exact tx_slot_n hx (br_t rfl h)
theorem tx_rta_3 (hK : ∀ x, K x = nI (k x)) {s q : Nat} {y z : Int32} (hs : s < 12) (h3 : k s ≤ 3) (hq : q ≤ 3) (h0 : k s ≠ 0) (h1 : k s ≠ q) (h : post (-3)) : wpX_refuseToAdd post (f, K, S, M, P, T, U, Q) (nI s) (nI q) y z := by
  unfold wpX_refuseToAdd
  dsimp only
  rw [nI_clamp (by omega), hK s]
  exact tx_slot_y hs (br_f (by decide) ⟨tp_in12 hs, br_f (nI_ne0 (by omega) (by omega)) ⟨tp_in12 hs, pk_eq (k s) q (fun e => absurd e h1) (fun _ => h)⟩⟩)
theorem tx_rta_x (hK : ∀ x, K x = nI (k x)) {s q : Nat} {y z : Int32} (hs : s < 12) (h3 : k s ≤ 3) (hq : q ≤ 3) (h1 : k s = 0 ∨ k s = q) (h : wX_refuseToAdd_31 post y z f K S M P T U Q) : wpX_refuseToAdd post (f, K, S, M, P, T, U, Q) (nI s) (nI q) y z := by
  unfold wpX_refuseToAdd
  dsimp only
  rw [nI_clamp (by omega), hK s]
  exact tx_slot_y hs (br_f (by decide) ⟨tp_in12 hs, pk_eq (k s) 0 (fun _ => h) (fun e0 => ⟨tp_in12 hs, pk_eq (k s) q (fun _ => h) (fun e => absurd (h1.resolve_left e0) e)⟩)⟩)
theorem tx_rta_4 {y z : Int32} (hy : (y < 0 ∨ nI 81 ≤ y) ∨ (∃ s, s < 81 ∧ y = nI s) ∧ (z < 0 ∨ nI 81 ≤ z)) (h : post (-4)) : wX_refuseToAdd_31 post y z f K S M P T U Q := by
  rcases hy with hx | ⟨⟨s, hs, rfl⟩, hy⟩
  · exact tx_vert_n hx (br_t rfl h)
  · exact tx_vert_y hs (br_f (by decide) (tx_vert_n hy (br_t rfl h)))
theorem tx_rta_0 {a b : Nat} (ha : a < 81) (hb : b < 81) (h : post 0) : wX_refuseToAdd_31 post (nI a) (nI b) f K S M P T U Q := tx_vert_y ha (br_f (by decide) (tx_vert_y hb (br_f (by decide) h)))
theorem tx_shc {a b : Nat} (ha : a < 81) (hb : b < 81) (h : post (tp_b (decide (a / 9 = b / 9)))) : wpX_sharesColumn post (nI a) (nI b) := tx_col (by omega) (tx_col (by omega) (pk_eq (a / 9) (b / 9) (fun e => tp_p1 h (decide_eq_true e)) (fun e => tp_p0 h (decide_eq_false e))))
theorem tx_shr {a b : Nat} (ha : a < 81) (hb : b < 81) (h : post (tp_b (decide (a % 9 = b % 9)))) : wpX_sharesRow post (nI a) (nI b) := tx_row (by omega) (tx_row (by omega) (pk_eq (a % 9) (b % 9) (fun e => tp_p1 h (decide_eq_true e)) (fun e => tp_p0 h (decide_eq_false e))))
end
section
variable {post : Int32 → Prop} {K M H A B p q : Nat → Int32} {k : Nat → Nat}
theorem ty_ba_1 {x : Int32} (hx : x < 0 ∨ nI 12 ≤ x) (h : post (-1)) : wpY_badArea post (K, M, H, A, B, p, q) x := by
  unfold wpY_badArea
  dsimp only
  exact ty_slot_n hx (br_t rfl h)
theorem ty_ba_2 (hK : ∀ x, K x = nI (k x)) {s : Nat} (hs : s < 12) (hk : k s = 0) (h : post (-2)) : wpY_badArea post (K, M, H, A, B, p, q) (nI s) := by
  unfold wpY_badArea
  dsimp only
  rw [nI_clamp (by omega), hK s, hk]
  exact ty_slot_y hs (br_f (by decide) ⟨tp_in12 hs, br_t rfl h⟩)
theorem ty_ba_3 (hK : ∀ x, K x = nI (k x)) {s : Nat} (hs : s < 12) (h3 : k s ≤ 3) (h0 : k s ≠ 0) (hk : k s ≠ 3) (h : post (-3)) : wpY_badArea post (K, M, H, A, B, p, q) (nI s) := by
  unfold wpY_badArea
  dsimp only
  rw [nI_clamp (by omega), hK s]
  exact ty_slot_y hs (br_f (by decide) ⟨tp_in12 hs, br_f (nI_ne0 (by omega) (by omega)) ⟨tp_in12 hs, pk_eq (k s) 3 (fun z => absurd z hk) (fun _ => h)⟩⟩)
theorem ty_ba_0 (hK : ∀ x, K x = nI (k x)) {s : Nat} (hs : s < 12) (hk : k s = 3) (h : post 0) : wpY_badArea post (K, M, H, A, B, p, q) (nI s) := by
  unfold wpY_badArea
  dsimp only
  rw [nI_clamp (by omega), hK s, hk]
  exact ty_slot_y hs (br_f (by decide) ⟨tp_in12 hs, br_f (by decide) ⟨tp_in12 hs, br_t rfl h⟩⟩)
theorem ty_bp_1 {x y : Int32} (hx : (x < 0 ∨ nI 12 ≤ x) ∨ (∃ s, s < 12 ∧ x = nI s) ∧ (y < 0 ∨ nI 12 ≤ y)) (h : post (-1)) : wpY_badPair post (K, M, H, A, B, p, q) x y := by
  unfold wpY_badPair
  dsimp only
  rcases hx with hx | ⟨⟨s, hs, rfl⟩, hy⟩
  · exact ty_slot_n hx (br_t rfl h)
  · exact ty_slot_y hs (br_f (by decide) (ty_slot_n hy (br_t rfl h)))
theorem ty_bp_2 (hK : ∀ x, K x = nI (k x)) {s t : Nat} (hs : s < 12) (ht : t < 12) (h3 : k s ≤ 3) (hk : k s = 0 ∨ k t = 0) (h : post (-2)) : wpY_badPair post (K, M, H, A, B, p, q) (nI s) (nI t) := by
  unfold wpY_badPair
  dsimp only
  rw [nI_clamp (by omega), nI_clamp (by omega), hK s, hK t]
  refine ty_slot_y hs (br_f (by decide) (ty_slot_y ht (br_f (by decide) ⟨tp_in12 hs, ?_⟩)))
  refine pk_eq (k s) 0 (fun _ => h) (fun e => ⟨tp_in12 ht, ?_⟩)
  rw [hk.resolve_left e]
  exact br_t rfl h
theorem ty_bp_0 (hK : ∀ x, K x = nI (k x)) {s t : Nat} (hs : s < 12) (ht : t < 12) (h3 : k s ≤ 3) (h3t : k t ≤ 3) (hk : k s ≠ 0) (hkt : k t ≠ 0) (h : post 0) : wpY_badPair post (K, M, H, A, B, p, q) (nI s) (nI t) := by
  unfold wpY_badPair
  dsimp only
  rw [nI_clamp (by omega), nI_clamp (by omega), hK s, hK t]
  exact ty_slot_y hs (br_f (by decide) (ty_slot_y ht (br_f (by decide) ⟨tp_in12 hs, br_f (nI_ne0 (by omega) (by omega)) ⟨tp_in12 ht, br_f (nI_ne0 (by omega) (by omega)) h⟩⟩)))
theorem ty_bc_4 {y z : Int32} (hy : (y < 0 ∨ nI 81 ≤ y) ∨ (∃ s, s < 81 ∧ y = nI s) ∧ (z < 0 ∨ nI 81 ≤ z)) (h : post (-4)) : wpY_badCorners post (K, M, H, A, B, p, q) y z := by
  unfold wpY_badCorners
  dsimp only
  rcases hy with hx | ⟨⟨s, hs, rfl⟩, hy⟩
  · exact ty_vert_n hx (br_t rfl h)
  · exact ty_vert_y hs (br_f (by decide) (ty_vert_n hy (br_t rfl h)))
theorem ty_bc_5 {a b : Nat} (ha : a < 81) (hb : b < 81) (h : post (if a / 9 = b / 9 ∨ a % 9 = b % 9 then -5 else 0)) : wpY_badCorners post (K, M, H, A, B, p, q) (nI a) (nI b) := by
  unfold wpY_badCorners
  dsimp only
  rw [tp_r9 (by omega), tp_r9 (by omega), tp_d9 (by omega), tp_d9 (by omega)]
  refine ty_vert_y ha (br_f (by decide) (ty_vert_y hb (br_f (by decide) ⟨tp_9, tp_9, pk_eq (a / 9) (b / 9) (fun e => ?_) (fun e => ⟨tp_9, tp_9, pk_eq (a % 9) (b % 9) (fun e2 => ?_) (fun e2 => ?_)⟩)⟩)))
  · rw [if_pos (Or.inl e)] at h
    exact h
  · rw [if_pos (Or.inr e2)] at h
    exact h
  · rw [if_neg (fun z => z.elim e e2)] at h
    exact h
end
/-- two arguments, each within or not -/
theorem tp_rg2 (x y : Int32) (n : Nat) (hn : n < 2 ^ 31) : (∃ a b : Nat, a < n ∧ b < n ∧ x = nI a ∧ y = nI b) ∨ ((x < 0 ∨ nI n ≤ x) ∨ (∃ s, s < n ∧ x = nI s) ∧ (y < 0 ∨ nI n ≤ y)) := by
  rcases tp_rg x n hn with ⟨a, ha, rfl⟩ | hx
  · rcases tp_rg y n hn with ⟨b, hb, rfl⟩ | hy
    · exact Or.inl ⟨a, b, ha, hb, rfl, rfl⟩
    · exact Or.inr (Or.inr ⟨⟨a, ha, rfl⟩, hy⟩)
  · exact Or.inr (Or.inl hx)
end
section
def i_Rel (k : Nat) (u : SX) (v : SY) : Prop := ∃ (kk : Nat → Nat) (mm : Nat → Bool), tp_X kk mm u ∧ tp_Y kk mm v
theorem i_up {k : Nat} {u : SX} {v : SY} (h : i_Rel k u v) : i_Rel (k + 4) u v := h
theorem tp_Ok0 : tp_Ok 0 (fun _ => false) := ⟨by omega, (fun c hc e => nomatch e), fun h => absurd rfl h⟩
theorem tp_Cr0 {S P : Nat → Int32} (h1 : ∀ s, s < 12 → S s = nI 0) (h2 : ∀ s, s < 12 → ∀ c, c < 289 → P (289 * s + c) = nI 2) : tp_Cr (fun _ => 0) (fun _ => false) S P := by
  refine ⟨fun s hs => tp_Ok0, fun s hs => ?_, fun s hs c hc => ?_⟩
  · rw [h1 s hs, tp_cnt_y (f := tp_sl (fun _ => false) s) 289 (fun c _ => rfl)]
  · rw [h2 s hs c hc]
    exact congrArg nI (tp_pt_0 tp_Ok0 _ _).symm
theorem i_vc0 : wpX_init (fun u => wpY_init (fun v => i_Rel 0 u v)) := by
  refine loop_0 (fun n s (u : SX) => match u with | (f, K, S, M, P, T, U, Q) => wX_init_66 (fun u => wpY_init (fun v => i_Rel 0 u v)) n (nI s) f K S M P T U Q) (fun s (u : SX) => match u with | (_, K, S, M, P, _, _, _) => (∀ x, K x = nI 0) ∧ (∀ x, M x = tp_b false) ∧ (∀ s', s' < s → S s' = nI 0) ∧ (∀ s', s' < s → ∀ c, c < 289 → P (289 * s' + c) = nI 2)) 12 (0, (fun _ => 0), (fun _ => 0), (fun _ => 0), (fun _ => 0), (fun _ => 0), (fun _ => 0), (fun _ => 0)) ⟨fun _ => rfl, fun _ => rfl, fun s' h => absurd h (by omega), fun s' h => absurd h (by omega)⟩ ?_ ?_
  · rintro n ⟨f, K, S, M, P, T, U, Q⟩ ⟨hK, hM, hS, hP⟩
    refine br_t (tp_rfl 12) ?_
    exact ⟨fun _ => 0, fun _ => false, ⟨hK, hM, tp_Cr0 hS hP⟩, fun _ => rfl, fun _ => rfl⟩
  · rintro n s ⟨f, K, S, M, P, T, U, Q⟩ hs ⟨hK, hM, hS, hP⟩ ih
    refine br_f (nI_ge (b := 12) hs (by decide)) ?_
    refine tx_settle (k := fun _ => 0) (m := fun _ => false) (q := 0) hK hM hs (by omega) (fun K' P' a b o => nm_r (nI_1 s) (ih (_, _, _, _, _, _, _, _) ⟨fun x => ?_, hM, fun s' hs' => ?_, fun s' hs' c hc => ?_⟩))
    · rw [a x]
      refine congrArg nI ?_
      unfold tp_v
      split
      · split <;> rfl
      · rfl
    · by_cases e : s' = s
      · subst e
        rw [pk_us, tp_cnt_y (f := tp_sl (fun _ => false) s') 289 (fun c _ => rfl)]
      · rw [pk_un e]
        exact hS s' (by omega)
    · by_cases e : s' = s
      · subst e
        rw [b c hc]
        refine congrArg nI ?_
        rw [show (if tp_cnt (tp_sl (fun _ => false) s') 289 = 0 then 0 else 0) = 0 from by split <;> rfl]
        rw [tp_px_pt (g := tp_sl (fun _ => false) s') tp_Ok0, tp_pt_0 (g := tp_sl (fun _ => false) s') tp_Ok0]
      · rw [o _ (by omega)]
        exact hP s' (by omega) c hc
theorem i_vc_kind {k : Nat} {u : SX} {v : SY} (I : i_Rel k u v) (hk : k + 4 ≤ 2048) (v1 : Int32) : wpX_kind (fun r => wpY_kind (fun r' => r' = r ∧ i_Rel (k + 4) u v) v v1) u v1 := by
  have R : i_Rel (k + 4) u v := I
  obtain ⟨kk, mm, hX, hY⟩ := I
  obtain ⟨f, K, S, M, P, T, U, Q⟩ := u
  obtain ⟨K2, M2, H, A, B, p, q⟩ := v
  obtain ⟨hK, hM, hC⟩ := hX
  obtain ⟨hK2, hM2⟩ := hY
  unfold wpX_kind wpY_kind
  dsimp only
  rcases tp_rg v1 12 (by decide) with ⟨s, hs, rfl⟩ | hx
  · refine tx_slot_y hs (br_f (by decide) ⟨tp_in12 hs, ?_⟩)
    refine ty_slot_y hs (br_f (by decide) ⟨tp_in12 hs, ?_⟩)
    exact ⟨by rw [hK, hK2], R⟩
  · exact tx_slot_n hx (br_t rfl (ty_slot_n hx (br_t rfl ⟨rfl, R⟩)))
theorem i_vc_size {k : Nat} {u : SX} {v : SY} (I : i_Rel k u v) (hk : k + 4 ≤ 2048) (v1 : Int32) : wpX_size (fun r => wpY_size (fun r' => r' = r ∧ i_Rel (k + 4) u v) v v1) u v1 := by
  have R : i_Rel (k + 4) u v := I
  obtain ⟨kk, mm, hX, hY⟩ := I
  obtain ⟨f, K, S, M, P, T, U, Q⟩ := u
  obtain ⟨K2, M2, H, A, B, p, q⟩ := v
  obtain ⟨hK, hM, hC⟩ := hX
  obtain ⟨hK2, hM2⟩ := hY
  unfold wpX_size wpY_size
  dsimp only
  rcases tp_rg v1 12 (by decide) with ⟨s, hs, rfl⟩ | hx
  · refine tx_slot_y hs (br_f (by decide) ⟨tp_in12 hs, ?_⟩)
    refine ty_slot_y hs (br_f (by decide) ?_)
    refine ty_count hM2 hs ⟨?_, R⟩
    rw [nI_clamp (by omega), hC.2.1 s hs]
  · exact tx_slot_n hx (br_t rfl (ty_slot_n hx (br_t rfl ⟨rfl, R⟩)))
theorem i_vc_clear {k : Nat} {u : SX} {v : SY} (I : i_Rel k u v) (hk : k + 4 ≤ 2048) (v1 : Int32) : wpX_clear (fun r u' => wpY_clear (fun r' v' => r' = r ∧ i_Rel (k + 4) u' v') v v1) u v1 := by
  have R : i_Rel (k + 4) u v := I
  obtain ⟨kk, mm, hX, hY⟩ := I
  obtain ⟨f, K, S, M, P, T, U, Q⟩ := u
  obtain ⟨K2, M2, H, A, B, p, q⟩ := v
  obtain ⟨hK, hM, hC⟩ := hX
  obtain ⟨hK2, hM2⟩ := hY
  unfold wpX_clear wpY_clear
  dsimp only
  rcases tp_rg v1 12 (by decide) with ⟨s, hs, rfl⟩ | hx
  · refine tx_slot_y hs (br_f (by decide) ⟨tp_in12 hs, nm_e ?_⟩)
    refine loop_0 (fun n c M => wX_clear_18 _ (nI s) _ f n (nI c) K S M P T U Q) (fun c M => ∀ x, M x = tp_b (tp_w mm s (fun _ => false) c x)) 289 M (fun x => by rw [tp_w_0]; exact hM x) ?_ ?_
    · intro n M' hM'
      refine br_t (tp_rfl 289) ?_
      refine tx_fin (q := 0) hC hK hM' hs (by omega) (fun c hc e => nomatch e) (fun f K' S M P T U Q hu hS => ?_)
      refine ty_slot_y hs (br_f (by decide) ⟨tp_in12 hs, nm_e ?_⟩)
      refine ty_empty hK2 hM2 hs (fun v hv => ?_)
      obtain ⟨K3, M3, H, A, B, p, q⟩ := v
      refine ⟨by rw [hK, hK2], _, _, hu, ?_⟩
      rw [show (if tp_cnt (fun _ => false) 289 = 0 then 0 else 0) = 0 from by split <;> rfl]
      exact hv
    · intro n c M' hc hM' ih
      refine br_f (nI_ge (b := 289) hc (by decide)) ?_
      rw [tp_ix1, nI_clamp (by omega), tp_nar0]
      exact ⟨vp_in_nI (by omega) (by decide), nm_e (nm_r (nI_1 c) (ih _ (tp_wu hM' rfl)))⟩
  · exact tx_slot_n hx (br_t rfl (ty_slot_n hx (br_t rfl ⟨rfl, R⟩)))
theorem i_vc_point {k : Nat} {u : SX} {v : SY} (I : i_Rel k u v) (hk : k + 4 ≤ 2048) (v1 : Int32) (v2 : Int32) : wpX_point (fun r u' => wpY_point (fun r' v' => r' = r ∧ i_Rel (k + 4) u' v') v v1 v2) u v1 v2 := by
  have R : i_Rel (k + 4) u v := I
  obtain ⟨kk, mm, hX, hY⟩ := I
  obtain ⟨f, K, S, M, P, T, U, Q⟩ := u
  obtain ⟨K2, M2, H, A, B, p, q⟩ := v
  obtain ⟨hK, hM, hC⟩ := hX
  obtain ⟨hK2, hM2⟩ := hY
  unfold wpX_point
  dsimp only
  rcases tp_rg v1 12 (by decide) with ⟨s, hs, rfl⟩ | hx
  · have h3 := (hC.1 s hs).1
    by_cases h1 : kk s ≤ 1
    · rcases tp_rg v2 81 (by decide) with ⟨a, ha, rfl⟩ | hx
      · refine tx_rta_x (q := 1) hK hs h3 (by omega) (by omega) (tx_rta_0 ha ha (br_t rfl ?_))
        refine tx_mark (q := 1) (b := true) hM hs (by omega) (by omega) ha ha (fun M' hM' => ?_)
        refine tx_fin (q := 1) hC hK hM' hs (by omega) (tp_mk_t (hC.1 s hs) (by omega) true) (fun f K' S M P T U Q hu hS => ⟨tp_in12 hs, ?_⟩)
        dsimp only
        rw [nI_clamp (by omega), hS]
        have hp : ∃ c, c < 289 ∧ tp_mk (tp_sl mm s) 1 a a true c = true := ⟨17 * (2 * (a / 9)) + 2 * (a % 9), by omega, by rw [tp_mk_1 ha _ _ (by omega), tp_u_s]⟩
        rw [tp_Ok_p hp] at hu
        have em : tp_u mm (289 * s + (17 * (2 * (a / 9)) + 2 * (a % 9))) true = tp_w mm s (tp_mk (tp_sl mm s) 1 a a true) 289 := by
          rw [tp_w_u mm s _ true (by omega)]
          exact tp_w_c mm s (fun c hc => (tp_mk_1 ha _ c hc).symm)
        unfold wpY_point
        dsimp only
        refine ty_slot_y hs (br_f (by decide) ⟨tp_in12 hs, ?_⟩)
        rw [nI_clamp (by omega), hK2 s, tp_r9 (by omega), tp_d9 (by omega)]
        have ei : 289 * nI s + 34 * nI (a / 9) + 2 * nI (a % 9) = nI (289 * s + (17 * (2 * (a / 9)) + 2 * (a % 9))) := by
          rw [show (289 : Int32) = nI 289 from rfl, show (34 : Int32) = nI 34 from rfl, show (2 : Int32) = nI 2 from rfl, pk_mul, pk_mul, pk_mul, nI_add, nI_add]
          exact congrArg nI (by omega)
        rw [ei, nI_clamp (by omega), tp_nar1]
        refine br_t (nI_le (b := 1) h1 (by decide)) ?_
        refine ty_vert_y ha (br_f (by decide) ⟨tp_in12 hs, nm_e ⟨tp_9, tp_9, vp_in_nI (by omega) (by decide), nm_e ?_⟩⟩)
        have hM3 : ∀ x, upd M2 (289 * s + (17 * (2 * (a / 9)) + 2 * (a % 9))) (tp_b true) x = tp_b (tp_w mm s (tp_mk (tp_sl mm s) 1 a a true) 289 x) := by
          intro x
          rw [tp_uM hM2, em]
        refine ty_count hM3 hs ⟨?_, _, _, hu, fun x => tp_uK hK2 s 1 x, hM3⟩
        rw [tp_cnt_congr 289 (tp_sl_w mm s _)]
      · refine tx_rta_x (q := 1) hK hs h3 (by omega) (by omega) (tx_rta_4 (Or.inl hx) (br_f (by decide) ?_))
        unfold wpY_point
        dsimp only
        refine ty_slot_y hs (br_f (by decide) ⟨tp_in12 hs, ?_⟩)
        rw [nI_clamp (by omega), hK2 s]
        exact br_t (nI_le (b := 1) h1 (by decide)) (ty_vert_n hx (br_t rfl ⟨rfl, R⟩))
    · refine tx_rta_3 (q := 1) hK hs h3 (by omega) (by omega) (by omega) (br_f (by decide) ?_)
      unfold wpY_point
      dsimp only
      refine ty_slot_y hs (br_f (by decide) ⟨tp_in12 hs, ?_⟩)
      rw [nI_clamp (by omega), hK2 s]
      exact br_f (fun z => h1 ((nI_leI (b := 1) (by omega) (by decide)).mp z)) ⟨rfl, R⟩
  · refine tx_rta_1 hx (br_f (by decide) ?_)
    unfold wpY_point
    dsimp only
    exact ty_slot_n hx (br_t rfl ⟨rfl, R⟩)
end
section
theorem i_vc_line {k : Nat} {u : SX} {v : SY} (I : i_Rel k u v) (hk : k + 4 ≤ 2048) (v1 : Int32) (v2 : Int32) (v3 : Int32) : wpX_line (fun r u' => wpY_line (fun r' v' => r' = r ∧ i_Rel (k + 4) u' v') v v1 v2 v3) u v1 v2 v3 := by
  have R : i_Rel (k + 4) u v := I
  obtain ⟨kk, mm, hX, hY⟩ := I
  obtain ⟨f, K, S, M, P, T, U, Q⟩ := u
  obtain ⟨K2, M2, H, A, B, p, q⟩ := v
  obtain ⟨hK, hM, hC⟩ := hX
  obtain ⟨hK2, hM2⟩ := hY
  unfold wpX_line
  dsimp only
  rcases tp_rg v1 12 (by decide) with ⟨s, hs, rfl⟩ | hx
  · have h3 := (hC.1 s hs).1
    by_cases h1 : kk s = 0 ∨ kk s = 2
    · have yb : ∀ post : Int32 → SY → Prop, wY_line_32 post (nI s) v2 v3 K2 M2 H A B p q → wpY_line post (K2, M2, H, A, B, p, q) (nI s) v2 v3 := by
        intro post h
        unfold wpY_line
        dsimp only
        rw [nI_clamp (by omega), hK2 s]
        exact ty_slot_y hs (br_f (by decide) ⟨tp_in12 hs, pk_eq (kk s) 0 (fun _ => h) (fun e => ⟨tp_in12 hs, pk_eq (kk s) 2 (fun _ => h) (fun e2 => absurd (h1.resolve_left e) e2)⟩)⟩)
      rcases tp_rg2 v2 v3 81 (by decide) with ⟨a, b, ha, hb, rfl, rfl⟩ | hx
      · refine tx_rta_x (q := 2) hK hs h3 (by omega) h1 (tx_rta_0 ha hb (br_t rfl ?_))
        refine tx_shc ha hb ?_
        refine tx_shr ha hb ?_
        have key : (¬ ((a / 9 = b / 9) ↔ (a % 9 = b % 9))) → wpX_mark (fun u => match u with | (f, K, S, M, P, T, U, Q) => (wpX_settle (fun u => match u with | (f, K, S, M, P, T, U, Q) => (vp_in (nI s) 12 ∧ (wpY_line (fun r' v' => r' = S (nI s).toNatClampNeg ∧ i_Rel (k + 4) (f, K, S, M, P, T, U, Q) v') (K2, M2, H, A, B, p, q) (nI s) (nI a) (nI b)))) (f, K, S, M, P, T, U, Q) (nI s) 2)) (f, K, S, M, P, T, U, Q) (nI s) 2 (nI a) (nI b) 1 := by
          intro hne
          refine tx_mark (q := 2) (b := true) hM hs (by omega) (by omega) ha hb (fun M' hM' => ?_)
          refine tx_fin (q := 2) hC hK hM' hs (by omega) (tp_mk_t (hC.1 s hs) h1 true) (fun f K' S M P T U Q hu hS => ⟨tp_in12 hs, ?_⟩)
          rw [nI_clamp (by omega), hS]
          rw [tp_Ok_p (tp_mk_2 ha hb hne _)] at hu
          refine yb _ ?_
          unfold wY_line_32
          rw [tp_r9 (by omega), tp_r9 (by omega), tp_d9 (by omega), tp_d9 (by omega), nI_clamp (by omega)]
          refine ty_vert_y ha (br_f (by decide) ?_)
          refine ty_vert_y hb (br_f (by decide) ?_)
          have fin : ∃ n, wY_line_91 (fun r' v' => r' = nI (tp_cnt (tp_mk (tp_sl mm s) 2 a b true) 289) ∧ i_Rel (k + 4) (f, K', S, M, P, T, U, Q) v') (nI s) (nI a) (nI b) n 0 (upd K2 s 2) M2 H A B p q := ty_line91 hM2 hs ha hb (fun M3 hM3 => ⟨rfl, _, _, hu, fun x => tp_uK hK2 s 2 x, hM3⟩)
          refine pk_eq a b (fun e => absurd ?_ hne) (fun e => ⟨tp_9, tp_9, pk_eq (a / 9) (b / 9) (fun e1 => ⟨tp_in12 hs, nm_e fin⟩) (fun e1 => ⟨tp_9, tp_9, pk_eq (a % 9) (b % 9) (fun e2 => ⟨tp_in12 hs, nm_e fin⟩) (fun e2 => absurd ?_ hne)⟩)⟩)
          · rw [e]
            exact ⟨fun _ => rfl, fun _ => rfl⟩
          · exact ⟨fun z => absurd z e1, fun z => absurd z e2⟩
        have bad : ((a / 9 = b / 9) ↔ (a % 9 = b % 9)) → wpY_line (fun r' v' => r' = -5 ∧ i_Rel (k + 4) (f, K, S, M, P, T, U, Q) v') (K2, M2, H, A, B, p, q) (nI s) (nI a) (nI b) := by
          intro he
          refine yb _ ?_
          unfold wY_line_32
          rw [tp_r9 (by omega), tp_r9 (by omega), tp_d9 (by omega), tp_d9 (by omega)]
          refine ty_vert_y ha (br_f (by decide) ?_)
          refine ty_vert_y hb (br_f (by decide) ?_)
          refine pk_eq a b (fun e => ⟨rfl, R⟩) (fun e => ⟨tp_9, tp_9, pk_eq (a / 9) (b / 9) (fun e1 => absurd (he.mp e1) ?_) (fun e1 => ⟨tp_9, tp_9, pk_eq (a % 9) (b % 9) (fun e2 => absurd (he.mpr e2) e1) (fun e2 => ⟨rfl, R⟩)⟩)⟩)
          omega
        by_cases e1 : a / 9 = b / 9 <;> by_cases e2 : a % 9 = b % 9
        · rw [decide_eq_true e1, decide_eq_true e2]
          exact br_t rfl (bad ⟨fun _ => e2, fun _ => e1⟩)
        · rw [decide_eq_true e1, decide_eq_false e2]
          exact br_f (by decide) (key (fun z => e2 (z.mp e1)))
        · rw [decide_eq_false e1, decide_eq_true e2]
          exact br_f (by decide) (key (fun z => e1 (z.mpr e2)))
        · rw [decide_eq_false e1, decide_eq_false e2]
          exact br_t rfl (bad ⟨fun z => absurd z e1, fun z => absurd z e2⟩)
      · refine tx_rta_x (q := 2) hK hs h3 (by omega) h1 (tx_rta_4 hx (br_f (by decide) ?_))
        refine yb _ ?_
        unfold wY_line_32
        rcases hx with hx | ⟨⟨a, ha, rfl⟩, hy⟩
        · exact ty_vert_n hx (br_t rfl ⟨rfl, R⟩)
        · exact ty_vert_y ha (br_f (by decide) (ty_vert_n hy (br_t rfl ⟨rfl, R⟩)))
    · refine tx_rta_3 (q := 2) hK hs h3 (by omega) (by omega) (by omega) (br_f (by decide) ?_)
      unfold wpY_line
      dsimp only
      rw [nI_clamp (by omega), hK2 s]
      exact ty_slot_y hs (br_f (by decide) ⟨tp_in12 hs, pk_eq (kk s) 0 (fun e => absurd (Or.inl e) h1) (fun e => ⟨tp_in12 hs, pk_eq (kk s) 2 (fun e => absurd (Or.inr e) h1) (fun e2 => ⟨rfl, R⟩)⟩)⟩)
  · refine tx_rta_1 hx (br_f (by decide) ?_)
    unfold wpY_line
    dsimp only
    exact ty_slot_n hx (br_t rfl ⟨rfl, R⟩)
theorem i_vc_rectangle {k : Nat} {u : SX} {v : SY} (I : i_Rel k u v) (hk : k + 4 ≤ 2048) (v1 : Int32) (v2 : Int32) (v3 : Int32) : wpX_rectangle (fun r u' => wpY_rectangle (fun r' v' => r' = r ∧ i_Rel (k + 4) u' v') v v1 v2 v3) u v1 v2 v3 := by
  have R : i_Rel (k + 4) u v := I
  obtain ⟨kk, mm, hX, hY⟩ := I
  obtain ⟨f, K, S, M, P, T, U, Q⟩ := u
  obtain ⟨K2, M2, H, A, B, p, q⟩ := v
  obtain ⟨hK, hM, hC⟩ := hX
  obtain ⟨hK2, hM2⟩ := hY
  unfold wpX_rectangle
  dsimp only
  rcases tp_rg v1 12 (by decide) with ⟨s, hs, rfl⟩ | hx
  · have h3 := (hC.1 s hs).1
    by_cases h1 : kk s = 0 ∨ kk s = 3
    · have yb : ∀ post : Int32 → SY → Prop, wY_rectangle_32 post (nI s) v2 v3 K2 M2 H A B p q → wpY_rectangle post (K2, M2, H, A, B, p, q) (nI s) v2 v3 := by
        intro post h
        unfold wpY_rectangle
        dsimp only
        rw [nI_clamp (by omega), hK2 s]
        exact ty_slot_y hs (br_f (by decide) ⟨tp_in12 hs, pk_eq (kk s) 0 (fun _ => h) (fun e => ⟨tp_in12 hs, pk_eq (kk s) 3 (fun _ => h) (fun e2 => absurd (h1.resolve_left e) e2)⟩)⟩)
      rcases tp_rg2 v2 v3 81 (by decide) with ⟨a, b, ha, hb, rfl, rfl⟩ | hx
      · refine tx_rta_x (q := 3) hK hs h3 (by omega) h1 (tx_rta_0 ha hb (br_t rfl ?_))
        refine tx_shc ha hb ?_
        have bad : (a / 9 = b / 9 ∨ a % 9 = b % 9) → wpY_rectangle (fun r' v' => r' = -5 ∧ i_Rel (k + 4) (f, K, S, M, P, T, U, Q) v') (K2, M2, H, A, B, p, q) (nI s) (nI a) (nI b) := by
          intro he
          refine yb _ ?_
          unfold wY_rectangle_32
          refine ty_bc_5 ha hb ?_
          rw [if_pos he]
          exact br_f (by decide) ⟨rfl, R⟩
        refine tp_br (fun e1 => ?_) (fun e1 => bad (Or.inl (of_decide_eq_true e1)))
        have e1 := of_decide_eq_false e1
        refine tx_shr ha hb ?_
        refine tp_br (fun e2 => ?_) (fun e2 => bad (Or.inr (of_decide_eq_true e2)))
        have e2 := of_decide_eq_false e2
        refine tx_mark (q := 3) (b := true) hM hs (by omega) (by omega) ha hb (fun M' hM' => ?_)
        refine tx_fin (q := 3) hC hK hM' hs (by omega) (tp_mk_t (hC.1 s hs) h1 true) (fun f K' S M P T U Q hu hS => ⟨tp_in12 hs, ?_⟩)
        dsimp only
        rw [nI_clamp (by omega), hS]
        rw [tp_Ok_p (tp_mk_3 ha hb e1 e2 _)] at hu
        refine yb _ ?_
        unfold wY_rectangle_32
        refine ty_bc_5 ha hb ?_
        rw [if_neg (fun z => z.elim e1 e2), nI_clamp (by omega)]
        refine br_t (by decide) ⟨tp_in12 hs, nm_e ?_⟩
        refine ty_cells (b := true) hM2 hs ha hb (fun M3 hM3 => ?_)
        refine ty_count hM3 hs ⟨?_, _, _, hu, fun x => tp_uK hK2 s 3 x, hM3⟩
        rw [tp_cnt_congr 289 (tp_sl_w mm s _)]
      · refine tx_rta_x (q := 3) hK hs h3 (by omega) h1 (tx_rta_4 hx (br_f (by decide) ?_))
        refine yb _ ?_
        unfold wY_rectangle_32
        exact ty_bc_4 hx (br_f (by decide) ⟨rfl, R⟩)
    · refine tx_rta_3 (q := 3) hK hs h3 (by omega) (by omega) (by omega) (br_f (by decide) ?_)
      unfold wpY_rectangle
      dsimp only
      rw [nI_clamp (by omega), hK2 s]
      exact ty_slot_y hs (br_f (by decide) ⟨tp_in12 hs, pk_eq (kk s) 0 (fun e => absurd (Or.inl e) h1) (fun e => ⟨tp_in12 hs, pk_eq (kk s) 3 (fun e => absurd (Or.inr e) h1) (fun e2 => ⟨rfl, R⟩)⟩)⟩)
  · refine tx_rta_1 hx (br_f (by decide) ?_)
    unfold wpY_rectangle
    dsimp only
    exact ty_slot_n hx (br_t rfl ⟨rfl, R⟩)
theorem i_vc_cut {k : Nat} {u : SX} {v : SY} (I : i_Rel k u v) (hk : k + 4 ≤ 2048) (v1 : Int32) (v2 : Int32) (v3 : Int32) : wpX_cut (fun r u' => wpY_cut (fun r' v' => r' = r ∧ i_Rel (k + 4) u' v') v v1 v2 v3) u v1 v2 v3 := by
  have R : i_Rel (k + 4) u v := I
  obtain ⟨kk, mm, hX, hY⟩ := I
  obtain ⟨f, K, S, M, P, T, U, Q⟩ := u
  obtain ⟨K2, M2, H, A, B, p, q⟩ := v
  obtain ⟨hK, hM, hC⟩ := hX
  obtain ⟨hK2, hM2⟩ := hY
  unfold wpX_cut wpY_cut
  dsimp only
  rcases tp_rg v1 12 (by decide) with ⟨s, hs, rfl⟩ | hx
  · have h3 := (hC.1 s hs).1
    by_cases h0 : kk s = 0
    · exact tx_raa_2 hK hs h0 (br_f (by decide) (ty_ba_2 hK2 hs h0 (br_f (by decide) ⟨rfl, R⟩)))
    by_cases h1 : kk s = 3
    · refine tx_raa_0 hK hs h1 (br_t rfl ?_)
      rcases tp_rg2 v2 v3 81 (by decide) with ⟨a, b, ha, hb, rfl, rfl⟩ | hx
      · refine tx_vert_y ha (br_f (by decide) ?_)
        refine tx_vert_y hb (br_f (by decide) ?_)
        refine tx_shc ha hb ?_
        refine tp_br (fun e1 => ?_) (fun e1 => ?_)
        · have e1 := of_decide_eq_false e1
          refine tx_shr ha hb ?_
          refine tp_br (fun e2 => ?_) (fun e2 => ?_)
          · have e2 := of_decide_eq_false e2
            refine tx_mark (q := 3) (b := false) hM hs (by omega) (by omega) ha hb (fun M' hM' => ?_)
            refine tx_fin (q := 3) hC hK hM' hs (by omega) (tp_mk_t (hC.1 s hs) (Or.inr h1) false) (fun f K' S M P T U Q hu hS => ⟨tp_in12 hs, ?_⟩)
            dsimp only
            rw [nI_clamp (by omega), hS]
            refine ty_ba_0 hK2 hs h1 (br_t (by decide) ?_)
            refine ty_bc_5 ha hb ?_
            rw [if_neg (fun z => z.elim e1 e2)]
            refine br_t (by decide) ?_
            refine ty_cells (b := false) hM2 hs ha hb (fun M3 hM3 => ?_)
            refine ty_settle hK2 hM3 hs (fun K3 hK3 => ⟨rfl, _, _, hu, ?_, hM3⟩)
            rw [h1] at hK3
            exact hK3
          · refine ty_ba_0 hK2 hs h1 (br_t (by decide) ?_)
            refine ty_bc_5 ha hb ?_
            rw [if_pos (Or.inr (of_decide_eq_true e2))]
            exact br_f (by decide) ⟨rfl, R⟩
        · refine ty_ba_0 hK2 hs h1 (br_t (by decide) ?_)
          refine ty_bc_5 ha hb ?_
          rw [if_pos (Or.inl (of_decide_eq_true e1))]
          exact br_f (by decide) ⟨rfl, R⟩
      · have fin : wpY_badArea (fun r_1 => (((0 ≤ r_1 → (wpY_badCorners (fun r_10 => (((0 ≤ r_10 → (wpY_setCells (fun u => match u with | (a_kinds_20, a_member_21, a_held_22, a_first_23, a_second_24, a_piece_25, a_queue_26) => (wpY_settle (fun r_27 u => match u with | (a_kinds_28, a_member_29, a_held_30, a_first_31, a_second_32, a_piece_33, a_queue_34) => (r_27 = -4 ∧ i_Rel (k + 4) (f, K, S, M, P, T, U, Q) (a_kinds_28, a_member_29, a_held_30, a_first_31, a_second_32, a_piece_33, a_queue_34))) (a_kinds_20, a_member_21, a_held_22, a_first_23, a_second_24, a_piece_25, a_queue_26) (nI s))) (K2, M2, H, A, B, p, q) (nI s) v2 v3 0)) ∧ (¬ 0 ≤ r_10 → (r_10 = -4 ∧ i_Rel (k + 4) (f, K, S, M, P, T, U, Q) (K2, M2, H, A, B, p, q)))))) (K2, M2, H, A, B, p, q) v2 v3)) ∧ (¬ 0 ≤ r_1 → (r_1 = -4 ∧ i_Rel (k + 4) (f, K, S, M, P, T, U, Q) (K2, M2, H, A, B, p, q)))))) (K2, M2, H, A, B, p, q) (nI s) := ty_ba_0 hK2 hs h1 (br_t (by decide) (ty_bc_4 hx (br_f (by decide) ⟨rfl, R⟩)))
        rcases hx with hx | ⟨⟨a, ha, rfl⟩, hy⟩
        · exact tx_vert_n hx (br_t rfl fin)
        · exact tx_vert_y ha (br_f (by decide) (tx_vert_n hy (br_t rfl fin)))
    · exact tx_raa_3 hK hs h3 h0 h1 (br_f (by decide) (ty_ba_3 hK2 hs h3 h0 h1 (br_f (by decide) ⟨rfl, R⟩)))
  · exact tx_raa_1 hx (br_f (by decide) (ty_ba_1 hx (br_f (by decide) ⟨rfl, R⟩)))
theorem i_vc_combine {k : Nat} {u : SX} {v : SY} (I : i_Rel k u v) (hk : k + 4 ≤ 2048) (v1 : Int32) (v2 : Int32) (v3 : Int32) : wpX_combine (fun r u' => wpY_combine (fun r' v' => r' = r ∧ i_Rel (k + 4) u' v') v v1 v2 v3) u v1 v2 v3 := by
  have R : i_Rel (k + 4) u v := I
  obtain ⟨kk, mm, hX, hY⟩ := I
  obtain ⟨f, K, S, M, P, T, U, Q⟩ := u
  obtain ⟨K2, M2, H, A, B, p, q⟩ := v
  obtain ⟨hK, hM, hC⟩ := hX
  obtain ⟨hK2, hM2⟩ := hY
  unfold wpX_combine
  dsimp only
  rcases tp_rg2 v1 v2 12 (by decide) with ⟨s, t, hs, ht, rfl, rfl⟩ | hx
  · have h3 := (hC.1 s hs).1
    have h3t := (hC.1 t ht).1
    rw [nI_clamp (by omega), nI_clamp (by omega), hK s, hK t]
    by_cases h0 : kk s = 0 ∨ kk t = 0
    · refine tx_rss_2 hK hs ht h3 h0 (br_f (by decide) ?_)
      unfold wpY_combine
      dsimp only
      rw [nI_clamp (by omega), nI_clamp (by omega), hK2 s, hK2 t]
      refine ty_slot_y hs (br_f (by decide) (ty_slot_y ht (br_f (by decide) ⟨tp_in12 hs, ?_⟩)))
      exact pk_eq (kk s) 0 (fun _ => ⟨rfl, R⟩) (fun e => ⟨tp_in12 ht, pk_eq (kk t) 0 (fun _ => ⟨rfl, R⟩) (fun e2 => absurd (h0.resolve_left e) e2)⟩)
    · refine tx_rss_0 hK hs ht h3 h3t (fun z => h0 (Or.inl z)) (fun z => h0 (Or.inr z)) (br_t rfl ⟨tp_in12 hs, tp_in12 ht, ?_⟩)
      have yb : ∀ post : Int32 → SY → Prop, (kk s ≠ kk t → post (-3) (K2, M2, H, A, B, p, q)) → (kk s = kk t → (((v3 < 0 → (post (-6) (K2, M2, H, A, B, p, q))) ∧ (¬ v3 < 0 → (((v3 ≤ 3 → (∃ n72 : Nat, wY_combine_72 post (nI s) (nI t) v3 n72 0 K2 M2 H A B p q)) ∧ (¬ v3 ≤ 3 → (post (-6) (K2, M2, H, A, B, p, q)))))))))
 → wpY_combine post (K2, M2, H, A, B, p, q) (nI s) (nI t) v3 := by
        intro post ha hb
        unfold wpY_combine
        dsimp only
        rw [nI_clamp (by omega), nI_clamp (by omega), hK2 s, hK2 t]
        exact ty_slot_y hs (br_f (by decide) (ty_slot_y ht (br_f (by decide) ⟨tp_in12 hs, br_f (nI_ne0 (by omega) (by omega)) ⟨tp_in12 ht, br_f (nI_ne0 (by omega) (by omega)) ⟨tp_in12 hs, tp_in12 ht, pk_eq (kk s) (kk t) hb ha⟩⟩⟩)))
      refine pk_eq (kk s) (kk t) (fun e => ?_) (fun e => yb _ (fun _ => ⟨rfl, R⟩) (fun z => absurd z e))
      rcases tp_rg v3 4 (by decide) with ⟨w, hw, rfl⟩ | hx
      · refine br_f (nI_pos (by omega)) (br_t (nI_le (b := 3) (by omega) (by decide)) ?_)
        refine tx_comb49 hC hK hM hs ht (by omega) e rfl (fun u hu => ?_)
        refine yb _ (fun z => absurd e z) (fun _ => ?_)
        refine br_f (nI_pos (by omega)) (br_t (nI_le (b := 3) (by omega) (by decide)) ?_)
        exact ty_comb72 hK2 hM2 hs ht (by omega) rfl (fun v hv => ⟨rfl, _, _, hu, hv⟩)
      · by_cases hn : v3 < 0
        · exact br_t hn (yb _ (fun z => absurd e z) (fun _ => br_t hn ⟨rfl, R⟩))
        · have hm : ¬ v3 ≤ 3 := by
            intro z
            have z1 := (tp_leR (x := v3) (n := 3) (by decide)).mp z
            have z2 := (tp_leL (x := v3) (n := 4) (by decide)).mp (hx.resolve_left hn)
            omega
          exact br_f hn (br_f hm (yb _ (fun z => absurd e z) (fun _ => br_f hn (br_f hm ⟨rfl, R⟩))))
  · refine tx_rss_1 hx (br_f (by decide) ?_)
    unfold wpY_combine
    dsimp only
    rcases hx with hx | ⟨⟨s, hs, rfl⟩, hy⟩
    · exact ty_slot_n hx (br_t rfl ⟨rfl, R⟩)
    · exact ty_slot_y hs (br_f (by decide) (ty_slot_n hy (br_t rfl ⟨rfl, R⟩)))
end
section
theorem tp_16 {x : Int32} (h : ¬ 16 < x) (h0 : ¬ x < 0) : ∃ i : Nat, i ≤ 16 ∧ x = nI i := by
  have a1 : ¬ x.toInt < 0 := fun z => h0 (tp_lt0.mpr z)
  have a2 : ¬ ((16 : Nat) : Int) < x.toInt := fun z => h ((tp_ltL (x := x) (n := 16) (by decide)).mpr z)
  exact tp_nat (n := 16) (by omega) (by omega)
theorem i_vc_part {k : Nat} {u : SX} {v : SY} (I : i_Rel k u v) (hk : k + 4 ≤ 2048) (v1 : Int32) (v2 : Int32) (v3 : Int32) : wpX_part (fun r => wpY_part (fun r' => r' = r ∧ i_Rel (k + 4) u v) v v1 v2 v3) u v1 v2 v3 := by
  have R : i_Rel (k + 4) u v := I
  obtain ⟨kk, mm, hX, hY⟩ := I
  obtain ⟨f, K, S, M, P, T, U, Q⟩ := u
  obtain ⟨K2, M2, H, A, B, p, q⟩ := v
  obtain ⟨hK, hM, hC⟩ := hX
  obtain ⟨hK2, hM2⟩ := hY
  unfold wpX_part
  dsimp only
  rcases tp_rg v1 12 (by decide) with ⟨s, hs, rfl⟩ | hx
  · have h3 := (hC.1 s hs).1
    by_cases h0 : kk s = 0
    · refine tx_ras_2 hK hs h0 (br_f (by decide) ?_)
      unfold wpY_part
      dsimp only
      rw [nI_clamp (by omega), hK2 s, h0]
      exact ty_slot_y hs (br_f (by decide) ⟨tp_in12 hs, br_t rfl ⟨rfl, R⟩⟩)
    · refine tx_ras_0 hK hs h3 h0 (br_t rfl ?_)
      refine tx_grid ?_
      refine tp_br (fun g => ?_) (fun g => ?_)
      · have g := tp_g_f.mp g
        unfold wpY_part
        dsimp only
        rw [nI_clamp (by omega), hK2 s]
        refine ty_slot_y hs (br_f (by decide) ⟨tp_in12 hs, br_f (nI_ne0 (by omega) (by omega)) ?_⟩)
        refine br_c (fun _ => ⟨rfl, R⟩) (fun a => br_c (fun _ => ⟨rfl, R⟩) (fun b => br_c (fun _ => ⟨rfl, R⟩) (fun c => br_c (fun d => absurd ?_ g) (fun _ => ⟨rfl, R⟩))))
        have a1 : ¬ v2.toInt < 0 := fun z => a (tp_lt0.mpr z)
        have a2 : ¬ ((16 : Nat) : Int) < v2.toInt := fun z => b ((tp_ltL (x := v2) (n := 16) (by decide)).mpr z)
        have a3 : ¬ v3.toInt < 0 := fun z => c (tp_lt0.mpr z)
        have a4 := (tp_leR (x := v3) (n := 16) (by decide)).mp d
        omega
      · have g := tp_g_t.mp g
        obtain ⟨i, hi, rfl⟩ := tp_nat (n := 16) g.1 (by omega)
        obtain ⟨j, hj, rfl⟩ := tp_nat (n := 16) g.2.2.1 (by omega)
        rw [tp_ix2, nI_clamp (by omega)]
        refine ⟨vp_in_nI (by omega) (by decide), ?_⟩
        rw [hC.2.2 s hs (17 * i + j) (by omega), show (17 * i + j) / 17 = i from by omega, show (17 * i + j) % 17 = j from by omega]
        unfold wpY_part
        dsimp only
        rw [nI_clamp (by omega), hK2 s]
        refine ty_slot_y hs (br_f (by decide) ⟨tp_in12 hs, br_f (nI_ne0 (by omega) (by omega)) ?_⟩)
        refine br_f (nI_pos (by omega)) (br_f (nI_nlt (a := 16) hi (by decide)) (br_f (nI_pos (by omega)) (br_t (nI_le (b := 16) hj (by decide)) ?_)))
        exact ty_part hK2 hM2 hs h3 (by omega) (by omega) ⟨rfl, R⟩
  · refine tx_ras_1 hx (br_f (by decide) ?_)
    unfold wpY_part
    dsimp only
    exact ty_slot_n hx (br_t rfl ⟨rfl, R⟩)
theorem tx_inb {post : Int32 → Prop} {f : Int32} {K S M P T U Q : Nat → Int32} {k : Nat → Nat} {m : Nat → Bool} (hC : tp_Cr k m S P) {s i j : Nat} (hs : s < 12) (hi : i ≤ 16) (hj : j ≤ 16) (h : post (tp_b (decide (tp_pt (k s) (tp_sl m s) i j ≠ 2)))) : wpX_isInBody post (f, K, S, M, P, T, U, Q) (nI s) (nI i) (nI j) := by
  unfold wpX_isInBody
  dsimp only
  rw [tp_ix2, nI_clamp (by omega), hC.2.2 s hs (17 * i + j) (by omega), show (17 * i + j) / 17 = i from by omega, show (17 * i + j) % 17 = j from by omega]
  have h2 := tp_pt_le (k s) (tp_sl m s) i j
  exact ⟨vp_in_nI (by omega) (by decide), pk_eq (tp_pt (k s) (tp_sl m s) i j) 2 (fun e => tp_p0 h (decide_eq_false (fun z => z e))) (fun e => tp_p1 h (decide_eq_true e))⟩
theorem tx_hcb {post : Int32 → Prop} {f : Int32} {K S M P T U Q : Nat → Int32} {k : Nat → Nat} {m : Nat → Bool} (hC : tp_Cr k m S P) {s a b : Nat} (hs : s < 12) (hk : k s = 3) (ha : a + 2 ≤ 16) (hb : b + 2 ≤ 16) (h : post (tp_b (tp_cb (tp_sl m s) a b || tp_cb (tp_sl m s) a (b + 2) || tp_cb (tp_sl m s) (a + 2) b || tp_cb (tp_sl m s) (a + 2) (b + 2)))) : wpX_hasCornerInBody post (f, K, S, M, P, T, U, Q) (nI s) (nI (a + 1)) (nI (b + 1)) := by
  unfold wpX_hasCornerInBody
  dsimp only
  rw [nI_pred, nI_pred, nI_1, nI_1]
  have e : ∀ i j, decide (tp_pt (k s) (tp_sl m s) i j ≠ 2) = tp_cb (tp_sl m s) i j := fun i j => by rw [hk]; rfl
  refine tx_inb hC hs (by omega) (by omega) ?_
  rw [e]
  refine tp_br (fun e1 => ?_) (fun e1 => tp_p1 h (by rw [e1]; simp))
  refine tx_inb hC hs (by omega) (by omega) ?_
  rw [e]
  refine tp_br (fun e2 => ?_) (fun e2 => tp_p1 h (by rw [e2]; simp))
  refine tx_inb hC hs (by omega) (by omega) ?_
  rw [e]
  refine tp_br (fun e3 => ?_) (fun e3 => tp_p1 h (by rw [e3]; simp))
  refine tx_inb hC hs (by omega) (by omega) ?_
  rw [e]
  refine tp_br (fun e4 => ?_) (fun e4 => tp_p1 h (by rw [e4]; simp))
  exact tp_p0 h (by rw [e1, e2, e3, e4]; rfl)
theorem tp_pl2 (a : Nat) : nI (2 * a + 1) + 2 = nI (2 * (a + 1) + 1) := by
  rw [show (2 : Int32) = nI 2 from rfl, nI_add]
  exact congrArg nI (by omega)
/-- an area grown -/
def tp_gr (g : Nat → Bool) : Nat → Bool := fun c => g c || (decide (c / 17 % 2 = 1 ∧ c % 17 % 2 = 1) && tp_nf g (c / 17) (c % 17) 9)
def tp_gh (g : Nat → Bool) : Nat → Bool := fun c => decide (c / 17 % 2 = 1 ∧ c % 17 % 2 = 1) && tp_nf g (c / 17) (c % 17) 9
theorem tp_nf_s {g : Nat → Bool} {i j : Nat} (hi : i ≤ 16) (hj : j ≤ 16) (h : g (17 * i + j) = true) : tp_nf g i j 9 = true := by
  have h5 : tp_nf g i j 5 = true := by
    show (tp_nf g i j 4 || tp_hs g (((i + 2 * (4 / 3) : Nat) : Int) - 2) (((j + 2 * (4 % 3) : Nat) : Int) - 2)) = true
    rw [show (((i + 2 * (4 / 3) : Nat) : Int) - 2) = i from by omega, show (((j + 2 * (4 % 3) : Nat) : Int) - 2) = j from by omega, tp_hs_in g hi hj, h, Bool.or_true]
  show ((((tp_nf g i j 5 || _) || _) || _) || _) = true
  rw [h5]
  rfl
theorem tp_gr_gh {g : Nat → Bool} (H : tp_Ok 3 g) : ∀ c, c < 289 → tp_gr g c = tp_gh g c := by
  intro c hc
  unfold tp_gr tp_gh
  cases e : g c with
  | false => rw [Bool.false_or]
  | true =>
    have hd := H.2.1 c hc e
    unfold tp_dm at hd
    rw [decide_eq_true (by omega), tp_nf_s (by omega) (by omega) (by rw [show 17 * (c / 17) + c % 17 = c from by omega]; exact e)]
    rfl
theorem tx_grow14 {post : Int32 → SX → Prop} {f : Int32} {K S M P T U Q : Nat → Int32} {k : Nat → Nat} {m : Nat → Bool} (hC : tp_Cr k m S P) (hK : ∀ x, K x = nI (k x)) (hM : ∀ x, M x = tp_b (m x)) {s : Nat} (hs : s < 12) (hk : k s = 3) (h : ∀ u, tp_X k (tp_w m s (tp_gh (tp_sl m s)) 289) u → post (nI (tp_cnt (tp_gh (tp_sl m s)) 289)) u) : ∃ n, wX_grow_14 post (nI s) f n 1 K S M P T U Q := by
  have hO : tp_Ok 3 (tp_sl m s) := by
    have := hC.1 s hs
    rw [hk] at this
    exact this
  have no : ∀ c, ¬ (c / 17 % 2 = 1 ∧ c % 17 % 2 = 1) → tp_gr (tp_sl m s) c = m (289 * s + c) := by
    intro c hc
    unfold tp_gr
    rw [decide_eq_false hc, Bool.false_and, Bool.or_false]
    rfl
  refine loop_0 (fun n a M => wX_grow_14 post (nI s) f n (nI (2 * a + 1)) K S M P T U Q) (fun a M => ∀ x, M x = tp_b (tp_w m s (tp_gr (tp_sl m s)) (17 * (2 * a)) x)) 8 M (fun x => by rw [tp_w_0]; exact hM x) ?_ ?_
  · intro n M' hM'
    refine br_t (nI_le (a := 16) (b := 2 * 8 + 1) (by decide) (by decide)) ?_
    have hM2 : ∀ x, M' x = tp_b (tp_w m s (tp_gh (tp_sl m s)) 289 x) := by
      intro x
      rw [hM', ← tp_w_c m s (tp_gr_gh hO), tp_w_j m s (tp_gr (tp_sl m s)) (i := 17 * (2 * 8)) (i' := 289) (by omega) (fun c h1 h2 => no c (by omega))]
    refine tx_fin (q := 3) hC hK hM2 hs (by omega) (fun c hc e => ?_) (fun f K' S M P T U Q hu hS => ⟨tp_in12 hs, ?_⟩)
    · unfold tp_gh at e
      rw [Bool.and_eq_true, decide_eq_true_eq] at e
      unfold tp_dm
      omega
    · rw [nI_clamp (by omega), hS]
      have hp : ∃ c, c < 289 ∧ tp_gh (tp_sl m s) c = true := by
        obtain ⟨c, hc, e⟩ := hO.2.2 (by decide)
        refine ⟨c, hc, ?_⟩
        rw [← tp_gr_gh hO c hc]
        unfold tp_gr
        rw [e, Bool.true_or]
      rw [tp_Ok_p hp, tp_v_q hk] at hu
      exact h _ hu
  · intro n a M' ha hM' ih
    refine br_f (nI_ge (b := 16) (by omega) (by decide)) ?_
    refine loop_0 (fun n b M => wX_grow_23 post _ (nI s) (nI (2 * a + 1)) f n (nI (2 * b + 1)) K S M P T U Q) (fun b M => ∀ x, M x = tp_b (tp_w m s (tp_gr (tp_sl m s)) (17 * (2 * a + 1) + (2 * b + 1)) x)) 8 M' (fun x => ?_) ?_ ?_
    · rw [hM', tp_w_j m s (tp_gr (tp_sl m s)) (i := 17 * (2 * a)) (i' := 17 * (2 * a + 1) + (2 * 0 + 1)) (by omega) (fun c h1 h2 => no c (by omega))]
    · intro n M2 hM2
      exact br_t (nI_le (a := 16) (b := 2 * 8 + 1) (by decide) (by decide)) (nm_r (tp_pl2 a) (ih M2 (fun x => by rw [hM2, show 17 * (2 * a + 1) + (2 * 8 + 1) = 17 * (2 * (a + 1)) from by omega])))
    · intro n b M2 hb hM2 ih2
      refine br_f (nI_ge (b := 16) (by omega) (by decide)) ?_
      refine tx_hcb hC hs hk (by omega) (by omega) ?_
      rw [← tp_grow hO (a := 2 * a) (b := 2 * b) (by omega) (by omega)]
      have hg : tp_gr (tp_sl m s) (17 * (2 * a + 1) + (2 * b + 1)) = (m (289 * s + (17 * (2 * a + 1) + (2 * b + 1))) || tp_nf (tp_sl m s) (2 * a + 1) (2 * b + 1) 9) := by
        unfold tp_gr
        rw [show (17 * (2 * a + 1) + (2 * b + 1)) / 17 = 2 * a + 1 from by omega, show (17 * (2 * a + 1) + (2 * b + 1)) % 17 = 2 * b + 1 from by omega, decide_eq_true (by omega), Bool.true_and]
        rfl
      have fw : ∀ M3 : Nat → Int32, (∀ x, M3 x = tp_b (tp_w m s (tp_gr (tp_sl m s)) (17 * (2 * a + 1) + (2 * b + 1) + 1) x)) → ∀ x, M3 x = tp_b (tp_w m s (tp_gr (tp_sl m s)) (17 * (2 * a + 1) + (2 * (b + 1) + 1)) x) := by
        intro M3 h3 x
        rw [h3, tp_w_j m s (tp_gr (tp_sl m s)) (i := 17 * (2 * a + 1) + (2 * b + 1) + 1) (i' := 17 * (2 * a + 1) + (2 * (b + 1) + 1)) (by omega) (fun c h1 h2 => no c (by omega))]
      refine tp_br (fun e => ?_) (fun e => ?_)
      · rw [e, Bool.or_false] at hg
        exact nm_r (tp_pl2 b) (ih2 _ (fw _ (tp_wk hM2 hg)))
      · rw [e, Bool.or_true] at hg
        rw [tp_ix2, nI_clamp (by omega), tp_nar1]
        exact ⟨vp_in_nI (by omega) (by decide), nm_e (nm_r (tp_pl2 b) (ih2 _ (fw _ (tp_wu hM2 hg))))⟩
theorem ty_near {post : Int32 → Prop} {K M H A B p q : Nat → Int32} {m : Nat → Bool} (hM : ∀ x, M x = tp_b (m x)) {s i j : Nat} (hs : s < 12) (hi : i ≤ 16) (hj : j ≤ 16) (h : post (tp_b (tp_nf (tp_sl m s) i j 9))) : wpY_isNear post (K, M, H, A, B, p, q) (nI s) (nI i) (nI j) := by
  refine loop_0 (fun n d (x : Bool) => wY_isNear_6 post (nI s) (nI i) (nI j) K M H A B p q n (tp_b x) (nI d)) (fun d x => x = tp_nf (tp_sl m s) i j d) 9 false rfl ?_ ?_
  · intro n x hx
    subst hx
    exact br_t (tp_rfl 9) ⟨tp_nab _, h⟩
  · intro n d x hd hx ih
    refine br_f (nI_ge (b := 9) hd (by decide)) ?_
    rw [tp_r3 (by omega), tp_d3 (by omega), tp_t2, tp_t2, nI_add, nI_add]
    refine tp_br (fun e => ⟨tp_3, tp_3, ?_⟩) (fun e => ?_)
    · refine ty_has hM hs ?_
      rw [show (nI (i + 2 * (d / 3)) - 2).toInt = ((i + 2 * (d / 3) : Nat) : Int) - 2 from pk_sub_toInt (b := 2) (by omega) (by decide), show (nI (j + 2 * (d % 3)) - 2).toInt = ((j + 2 * (d % 3) : Nat) : Int) - 2 from pk_sub_toInt (b := 2) (by omega) (by decide)]
      refine tp_br (fun e2 => nm_r (nI_1 d) (ih false ?_)) (fun e2 => nm_r (nI_1 d) (ih true ?_))
      · rw [tp_nf, ← hx, e, e2]
        rfl
      · rw [tp_nf, ← hx, e, e2]
        rfl
    · refine nm_r (nI_1 d) (ih true ?_)
      rw [tp_nf, ← hx, e]
      rfl
theorem ty_grow14 {post : Int32 → SY → Prop} {K M H A B p q : Nat → Int32} {k : Nat → Nat} {m : Nat → Bool} (hK : ∀ x, K x = nI (k x)) (hM : ∀ x, M x = tp_b (m x)) {s : Nat} (hs : s < 12) (h : ∀ v, tp_Y k (tp_w m s (tp_gh (tp_sl m s)) 289) v → post (nI (tp_cnt (tp_gh (tp_sl m s)) 289)) v) : ∃ n, wY_grow_14 post (nI s) n 0 K M H A B p q := by
  refine loop_0 (fun n c H => wY_grow_14 post (nI s) n (nI c) K M H A B p q) (fun c H => ∀ x, x < c → H x = tp_b (tp_gh (tp_sl m s) x)) 289 H (fun x hx => absurd hx (by omega)) ?_ ?_
  · intro n H' hH
    refine br_t (tp_rfl 289) ?_
    refine loop_0 (fun n c M => wY_grow_76 post (nI s) n (nI c) K M H' A B p q) (fun c M => ∀ x, M x = tp_b (tp_w m s (tp_gh (tp_sl m s)) c x)) 289 M (fun x => by rw [tp_w_0]; exact hM x) ?_ ?_
    · intro n M' hM'
      refine br_t (tp_rfl 289) (ty_count hM' hs ?_)
      rw [tp_cnt_congr 289 (tp_sl_w m s _)]
      exact h _ ⟨hK, hM'⟩
    · intro n c M' hc hM' ih
      refine br_f (nI_ge (b := 289) hc (by decide)) ?_
      rw [tp_iy1, nI_clamp (by omega), nI_clamp (by omega), hH c hc, tp_nar]
      exact ⟨vp_in_nI hc (by decide), vp_in_nI (by omega) (by decide), nm_e (nm_r (nI_1 c) (ih _ (tp_wu hM' rfl)))⟩
  · intro n c H' hc hH ih
    refine br_f (nI_ge (b := 289) hc (by decide)) ?_
    have st : ∀ b, tp_gh (tp_sl m s) c = b → ∀ x, x < c + 1 → upd H' c (tp_b b) x = tp_b (tp_gh (tp_sl m s) x) := by
      intro b hb x hx
      by_cases e : x = c
      · subst e
        rw [pk_us, hb]
      · rw [pk_un e]
        exact hH x (by omega)
    rw [tp_r17 (by omega), tp_d17 (by omega), tp_r2 (by omega), tp_r2 (by omega), nI_clamp (by omega), tp_nar0, tp_nar1]
    have hin : vp_in (nI c) 289 := vp_in_nI hc (by decide)
    refine ⟨tp_17, tp_2, pk_eq (c / 17 % 2) 1 (fun e1 => ⟨tp_17, tp_2, pk_eq (c % 17 % 2) 1 (fun e2 => ⟨tp_17, tp_17, ?_⟩) (fun e2 => ⟨hin, nm_e (nm_r (nI_1 c) (ih _ (st false ?_)))⟩)⟩) (fun e1 => ⟨hin, nm_e (nm_r (nI_1 c) (ih _ (st false ?_)))⟩)⟩
    · refine ty_near hM hs (by omega) (by omega) ?_
      have hg : tp_gh (tp_sl m s) c = tp_nf (tp_sl m s) (c / 17) (c % 17) 9 := by
        unfold tp_gh
        rw [decide_eq_true ⟨e1, e2⟩, Bool.true_and]
      exact tp_br (fun e => ⟨hin, nm_e (nm_r (nI_1 c) (ih _ (st false (hg.trans e))))⟩) (fun e => ⟨hin, nm_e (nm_r (nI_1 c) (ih _ (st true (hg.trans e))))⟩)
    · unfold tp_gh
      rw [decide_eq_false (fun z => e2 z.2), Bool.false_and]
    · unfold tp_gh
      rw [decide_eq_false (fun z => e1 z.1), Bool.false_and]
theorem i_vc_grow {k : Nat} {u : SX} {v : SY} (I : i_Rel k u v) (hk : k + 4 ≤ 2048) (v1 : Int32) : wpX_grow (fun r u' => wpY_grow (fun r' v' => r' = r ∧ i_Rel (k + 4) u' v') v v1) u v1 := by
  have R : i_Rel (k + 4) u v := I
  obtain ⟨kk, mm, hX, hY⟩ := I
  obtain ⟨f, K, S, M, P, T, U, Q⟩ := u
  obtain ⟨K2, M2, H, A, B, p, q⟩ := v
  obtain ⟨hK, hM, hC⟩ := hX
  obtain ⟨hK2, hM2⟩ := hY
  unfold wpX_grow wpY_grow
  dsimp only
  rcases tp_rg v1 12 (by decide) with ⟨s, hs, rfl⟩ | hx
  · have h3 := (hC.1 s hs).1
    by_cases h0 : kk s = 0
    · exact tx_raa_2 hK hs h0 (br_f (by decide) (ty_ba_2 hK2 hs h0 (br_f (by decide) ⟨rfl, R⟩)))
    by_cases h1 : kk s = 3
    · refine tx_raa_0 hK hs h1 (br_t rfl ?_)
      refine tx_grow14 hC hK hM hs h1 (fun u hu => ?_)
      refine ty_ba_0 hK2 hs h1 (br_t (by decide) ?_)
      exact ty_grow14 hK2 hM2 hs (fun v hv => ⟨rfl, _, _, hu, hv⟩)
    · exact tx_raa_3 hK hs h3 h0 h1 (br_f (by decide) (ty_ba_3 hK2 hs h3 h0 h1 (br_f (by decide) ⟨rfl, R⟩)))
  · exact tx_raa_1 hx (br_f (by decide) (ty_ba_1 hx (br_f (by decide) ⟨rfl, R⟩)))
end
section
/-- the rim's edges -/
def tp_re (k : Nat) (g : Nat → Bool) : Nat → Bool := fun c => decide (tp_dm c = 1) && decide (tp_pt k g (c / 17) (c % 17) = 1)
theorem tp_re_f1 {k : Nat} {g : Nat → Bool} {c : Nat} (h : ¬ tp_dm c = 1) : tp_re k g c = false := by
  unfold tp_re
  rw [decide_eq_false h, Bool.false_and]
theorem tp_re_f2 {k : Nat} {g : Nat → Bool} {c : Nat} (h : ¬ tp_pt k g (c / 17) (c % 17) = 1) : tp_re k g c = false := by
  unfold tp_re
  rw [decide_eq_false h, Bool.and_false]
theorem tp_re_t {k : Nat} {g : Nat → Bool} {c : Nat} (h : tp_dm c = 1) (h2 : tp_pt k g (c / 17) (c % 17) = 1) : tp_re k g c = true := by
  unfold tp_re
  rw [decide_eq_true h, decide_eq_true h2]
  rfl
theorem tp_dm_le (c : Nat) : tp_dm c ≤ 2 := by
  unfold tp_dm
  omega
theorem tx_rime {post : Int32 → Prop} {f : Int32} {K S M P T U Q : Nat → Int32} {k : Nat → Nat} {m : Nat → Bool} (hC : tp_Cr k m S P) {s c : Nat} (hs : s < 12) (hc : c < 289) (h : post (tp_b (tp_re (k s) (tp_sl m s) c))) : wpX_isRimEdge post (f, K, S, M, P, T, U, Q) (nI s) (nI c) := by
  unfold wpX_isRimEdge
  dsimp only
  rw [tp_r17 (by omega), tp_d17 (by omega), tp_ix1, nI_clamp (by omega), hC.2.2 s hs c hc]
  refine ⟨tp_17, tp_17, tx_dim (by omega) (by omega) ?_⟩
  have h2 := tp_pt_le (k s) (tp_sl m s) (c / 17) (c % 17)
  exact pk_eq (c / 17 % 2 + c % 17 % 2) 1 (fun e => ⟨vp_in_nI (by omega) (by decide), pk_eq (tp_pt (k s) (tp_sl m s) (c / 17) (c % 17)) 1 (fun e2 => tp_p1 h (tp_re_t e e2)) (fun e2 => tp_p0 h (tp_re_f2 e2))⟩) (fun e => tp_p0 h (tp_re_f1 e))
theorem i_vc_outline {k : Nat} {u : SX} {v : SY} (I : i_Rel k u v) (hk : k + 4 ≤ 2048) (v1 : Int32) (v2 : Int32) : wpX_outline (fun r u' => wpY_outline (fun r' v' => r' = r ∧ i_Rel (k + 4) u' v') v v1 v2) u v1 v2 := by
  have R : i_Rel (k + 4) u v := I
  obtain ⟨kk, mm, hX, hY⟩ := I
  obtain ⟨f, K, S, M, P, T, U, Q⟩ := u
  obtain ⟨K2, M2, H, A, B, p, q⟩ := v
  obtain ⟨hK, hM, hC⟩ := hX
  obtain ⟨hK2, hM2⟩ := hY
  unfold wpX_outline wpY_outline
  dsimp only
  rcases tp_rg v1 12 (by decide) with ⟨s, hs, rfl⟩ | hx
  · refine tx_slot_y hs (br_f (by decide) ?_)
    rcases tp_rg v2 12 (by decide) with ⟨t, ht, rfl⟩ | hy
    · refine tx_slot_y ht (br_f (by decide) ?_)
      have h3 := (hC.1 s hs).1
      by_cases h0 : kk s = 0
      · refine tx_raa_2 hK hs h0 (br_f (by decide) ?_)
        exact ty_slot_y ht (br_f (by decide) (ty_ba_2 hK2 hs h0 (br_f (by decide) ⟨rfl, R⟩)))
      by_cases h1 : kk s = 3
      · refine tx_raa_0 hK hs h1 (br_t rfl ?_)
        refine loop_0 (fun n c M => wX_outline_31 _ (nI s) (nI t) f n (nI c) K S M P T U Q) (fun c M => ∀ x, M x = tp_b (tp_w mm t (tp_re (kk s) (tp_sl mm s)) c x)) 289 M (fun x => by rw [tp_w_0]; exact hM x) ?_ ?_
        · intro n M' hM'
          refine br_t (tp_rfl 289) ?_
          refine tx_fin (q := 2) hC hK hM' ht (by omega) (fun c hc e => ?_) (fun f K' S M P T U Q hu hS => ⟨tp_in12 ht, ?_⟩)
          · unfold tp_re at e
            rw [Bool.and_eq_true, decide_eq_true_eq] at e
            omega
          · dsimp only
            rw [nI_clamp (by omega), hS]
            have hp : ∃ c, c < 289 ∧ tp_re (kk s) (tp_sl mm s) c = true := by
              have hO := hC.1 s hs
              rw [h1] at hO ⊢
              obtain ⟨c, hc, e1, e2⟩ := tp_rim_e hO
              exact ⟨c, hc, tp_re_t e1 e2⟩
            rw [tp_Ok_p hp] at hu
            refine ty_slot_y ht (br_f (by decide) ?_)
            refine ty_ba_0 hK2 hs h1 (br_t (by decide) ?_)
            refine ty_parts1 hK2 hM2 hs h3 (fun A' hA => ⟨tp_in12 ht, nm_e ?_⟩)
            refine loop_0 (fun n c M => wY_outline_38 _ (nI t) n (nI c) _ M H A' B p q) (fun c M => ∀ x, M x = tp_b (tp_w mm t (tp_re (kk s) (tp_sl mm s)) c x)) 289 M2 (fun x => by rw [tp_w_0]; exact hM2 x) ?_ ?_
            · intro n M3 hM3
              refine br_t (tp_rfl 289) (ty_count hM3 ht ⟨?_, _, _, hu, fun x => tp_uK hK2 t 2 x, hM3⟩)
              rw [tp_cnt_congr 289 (tp_sl_w mm t _)]
            · intro n c M3 hc hM3 ih
              refine br_f (nI_ge (b := 289) hc (by decide)) (ty_edge hc ?_)
              have hl := tp_pt_le (kk s) (tp_sl mm s) (c / 17) (c % 17)
              rw [tp_iy1, nI_clamp (by omega), nI_clamp (by omega), hA c hc, tp_nar0, tp_nar1]
              refine tp_br (fun e => ⟨vp_in_nI (by omega) (by decide), nm_e (nm_r (nI_1 c) (ih _ (tp_wu hM3 (tp_re_f1 (of_decide_eq_false e)))))⟩) (fun e => ⟨vp_in_nI hc (by decide), pk_eq (tp_pt (kk s) (tp_sl mm s) (c / 17) (c % 17)) 1 (fun e2 => ⟨vp_in_nI (by omega) (by decide), nm_e (nm_r (nI_1 c) (ih _ (tp_wu hM3 (tp_re_t (of_decide_eq_true e) e2))))⟩) (fun e2 => ⟨vp_in_nI (by omega) (by decide), nm_e (nm_r (nI_1 c) (ih _ (tp_wu hM3 (tp_re_f2 e2))))⟩)⟩)
        · intro n c M' hc hM' ih
          refine br_f (nI_ge (b := 289) hc (by decide)) ?_
          refine tx_rime hC hs hc ⟨by rw [tp_ix1]; exact vp_in_nI (by omega) (by decide), ?_⟩
          rw [tp_ix1, nI_clamp (by omega), tp_nar]
          exact nm_e (nm_r (nI_1 c) (ih _ (tp_wu hM' rfl)))
      · refine tx_raa_3 hK hs h3 h0 h1 (br_f (by decide) ?_)
        exact ty_slot_y ht (br_f (by decide) (ty_ba_3 hK2 hs h3 h0 h1 (br_f (by decide) ⟨rfl, R⟩)))
    · exact tx_slot_n hy (br_t rfl (ty_slot_n hy (br_t rfl ⟨rfl, R⟩)))
  · refine tx_slot_n hx (br_t rfl ?_)
    rcases tp_rg v2 12 (by decide) with ⟨t, ht, rfl⟩ | hy
    · exact ty_slot_y ht (br_f (by decide) (ty_ba_1 hx (br_f (by decide) ⟨rfl, R⟩)))
    · exact ty_slot_n hy (br_t rfl ⟨rfl, R⟩)
theorem i_vc_rim {k : Nat} {u : SX} {v : SY} (I : i_Rel k u v) (hk : k + 4 ≤ 2048) (v1 : Int32) : wpX_rim (fun r => wpY_rim (fun r' v' => r' = r ∧ i_Rel (k + 4) u v') v v1) u v1 := by
  have R : i_Rel (k + 4) u v := I
  obtain ⟨kk, mm, hX, hY⟩ := I
  obtain ⟨f, K, S, M, P, T, U, Q⟩ := u
  obtain ⟨K2, M2, H, A, B, p, q⟩ := v
  have hX0 := hX
  obtain ⟨hK, hM, hC⟩ := hX
  obtain ⟨hK2, hM2⟩ := hY
  unfold wpX_rim wpY_rim
  dsimp only
  rcases tp_rg v1 12 (by decide) with ⟨s, hs, rfl⟩ | hx
  · have h3 := (hC.1 s hs).1
    by_cases h0 : kk s = 0
    · exact tx_raa_2 hK hs h0 (br_f (by decide) (ty_ba_2 hK2 hs h0 (br_f (by decide) ⟨rfl, R⟩)))
    by_cases h1 : kk s = 3
    · refine tx_raa_0 hK hs h1 (br_t rfl ?_)
      refine loop_0 (fun n c (x : Nat) => wX_rim_17 _ (nI s) f K S M P T U Q n (nI x) (nI c)) (fun c x => x = tp_cnt (tp_re (kk s) (tp_sl mm s)) c) 289 0 rfl ?_ ?_
      · intro n x hx
        refine br_t (tp_rfl 289) ?_
        refine ty_ba_0 hK2 hs h1 (br_t (by decide) ?_)
        refine ty_parts1 hK2 hM2 hs h3 (fun A' hA => ?_)
        dsimp only
        refine loop_0 (fun n c (x : Nat) => wY_rimEdges_4 _ K2 M2 H A' B p q n (nI x) (nI c)) (fun c x => x = tp_cnt (tp_re (kk s) (tp_sl mm s)) c) 289 0 rfl ?_ ?_
        · intro n y hy
          subst hx hy
          exact br_t (tp_rfl 289) ⟨rfl, _, _, hX0, hK2, hM2⟩
        · intro n c y hc hy ih
          refine br_f (nI_ge (b := 289) hc (by decide)) (ty_edge hc ?_)
          have hl := tp_pt_le (kk s) (tp_sl mm s) (c / 17) (c % 17)
          rw [nI_clamp (by omega), hA c hc]
          have zf : tp_re (kk s) (tp_sl mm s) c = false → y = tp_cnt (tp_re (kk s) (tp_sl mm s)) (c + 1) := fun e => by rw [hy, tp_cnt, e]; rfl
          have zt : tp_re (kk s) (tp_sl mm s) c = true → y + 1 = tp_cnt (tp_re (kk s) (tp_sl mm s)) (c + 1) := fun e => by rw [hy, tp_cnt, e]; rfl
          refine tp_br (fun e => nm_r (nI_1 c) (ih _ (zf (tp_re_f1 (of_decide_eq_false e))))) (fun e => ⟨vp_in_nI hc (by decide), pk_eq (tp_pt (kk s) (tp_sl mm s) (c / 17) (c % 17)) 1 (fun e2 => nm_r (nI_1 y) (nm_r (nI_1 c) (ih _ (zt (tp_re_t (of_decide_eq_true e) e2))))) (fun e2 => nm_r (nI_1 c) (ih _ (zf (tp_re_f2 e2))))⟩)
      · intro n c x hc hx ih
        refine br_f (nI_ge (b := 289) hc (by decide)) ?_
        refine tx_rime hC hs hc ?_
        refine tp_br (fun e => nm_r (nI_1 c) (ih _ ?_)) (fun e => nm_r (nI_1 x) (nm_r (nI_1 c) (ih _ ?_)))
        · rw [hx, tp_cnt, e]
          rfl
        · rw [hx, tp_cnt, e]
          rfl
    · exact tx_raa_3 hK hs h3 h0 h1 (br_f (by decide) (ty_ba_3 hK2 hs h3 h0 h1 (br_f (by decide) ⟨rfl, R⟩)))
  · exact tx_raa_1 hx (br_f (by decide) (ty_ba_1 hx (br_f (by decide) ⟨rfl, R⟩)))
end
section
theorem tq_0 {α : Type} {b : Bool} {post : Int32 → α → Prop} {v : α} (h : post (tp_b b) v) (e : b = false) : post 0 v := by
  rw [e] at h
  exact h
theorem tq_1 {α : Type} {b : Bool} {post : Int32 → α → Prop} {v : α} (h : post (tp_b b) v) (e : b = true) : post 1 v := by
  rw [e] at h
  exact h
theorem tp_me_3 (P Q : Nat → Nat) (p : Nat) : tp_me P Q p ≤ 3 := by
  unfold tp_me
  split
  · omega
  · exact tp_mt_b (by omega) 289 (fun c _ _ _ => by have := tp_dm_le c; omega)
theorem tp_mt_m (P Q : Nat → Nat) (x y e : Nat) (h1 : P e = x) (h2 : Q e = y) : tp_mx (tp_mt P Q x y 0 e) (tp_dm e + 1) = tp_mt P Q x y 0 (e + 1) := by
  rw [tp_mt]
  unfold tp_mx
  by_cases h : tp_mt P Q x y 0 e < tp_dm e + 1
  · rw [if_neg (by omega), if_pos ⟨h1, h2, h⟩]
  · rw [if_neg (c := P e = x ∧ Q e = y ∧ tp_mt P Q x y 0 e < tp_dm e + 1) (fun z => h z.2.2)]
    split <;> omega
theorem tp_mt_o (P Q : Nat → Nat) (x y a e : Nat) (h : ¬ (P e = x ∧ Q e = y)) : tp_mt P Q x y a (e + 1) = tp_mt P Q x y a e := by
  rw [tp_mt, if_neg (fun z => h ⟨z.1, z.2.1⟩)]
/-- the parts of a slot's shape, by element -/
def tp_ps (k : Nat → Nat) (m : Nat → Bool) (s : Nat) : Nat → Nat := fun c => tp_pt (k s) (tp_sl m s) (c / 17) (c % 17)
theorem tp_ps_2 (k : Nat → Nat) (m : Nat → Bool) (s c : Nat) : tp_ps k m s c ≤ 2 := tp_pt_le _ _ _ _
theorem tx_meet23 {post : SX → Prop} {f : Int32} {K S M P T U Q : Nat → Int32} {k : Nat → Nat} {m : Nat → Bool} (hC : tp_Cr k m S P) {s t : Nat} (hs : s < 12) (ht : t < 12) (hT : ∀ p, p < 9 → T p = 0) (h : ∀ T', (∀ p, p < 9 → T' p = nI (tp_me (tp_ps k m s) (tp_ps k m t) p)) → post (f, K, S, M, P, T', U, Q)) : ∃ n, wX_findMeetings_23 post (nI s) (nI t) f n 0 K S M P T U Q := by
  refine loop_0 (fun n c T => wX_findMeetings_23 post (nI s) (nI t) f n (nI c) K S M P T U Q) (fun c T => ∀ p, p < 9 → T p = nI (tp_mt (tp_ps k m s) (tp_ps k m t) (p / 3) (p % 3) 0 c)) 289 T (fun p hp => hT p hp) ?_ ?_
  · intro n T' hT'
    refine br_t (tp_rfl 289) (nm_e (h _ (fun p hp => ?_)))
    unfold tp_me
    by_cases e : p = 8
    · subst e
      rw [pk_us, if_pos rfl]
      rfl
    · rw [pk_un e, if_neg e]
      exact hT' p hp
  · intro n c T' hc hT' ih
    refine br_f (nI_ge (b := 289) hc (by decide)) ?_
    have e1 : P (289 * s + c) = nI (tp_ps k m s c) := hC.2.2 s hs c hc
    have e2 : P (289 * t + c) = nI (tp_ps k m t c) := hC.2.2 t ht c hc
    have l1 := tp_ps_2 k m s c
    have l2 := tp_ps_2 k m t c
    have e3 : nI (tp_ps k m s c) * 3 + nI (tp_ps k m t c) = nI (tp_ps k m s c * 3 + tp_ps k m t c) := by
      rw [show (3 : Int32) = nI 3 from rfl, pk_mul, nI_add]
    rw [tp_ix1, tp_ix1, nI_clamp (by omega), nI_clamp (by omega), tp_r17 (by omega), tp_d17 (by omega)]
    refine ⟨vp_in_nI (by omega) (by decide), nm_r e1 ⟨vp_in_nI (by omega) (by decide), nm_r e2 (nm_r e3 ⟨tp_17, tp_17, ?_⟩)⟩⟩
    refine tx_dim (by omega) (by omega) ?_
    refine nm_r (nI_1 _) ⟨vp_in_nI (by omega) (by decide), ?_⟩
    rw [nI_clamp (by omega), hT' _ (by omega)]
    have hb := tp_mt_b (p := tp_ps k m s) (q := tp_ps k m t) (x := (tp_ps k m s c * 3 + tp_ps k m t c) / 3) (y := (tp_ps k m s c * 3 + tp_ps k m t c) % 3) (a := 0) (B := 3) (by omega) c (fun c _ _ _ => by have := tp_dm_le c; omega)
    refine tx_great (by omega) (by omega) ?_
    refine ⟨vp_in_nI (by omega) (by decide), nm_e (nm_r (nI_1 c) (ih _ (fun p hp => ?_)))⟩
    by_cases e : p = tp_ps k m s c * 3 + tp_ps k m t c
    · rw [e, pk_us]
      exact congrArg nI (tp_mt_m _ _ _ _ c (by omega) (by omega))
    · rw [pk_un e, hT' p hp, tp_mt_o _ _ _ _ _ c (by omega)]
theorem tx_meet {post : SX → Prop} {f : Int32} {K S M P T U Q : Nat → Int32} {k : Nat → Nat} {m : Nat → Bool} (hC : tp_Cr k m S P) {s t : Nat} (hs : s < 12) (ht : t < 12) (h : ∀ T', (∀ p, p < 9 → T' p = nI (tp_me (tp_ps k m s) (tp_ps k m t) p)) → post (f, K, S, M, P, T', U, Q)) : wpX_findMeetings post (f, K, S, M, P, T, U, Q) (nI s) (nI t) := by
  refine loop_0 (fun n c T => wX_findMeetings_2 post (nI s) (nI t) f n (nI c) K S M P T U Q) (fun c T => ∀ p, p < c → T p = 0) 9 T (fun p hp => absurd hp (by omega)) ?_ ?_
  · intro n T' hT'
    exact br_t (tp_rfl 9) (tx_meet23 hC hs ht hT' h)
  · intro n c T' hc hT' ih
    refine br_f (nI_ge (b := 9) hc (by decide)) ⟨vp_in_nI hc (by decide), ?_⟩
    rw [nI_clamp (by omega)]
    refine nm_e (nm_r (nI_1 c) (ih _ (fun p hp => ?_)))
    by_cases e : p = c
    · subst e
      rw [pk_us]
    · rw [pk_un e]
      exact hT' p (by omega)
section
variable {K M H A B p q : Nat → Int32} {P Q : Nat → Nat}
theorem ty_meet19 {post : Int32 → Prop} (hA : ∀ c, c < 289 → A c = nI (P c)) (hB : ∀ c, c < 289 → B c = nI (Q c)) (hP : ∀ c, P c ≤ 2) (hQ : ∀ c, Q c ≤ 2) {x y a : Nat} (hx : x ≤ 2) (hy : y ≤ 2) (ha : a ≤ 3) (h : post (nI (tp_mt P Q x y a 289))) : ∃ n, wY_meeting_19 post (nI x) (nI y) K M H A B p q n (nI a) 0 := by
  refine loop_0 (fun n c (z : Nat) => wY_meeting_19 post (nI x) (nI y) K M H A B p q n (nI z) (nI c)) (fun c z => z = tp_mt P Q x y a c) 289 a rfl ?_ ?_
  · intro n z hz
    subst hz
    exact br_t (tp_rfl 289) h
  · intro n c z hc hz ih
    refine br_f (nI_ge (b := 289) hc (by decide)) ?_
    rw [nI_clamp (by omega), hA c hc, hB c hc]
    refine ty_dim hc (nm_r (nI_1 _) ⟨vp_in_nI hc (by decide), ?_⟩)
    have hd := tp_dm_le c
    have hp := hP c
    have hq := hQ c
    have hb := tp_mt_b (p := P) (q := Q) (x := x) (y := y) (a := a) (B := 3) ha c (fun c _ _ _ => by have := tp_dm_le c; omega)
    refine pk_eq (P c) x (fun e1 => ⟨vp_in_nI hc (by decide), pk_eq (Q c) y (fun e2 => pk_le (tp_dm c + 1) z (fun e3 => nm_r (nI_1 c) (ih _ ?_)) (fun e3 => nm_r (nI_1 c) (ih _ ?_))) (fun e2 => nm_r (nI_1 c) (ih _ ?_))⟩) (fun e1 => nm_r (nI_1 c) (ih _ ?_))
    · rw [hz, tp_mt, if_neg (by omega)]
    · rw [tp_mt, if_pos ⟨e1, e2, by omega⟩]
    · rw [hz, tp_mt, if_neg (fun w => e2 w.2.1)]
    · rw [hz, tp_mt, if_neg (fun w => e1 w.1)]
theorem ty_meet {post : Int32 → Prop} (hA : ∀ c, c < 289 → A c = nI (P c)) (hB : ∀ c, c < 289 → B c = nI (Q c)) (hP : ∀ c, P c ≤ 2) (hQ : ∀ c, Q c ≤ 2) {x y : Nat} (hx : x ≤ 2) (hy : y ≤ 2) (h : post (nI (tp_me P Q (3 * x + y)))) : wpY_meeting post (K, M, H, A, B, p, q) (nI x) (nI y) := by
  unfold wpY_meeting
  dsimp only
  unfold tp_me at h
  by_cases e : 3 * x + y = 8
  · rw [if_pos e] at h
    have e1 : x = 2 := by omega
    have e2 : y = 2 := by omega
    subst e1 e2
    refine br_t rfl (br_t rfl ?_)
    refine ty_meet19 (a := 3) hA hB hP hQ hx hy (by omega) ?_
    rw [tp_mt_3]
    exact h
  · rw [if_neg e, show (3 * x + y) / 3 = x from by omega, show (3 * x + y) % 3 = y from by omega] at h
    have key := ty_meet19 (K := K) (M := M) (H := H) (p := p) (q := q) (a := 0) hA hB hP hQ hx hy (by omega) h
    exact br_c (fun _ => br_c (fun _ => absurd ‹_› (by intro z; have z1 := (nI_eq (b := 2) (by omega) (by decide)).mp z; have z2 := (nI_eq (b := 2) (by omega) (by decide)).mp (by assumption : nI x = 2); omega)) (fun _ => key)) (fun _ => key)
theorem ty_bmo1 {post : Int32 → Prop} (hA : ∀ c, c < 289 → A c = nI (P c)) (hB : ∀ c, c < 289 → B c = nI (Q c)) (hP : ∀ c, P c ≤ 2) (hQ : ∀ c, Q c ≤ 2) (h : post (tp_b (decide (¬ (tp_me P Q 2 = 0 ∧ tp_me P Q 5 = 0))))) : wpY_bodyMeetsOutside post (K, M, H, A, B, p, q) 1 := by
  have he : tp_an (fun c => decide (P c < 2 ∧ Q c = 2)) 289 = decide (¬ (tp_me P Q 2 = 0 ∧ tp_me P Q 5 = 0)) := by
    rw [Bool.eq_iff_iff, tp_an_t, decide_eq_true_iff, ← tp_bo1]
    exact ⟨fun ⟨c, hc, e⟩ => ⟨c, hc, of_decide_eq_true e⟩, fun ⟨c, hc, e⟩ => ⟨c, hc, decide_eq_true e⟩⟩
  rw [← he] at h
  refine loop_0 (fun n c (x : Bool) => wY_bodyMeetsOutside_4 post 1 K M H A B p q n (tp_b x) (nI c)) (fun c x => x = tp_an (fun c => decide (P c < 2 ∧ Q c = 2)) c) 289 false rfl ?_ ?_
  · intro n x hx
    subst hx
    exact br_t (tp_rfl 289) ⟨tp_nab _, h⟩
  · intro n c x hc hx ih
    refine br_f (nI_ge (b := 289) hc (by decide)) ?_
    rw [nI_clamp (by omega), hA c hc, hB c hc]
    have hp := hP c
    have hq := hQ c
    have hin : vp_in (nI c) 289 := vp_in_nI hc (by decide)
    refine tp_br (fun e => br_f (by decide) ⟨hin, pk_le 2 (P c) (fun e1 => nm_r (nI_1 c) (ih false ?_)) (fun e1 => ⟨hin, pk_eq (Q c) 2 (fun e2 => nm_r (nI_1 c) (ih true ?_)) (fun e2 => nm_r (nI_1 c) (ih false ?_))⟩)⟩) (fun e => nm_r (nI_1 c) (ih true ?_))
    · rw [tp_an, ← hx, e, decide_eq_false (by omega)]
      rfl
    · rw [tp_an, ← hx, e, decide_eq_true ⟨e1, e2⟩]
      rfl
    · rw [tp_an, ← hx, e, decide_eq_false (fun z => e2 z.2)]
      rfl
    · rw [tp_an, ← hx, e]
      rfl
theorem ty_bmo0 {post : Int32 → Prop} (hA : ∀ c, c < 289 → A c = nI (P c)) (hB : ∀ c, c < 289 → B c = nI (Q c)) (hP : ∀ c, P c ≤ 2) (hQ : ∀ c, Q c ≤ 2) (h : post (tp_b (decide (¬ (tp_me P Q 6 = 0 ∧ tp_me P Q 7 = 0))))) : wpY_bodyMeetsOutside post (K, M, H, A, B, p, q) 0 := by
  have he : tp_an (fun c => decide (Q c < 2 ∧ P c = 2)) 289 = decide (¬ (tp_me P Q 6 = 0 ∧ tp_me P Q 7 = 0)) := by
    rw [Bool.eq_iff_iff, tp_an_t, decide_eq_true_iff, ← tp_bo2]
    exact ⟨fun ⟨c, hc, e⟩ => ⟨c, hc, of_decide_eq_true e⟩, fun ⟨c, hc, e⟩ => ⟨c, hc, decide_eq_true e⟩⟩
  rw [← he] at h
  refine loop_0 (fun n c (x : Bool) => wY_bodyMeetsOutside_4 post 0 K M H A B p q n (tp_b x) (nI c)) (fun c x => x = tp_an (fun c => decide (Q c < 2 ∧ P c = 2)) c) 289 false rfl ?_ ?_
  · intro n x hx
    subst hx
    exact br_t (tp_rfl 289) ⟨tp_nab _, h⟩
  · intro n c x hc hx ih
    refine br_f (nI_ge (b := 289) hc (by decide)) ?_
    rw [nI_clamp (by omega), hA c hc, hB c hc]
    have hp := hP c
    have hq := hQ c
    have hin : vp_in (nI c) 289 := vp_in_nI hc (by decide)
    refine tp_br (fun e => br_t rfl ⟨hin, pk_le 2 (Q c) (fun e1 => nm_r (nI_1 c) (ih false ?_)) (fun e1 => ⟨hin, pk_eq (P c) 2 (fun e2 => nm_r (nI_1 c) (ih true ?_)) (fun e2 => nm_r (nI_1 c) (ih false ?_))⟩)⟩) (fun e => nm_r (nI_1 c) (ih true ?_))
    · rw [tp_an, ← hx, e, decide_eq_false (by omega)]
      rfl
    · rw [tp_an, ← hx, e, decide_eq_true ⟨e1, e2⟩]
      rfl
    · rw [tp_an, ← hx, e, decide_eq_false (fun z => e2 z.2)]
      rfl
    · rw [tp_an, ← hx, e]
      rfl
theorem ty_bdm {post : Int32 → Prop} (hA : ∀ c, c < 289 → A c = nI (P c)) (hB : ∀ c, c < 289 → B c = nI (Q c)) (hP : ∀ c, P c ≤ 2) (hQ : ∀ c, Q c ≤ 2) (h : post (tp_b (decide (¬ (tp_me P Q 0 = 0 ∧ tp_me P Q 1 = 0 ∧ tp_me P Q 3 = 0 ∧ tp_me P Q 4 = 0))))) : wpY_bodiesMeet post (K, M, H, A, B, p, q) := by
  have he : tp_an (fun c => decide (P c < 2 ∧ Q c < 2)) 289 = decide (¬ (tp_me P Q 0 = 0 ∧ tp_me P Q 1 = 0 ∧ tp_me P Q 3 = 0 ∧ tp_me P Q 4 = 0)) := by
    rw [Bool.eq_iff_iff, tp_an_t, decide_eq_true_iff, ← tp_bm]
    exact ⟨fun ⟨c, hc, e⟩ => ⟨c, hc, of_decide_eq_true e⟩, fun ⟨c, hc, e⟩ => ⟨c, hc, decide_eq_true e⟩⟩
  rw [← he] at h
  refine loop_0 (fun n c (x : Bool) => wY_bodiesMeet_4 post K M H A B p q n (tp_b x) (nI c)) (fun c x => x = tp_an (fun c => decide (P c < 2 ∧ Q c < 2)) c) 289 false rfl ?_ ?_
  · intro n x hx
    subst hx
    exact br_t (tp_rfl 289) ⟨tp_nab _, h⟩
  · intro n c x hc hx ih
    refine br_f (nI_ge (b := 289) hc (by decide)) ?_
    rw [nI_clamp (by omega), hA c hc, hB c hc]
    have hp := hP c
    have hq := hQ c
    have hin : vp_in (nI c) 289 := vp_in_nI hc (by decide)
    refine tp_br (fun e => ⟨hin, pk_le 2 (P c) (fun e1 => nm_r (nI_1 c) (ih false ?_)) (fun e1 => ⟨hin, pk_le 2 (Q c) (fun e2 => nm_r (nI_1 c) (ih false ?_)) (fun e2 => nm_r (nI_1 c) (ih true ?_))⟩)⟩) (fun e => nm_r (nI_1 c) (ih true ?_))
    · rw [tp_an, ← hx, e, decide_eq_false (by omega)]
      rfl
    · rw [tp_an, ← hx, e, decide_eq_false (by omega)]
      rfl
    · rw [tp_an, ← hx, e, decide_eq_true ⟨e1, e2⟩]
      rfl
    · rw [tp_an, ← hx, e]
      rfl
end
end
section
section
variable {post : Int32 → SY → Prop} {K M H A B p q : Nat → Int32} {P Q : Nat → Nat} {k : Nat → Nat}
theorem ty_so82 (hK : ∀ x, K x = nI (k x)) (hA : ∀ c, c < 289 → A c = nI (P c)) (hB : ∀ c, c < 289 → B c = nI (Q c)) (hP : ∀ c, P c ≤ 2) (hQ : ∀ c, Q c ≤ 2) {s t w : Nat} (hs : s < 12) (ht : t < 12) (hw : w < 7) (h3 : k s ≤ 3) (h3t : k t ≤ 3) (he : tp_me P Q 0 ≤ tp_mx (k s) (k t)) (h : post (tp_b (tp_so (k s) (k t) P Q w)) (K, M, H, A, B, p, q)) :
    wY_isSo_82 post (nI s) (nI t) (nI w) (nI (tp_me P Q 0)) (nI (tp_mx (k s) (k t))) (tp_b (decide (¬ tp_me P Q 2 = 0))) (tp_b (decide (tp_me P Q 2 = 0 ∧ tp_me P Q 5 = 0))) (tp_b (decide (tp_me P Q 6 = 0 ∧ tp_me P Q 7 = 0))) K M H A B p q := by
  have m0 := tp_me_3 P Q 0
  have m6 := tp_me_3 P Q 6
  have hx : tp_mx (k s) (k t) ≤ 3 := tp_mx_l h3 h3t
  unfold wY_isSo_82
  have hw' : w = 0 ∨ w = 1 ∨ w = 2 ∨ w = 3 ∨ w = 4 ∨ w = 5 ∨ w = 6 := by omega
  rcases hw' with rfl | rfl | rfl | rfl | rfl | rfl | rfl
  · refine br_f (by decide) (br_f (by decide) (br_t rfl ?_))
    exact tp_br (fun e => tq_0 h (decide_eq_false (fun z => of_decide_eq_false e z.1))) (fun e => tp_br (fun e2 => tq_0 h (decide_eq_false (fun z => of_decide_eq_false e2 z.2))) (fun e2 => tq_1 h (decide_eq_true ⟨of_decide_eq_true e, of_decide_eq_true e2⟩)))
  · refine br_f (by decide) (br_f (by decide) (br_f (by decide) (br_t rfl ?_)))
    refine ty_bdm hA hB hP hQ ?_
    exact tp_br (fun e => tq_1 h (decide_eq_true (Decidable.not_not.mp (of_decide_eq_false e)))) (fun e => tq_0 h (decide_eq_false (of_decide_eq_true e)))
  · refine br_f (by decide) (br_f (by decide) (br_f (by decide) (br_f (by decide) (br_t rfl ?_))))
    refine ty_bdm hA hB hP hQ ?_
    exact tp_br (fun e => tq_0 h (decide_eq_false (fun z => of_decide_eq_false e z.1))) (fun e => pk_eq (tp_me P Q 0) 0 (fun e2 => tq_1 h (decide_eq_true ⟨of_decide_eq_true e, e2⟩)) (fun e2 => tq_0 h (decide_eq_false (fun z => e2 z.2))))
  · refine br_f (by decide) (br_f (by decide) (br_f (by decide) (br_f (by decide) (br_f (by decide) (br_t rfl ?_)))))
    exact pk_le (tp_me P Q 0) 0 (fun e => tq_0 h (decide_eq_false (fun z => z.1 (by omega)))) (fun e => tp_br (fun e2 => tq_0 h (decide_eq_false (fun z => of_decide_eq_false e2 z.2))) (fun e2 => tq_1 h (decide_eq_true ⟨by omega, of_decide_eq_true e2⟩)))
  · refine br_f (by decide) (br_f (by decide) (br_f (by decide) (br_f (by decide) (br_f (by decide) (br_f (by decide) (br_t rfl ?_))))))
    exact ⟨tp_nab _, h⟩
  · refine br_f (by decide) (br_f (by decide) (br_f (by decide) (br_f (by decide) (br_f (by decide) (br_f (by decide) (br_f (by decide) (br_t rfl ?_)))))))
    exact pk_le (tp_me P Q 0) 0 (fun e => tq_0 h (decide_eq_false (fun z => z.1 (by omega)))) (fun e => pk_le (tp_mx (k s) (k t)) (tp_me P Q 0) (fun e1 => tq_0 h (decide_eq_false (fun z => z.2.2 (by omega)))) (fun e1 => tp_br (fun e2 => tq_0 h (decide_eq_false (fun z => of_decide_eq_false e2 z.2.1))) (fun e2 => tq_1 h (decide_eq_true ⟨by omega, of_decide_eq_true e2, by omega⟩))))
  · refine br_f (by decide) (br_t (by decide) ⟨tp_in12 hs, tp_in12 ht, ?_⟩)
    rw [nI_clamp (by omega), nI_clamp (by omega), hK s, hK t]
    refine pk_eq (k s) (k t) (fun e => pk_eq (tp_me P Q 0) (tp_mx (k s) (k t)) (fun e1 => tp_br (fun e2 => tq_0 h (decide_eq_false (fun z => of_decide_eq_false e2 z.2.2.1))) (fun e2 => ?_)) (fun e1 => tq_0 h (decide_eq_false (fun z => e1 ?_)))) (fun e => tq_0 h (decide_eq_false (fun z => e z.1)))
    · refine ty_meet (x := 2) (y := 0) hA hB hP hQ (by omega) (by omega) ?_
      refine pk_le (tp_me P Q 6) 0 (fun e3 => tq_0 h (decide_eq_false (fun z => z.2.2.2 (by omega)))) (fun e3 => tq_1 h (decide_eq_true ⟨e, ?_, of_decide_eq_true e2, by omega⟩))
      rw [e1, ← e]
      unfold tp_mx
      split <;> rfl
    · rw [z.2.1, ← e]
      unfold tp_mx
      split <;> rfl
theorem ty_so67 (hK : ∀ x, K x = nI (k x)) (hA : ∀ c, c < 289 → A c = nI (P c)) (hB : ∀ c, c < 289 → B c = nI (Q c)) (hP : ∀ c, P c ≤ 2) (hQ : ∀ c, Q c ≤ 2) {s t w : Nat} (hs : s < 12) (ht : t < 12) (hw : w < 7) (h3 : k s ≤ 3) (h3t : k t ≤ 3) (he : tp_me P Q 0 ≤ tp_mx (k s) (k t)) (h : post (tp_b (tp_so (k s) (k t) P Q w)) (K, M, H, A, B, p, q)) :
    wY_isSo_67 post (nI s) (nI t) (nI w) (nI (tp_me P Q 0)) (nI (tp_mx (k s) (k t))) (tp_b (decide (¬ tp_me P Q 2 = 0))) (tp_b (decide (tp_me P Q 2 = 0 ∧ tp_me P Q 5 = 0))) K M H A B p q := by
  have key := ty_so82 (M := M) (H := H) (p := p) (q := q) hK hA hB hP hQ hs ht hw h3 h3t he h
  unfold wY_isSo_67
  refine ty_bmo0 hA hB hP hQ ?_
  by_cases e : tp_me P Q 6 = 0 ∧ tp_me P Q 7 = 0
  · rw [decide_eq_true e] at key
    rw [decide_eq_false (fun z => z e)]
    exact br_t rfl key
  · rw [decide_eq_false e] at key
    rw [decide_eq_true e]
    exact br_f (by decide) key
theorem ty_so52 (hK : ∀ x, K x = nI (k x)) (hA : ∀ c, c < 289 → A c = nI (P c)) (hB : ∀ c, c < 289 → B c = nI (Q c)) (hP : ∀ c, P c ≤ 2) (hQ : ∀ c, Q c ≤ 2) {s t w : Nat} (hs : s < 12) (ht : t < 12) (hw : w < 7) (h3 : k s ≤ 3) (h3t : k t ≤ 3) (he : tp_me P Q 0 ≤ tp_mx (k s) (k t)) (h : post (tp_b (tp_so (k s) (k t) P Q w)) (K, M, H, A, B, p, q)) :
    wY_isSo_52 post (nI s) (nI t) (nI w) (nI (tp_me P Q 0)) (nI (tp_mx (k s) (k t))) (tp_b (decide (¬ tp_me P Q 2 = 0))) K M H A B p q := by
  have key := ty_so67 (M := M) (H := H) (p := p) (q := q) hK hA hB hP hQ hs ht hw h3 h3t he h
  unfold wY_isSo_52
  refine ty_bmo1 hA hB hP hQ ?_
  by_cases e : tp_me P Q 2 = 0 ∧ tp_me P Q 5 = 0
  · rw [decide_eq_true e] at key
    rw [decide_eq_false (p := ¬ (tp_me P Q 2 = 0 ∧ tp_me P Q 5 = 0)) (fun z => z e)]
    exact br_t rfl key
  · rw [decide_eq_false e] at key
    rw [decide_eq_true (p := ¬ (tp_me P Q 2 = 0 ∧ tp_me P Q 5 = 0)) e]
    exact br_f (by decide) key
end
theorem ty_so {post : Int32 → SY → Prop} {K M H A B p q : Nat → Int32} {k : Nat → Nat} {m : Nat → Bool} (hK : ∀ x, K x = nI (k x)) (hM : ∀ x, M x = tp_b (m x)) {s t w : Nat} (hs : s < 12) (ht : t < 12) (hw : w < 7) (O1 : tp_Ok (k s) (tp_sl m s)) (O2 : tp_Ok (k t) (tp_sl m t)) (h : ∀ A' B', post (tp_b (tp_so (k s) (k t) (tp_ps k m s) (tp_ps k m t) w)) (K, M, H, A', B', p, q)) : wpY_isSo post (K, M, H, A, B, p, q) (nI s) (nI t) (nI w) := by
  unfold wpY_isSo
  dsimp only
  refine ty_parts1 hK hM hs O1.1 (fun A' hA => ?_)
  dsimp only
  refine ty_parts0 hK hM ht O2.1 (fun B' hB => ?_)
  dsimp only
  have hA' : ∀ c, c < 289 → A' c = nI (tp_ps k m s c) := hA
  have hB' : ∀ c, c < 289 → B' c = nI (tp_ps k m t c) := hB
  have h1 := tp_ps_2 k m s
  have h2 := tp_ps_2 k m t
  have m2 := tp_me_3 (tp_ps k m s) (tp_ps k m t) 2
  have b1 := O1.1
  have b2 := O2.1
  refine ty_meet (x := 0) (y := 0) hA' hB' h1 h2 (by omega) (by omega) ?_
  refine ⟨tp_in12 hs, tp_in12 ht, ?_⟩
  rw [nI_clamp (by omega), nI_clamp (by omega), hK s, hK t]
  refine ty_most (by omega) (by omega) ?_
  refine ty_meet (x := 0) (y := 2) hA' hB' h1 h2 (by omega) (by omega) ?_
  have key := ty_so52 (post := post) (M := M) (H := H) (p := p) (q := q) hK hA' hB' h1 h2 hs ht hw b1 b2 (tp_me_k O1 O2) (h A' B')
  refine pk_le (tp_me (tp_ps k m s) (tp_ps k m t) 2) 0 (fun e => ?_) (fun e => ?_)
  · rw [decide_eq_false (p := ¬ tp_me (tp_ps k m s) (tp_ps k m t) 2 = 0) (fun z => z (by omega))] at key
    exact key
  · rw [decide_eq_true (p := ¬ tp_me (tp_ps k m s) (tp_ps k m t) 2 = 0) (by omega)] at key
    exact key
section
variable {f : Int32} {K S M PL T U Q0 : Nat → Int32} {P Q : Nat → Nat} {k : Nat → Nat}
theorem tx_flo {post : Int32 → Prop} (hT : ∀ p, p < 9 → T p = nI (tp_me P Q p)) (h : post (tp_b (decide (¬ (tp_me P Q 2 = 0 ∧ tp_me P Q 5 = 0))))) : wpX_firstLeavesOther post (f, K, S, M, PL, T, U, Q0) := by
  unfold wpX_firstLeavesOther
  dsimp only
  have a := tp_me_3 P Q 2
  have b := tp_me_3 P Q 5
  rw [hT 2 (by omega), hT 5 (by omega)]
  exact pk_eq (tp_me P Q 2) 0 (fun e => pk_eq (tp_me P Q 5) 0 (fun e2 => tp_p0 h (decide_eq_false (fun z => z ⟨e, e2⟩))) (fun e2 => tp_p1 h (decide_eq_true (fun z => e2 z.2)))) (fun e => tp_p1 h (decide_eq_true (fun z => e z.1)))
theorem tx_olf {post : Int32 → Prop} (hT : ∀ p, p < 9 → T p = nI (tp_me P Q p)) (h : post (tp_b (decide (¬ (tp_me P Q 6 = 0 ∧ tp_me P Q 7 = 0))))) : wpX_otherLeavesFirst post (f, K, S, M, PL, T, U, Q0) := by
  unfold wpX_otherLeavesFirst
  dsimp only
  have a := tp_me_3 P Q 6
  have b := tp_me_3 P Q 7
  rw [hT 6 (by omega), hT 7 (by omega)]
  exact pk_eq (tp_me P Q 6) 0 (fun e => pk_eq (tp_me P Q 7) 0 (fun e2 => tp_p0 h (decide_eq_false (fun z => z ⟨e, e2⟩))) (fun e2 => tp_p1 h (decide_eq_true (fun z => e2 z.2)))) (fun e => tp_p1 h (decide_eq_true (fun z => e z.1)))
theorem tx_bdm {post : Int32 → Prop} (hT : ∀ p, p < 9 → T p = nI (tp_me P Q p)) (h : post (tp_b (decide (¬ (tp_me P Q 0 = 0 ∧ tp_me P Q 1 = 0 ∧ tp_me P Q 3 = 0 ∧ tp_me P Q 4 = 0))))) : wpX_bodiesMeet post (f, K, S, M, PL, T, U, Q0) := by
  unfold wpX_bodiesMeet
  dsimp only
  have a := tp_me_3 P Q 0
  have b := tp_me_3 P Q 1
  have c := tp_me_3 P Q 3
  have d := tp_me_3 P Q 4
  rw [hT 0 (by omega), hT 1 (by omega), hT 3 (by omega), hT 4 (by omega)]
  exact pk_eq (tp_me P Q 0) 0 (fun e => pk_eq (tp_me P Q 1) 0 (fun e2 => pk_eq (tp_me P Q 3) 0 (fun e3 => pk_eq (tp_me P Q 4) 0 (fun e4 => tp_p0 h (decide_eq_false (fun z => z ⟨e, e2, e3, e4⟩))) (fun e4 => tp_p1 h (decide_eq_true (fun z => e4 z.2.2.2)))) (fun e3 => tp_p1 h (decide_eq_true (fun z => e3 z.2.2.1)))) (fun e2 => tp_p1 h (decide_eq_true (fun z => e2 z.2.1)))) (fun e => tp_p1 h (decide_eq_true (fun z => e z.1)))
theorem tx_so20 {post : Int32 → SX → Prop} (hK : ∀ x, K x = nI (k x)) (hT : ∀ p, p < 9 → T p = nI (tp_me P Q p)) {s t w : Nat} (hs : s < 12) (ht : t < 12) (hw : w < 7) (h3 : k s ≤ 3) (h3t : k t ≤ 3) (h : post (tp_b (tp_so (k s) (k t) P Q w)) (f, K, S, M, PL, T, U, Q0)) :
    wX_areSo_20 post (nI s) (nI t) (nI w) (tp_b (decide (¬ tp_me P Q 0 = 0))) f K S M PL T U Q0 := by
  have m0 := tp_me_3 P Q 0
  have m2 := tp_me_3 P Q 2
  have m6 := tp_me_3 P Q 6
  have hx : tp_mx (k s) (k t) ≤ 3 := tp_mx_l h3 h3t
  unfold wX_areSo_20
  have hw' : w = 0 ∨ w = 1 ∨ w = 2 ∨ w = 3 ∨ w = 4 ∨ w = 5 ∨ w = 6 := by omega
  rcases hw' with rfl | rfl | rfl | rfl | rfl | rfl | rfl
  · refine br_f (by decide) (br_f (by decide) (br_t rfl ?_))
    refine tx_flo hT ?_
    refine tp_br (fun e => ?_) (fun e => tq_0 h (decide_eq_false (fun z => of_decide_eq_true e z.1)))
    refine tx_olf hT ?_
    exact tp_br (fun e2 => tq_1 h (decide_eq_true ⟨Decidable.not_not.mp (of_decide_eq_false e), Decidable.not_not.mp (of_decide_eq_false e2)⟩)) (fun e2 => tq_0 h (decide_eq_false (fun z => of_decide_eq_true e2 z.2)))
  · refine br_f (by decide) (br_f (by decide) (br_f (by decide) (br_t rfl ?_)))
    refine tx_bdm hT ?_
    exact tp_br (fun e => tq_1 h (decide_eq_true (Decidable.not_not.mp (of_decide_eq_false e)))) (fun e => tq_0 h (decide_eq_false (of_decide_eq_true e)))
  · refine br_f (by decide) (br_f (by decide) (br_f (by decide) (br_f (by decide) (br_t rfl ?_))))
    refine tx_bdm hT ?_
    exact tp_br (fun e => tq_0 h (decide_eq_false (fun z => of_decide_eq_false e z.1))) (fun e => tp_br (fun e2 => tq_1 h (decide_eq_true ⟨of_decide_eq_true e, Decidable.not_not.mp (of_decide_eq_false e2)⟩)) (fun e2 => tq_0 h (decide_eq_false (fun z => of_decide_eq_true e2 z.2))))
  · refine br_f (by decide) (br_f (by decide) (br_f (by decide) (br_f (by decide) (br_f (by decide) (br_t rfl ?_)))))
    refine tp_br (fun e => tq_0 h (decide_eq_false (fun z => of_decide_eq_false e z.1))) (fun e => ?_)
    refine tx_flo hT ?_
    exact tp_br (fun e2 => tq_1 h (decide_eq_true ⟨of_decide_eq_true e, Decidable.not_not.mp (of_decide_eq_false e2)⟩)) (fun e2 => tq_0 h (decide_eq_false (fun z => of_decide_eq_true e2 z.2)))
  · refine br_f (by decide) (br_f (by decide) (br_f (by decide) (br_f (by decide) (br_f (by decide) (br_f (by decide) (br_t rfl ?_))))))
    refine tx_olf hT ?_
    exact tp_br (fun e2 => tq_1 h (decide_eq_true (Decidable.not_not.mp (of_decide_eq_false e2)))) (fun e2 => tq_0 h (decide_eq_false (of_decide_eq_true e2)))
  · refine br_f (by decide) (br_f (by decide) (br_f (by decide) (br_f (by decide) (br_f (by decide) (br_f (by decide) (br_f (by decide) (br_t rfl ?_)))))))
    rw [hT 0 (by omega), hT 2 (by omega), nI_clamp (by omega), nI_clamp (by omega), hK s, hK t]
    refine tp_br (fun e => tq_0 h (decide_eq_false (fun z => of_decide_eq_false e z.1))) (fun e => pk_eq (tp_me P Q 2) 0 (fun e2 => tq_0 h (decide_eq_false (fun z => z.2.1 e2))) (fun e2 => ⟨tp_in12 hs, tp_in12 ht, ?_⟩))
    refine tx_great (by omega) (by omega) ?_
    exact pk_eq (tp_me P Q 0) (tp_mx (k s) (k t)) (fun e3 => tq_0 h (decide_eq_false (fun z => z.2.2 e3))) (fun e3 => tq_1 h (decide_eq_true ⟨of_decide_eq_true e, e2, e3⟩))
  · refine br_f (by decide) (br_t (by decide) ⟨tp_in12 hs, tp_in12 ht, ?_⟩)
    rw [hT 0 (by omega), hT 2 (by omega), hT 6 (by omega), nI_clamp (by omega), nI_clamp (by omega), hK s, hK t]
    exact pk_eq (k s) (k t) (fun e => ⟨tp_in12 hs, pk_eq (tp_me P Q 0) (k s) (fun e1 => pk_eq (tp_me P Q 2) 0 (fun e2 => tq_0 h (decide_eq_false (fun z => z.2.2.1 e2))) (fun e2 => pk_eq (tp_me P Q 6) 0 (fun e3 => tq_0 h (decide_eq_false (fun z => z.2.2.2 e3))) (fun e3 => tq_1 h (decide_eq_true ⟨e, e1, e2, e3⟩)))) (fun e1 => tq_0 h (decide_eq_false (fun z => e1 z.2.1)))⟩) (fun e => tq_0 h (decide_eq_false (fun z => e z.1)))
end
theorem tx_so {post : Int32 → SX → Prop} {f : Int32} {K S M P T U Q : Nat → Int32} {k : Nat → Nat} {m : Nat → Bool} (hK : ∀ x, K x = nI (k x)) (hC : tp_Cr k m S P) {s t w : Nat} (hs : s < 12) (ht : t < 12) (hw : w < 7) (h : ∀ T', post (tp_b (tp_so (k s) (k t) (tp_ps k m s) (tp_ps k m t) w)) (f, K, S, M, P, T', U, Q)) : wpX_areSo post (f, K, S, M, P, T, U, Q) (nI s) (nI t) (nI w) := by
  unfold wpX_areSo
  dsimp only
  refine tx_meet hC hs ht (fun T' hT => ?_)
  dsimp only
  have key := tx_so20 (post := post) (f := f) (S := S) (M := M) (PL := P) (U := U) (Q0 := Q) hK hT hs ht hw (hC.1 s hs).1 (hC.1 t ht).1 (h T')
  have m0 := tp_me_3 (tp_ps k m s) (tp_ps k m t) 0
  rw [hT 0 (by omega)]
  refine pk_eq (tp_me (tp_ps k m s) (tp_ps k m t) 0) 0 (fun e => ?_) (fun e => ?_)
  · rw [decide_eq_false (p := ¬ tp_me (tp_ps k m s) (tp_ps k m t) 0 = 0) (fun z => z e)] at key
    exact key
  · rw [decide_eq_true (p := ¬ tp_me (tp_ps k m s) (tp_ps k m t) 0 = 0) e] at key
    exact key
theorem tp_name (x : Int32) (hx : x < 0 ∨ nI 7 ≤ x) {A B C : Prop} (a : A) (c : C) : (x < 0 → A) ∧ (¬ x < 0 → ((x ≤ 6 → B) ∧ (¬ x ≤ 6 → C))) := by
  by_cases h : x < 0
  · exact br_t h a
  · refine br_f h (br_f (fun z => ?_) c)
    have z1 := (tp_leR (x := x) (n := 6) (by decide)).mp z
    have z2 := (tp_leL (x := x) (n := 7) (by decide)).mp (hx.resolve_left h)
    omega
theorem ty_is_y {post : Int32 → SY → Prop} {K M H A B p q : Nat → Int32} {k : Nat → Nat} {m : Nat → Bool} (hK : ∀ x, K x = nI (k x)) (hM : ∀ x, M x = tp_b (m x)) {s t w : Nat} (hs : s < 12) (ht : t < 12) (hw : w < 7) (O1 : tp_Ok (k s) (tp_sl m s)) (O2 : tp_Ok (k t) (tp_sl m t)) (h01 : k s ≠ 0) (h02 : k t ≠ 0) (h : ∀ A' B', post (tp_b (tp_so (k s) (k t) (tp_ps k m s) (tp_ps k m t) w)) (K, M, H, A', B', p, q)) : wpY_is post (K, M, H, A, B, p, q) (nI s) (nI t) (nI w) := by
  unfold wpY_is
  dsimp only
  refine ty_bp_0 hK hs ht O1.1 O2.1 h01 h02 (br_t (by decide) (br_f (nI_pos (by omega)) (br_t (nI_le (b := 6) (by omega) (by decide)) ?_)))
  refine ty_so hK hM hs ht hw O1 O2 (fun A' B' => ?_)
  exact tp_br (fun e => tq_0 (h A' B') e) (fun e => tq_1 (h A' B') e)
theorem i_vc_is {k : Nat} {u : SX} {v : SY} (I : i_Rel k u v) (hk : k + 4 ≤ 2048) (v1 : Int32) (v2 : Int32) (v3 : Int32) : wpX_is (fun r u' => wpY_is (fun r' v' => r' = r ∧ i_Rel (k + 4) u' v') v v1 v2 v3) u v1 v2 v3 := by
  have R : i_Rel (k + 4) u v := I
  obtain ⟨kk, mm, hX, hY⟩ := I
  obtain ⟨f, K, S, M, P, T, U, Q⟩ := u
  obtain ⟨K2, M2, H, A, B, p, q⟩ := v
  obtain ⟨hK, hM, hC⟩ := hX
  obtain ⟨hK2, hM2⟩ := hY
  unfold wpX_is
  dsimp only
  rcases tp_rg2 v1 v2 12 (by decide) with ⟨s, t, hs, ht, rfl, rfl⟩ | hx
  · have h3 := (hC.1 s hs).1
    have h3t := (hC.1 t ht).1
    by_cases h0 : kk s = 0 ∨ kk t = 0
    · refine tx_rss_2 hK hs ht h3 h0 (br_f (by decide) ?_)
      unfold wpY_is
      dsimp only
      exact ty_bp_2 hK2 hs ht h3 h0 (br_f (by decide) ⟨rfl, R⟩)
    · have h01 : kk s ≠ 0 := fun z => h0 (Or.inl z)
      have h02 : kk t ≠ 0 := fun z => h0 (Or.inr z)
      refine tx_rss_0 hK hs ht h3 h3t h01 h02 (br_t rfl ?_)
      rcases tp_rg v3 7 (by decide) with ⟨w, hw, rfl⟩ | hx
      · refine tx_name_y hw (br_f (by decide) ?_)
        refine tx_so hK hC hs ht hw (fun T' => ?_)
        dsimp only
        refine tp_br (fun e => ?_) (fun e => ?_)
        · refine ty_is_y hK2 hM2 hs ht hw (hC.1 s hs) (hC.1 t ht) h01 h02 (fun A' B' => ⟨?_, kk, mm, ⟨hK, hM, hC⟩, hK2, hM2⟩)
          rw [e]
          rfl
        · refine ty_is_y hK2 hM2 hs ht hw (hC.1 s hs) (hC.1 t ht) h01 h02 (fun A' B' => ⟨?_, kk, mm, ⟨hK, hM, hC⟩, hK2, hM2⟩)
          rw [e]
          rfl
      · refine tx_name_n hx (br_t rfl ?_)
        unfold wpY_is
        dsimp only
        exact ty_bp_0 hK2 hs ht h3 h3t h01 h02 (br_t (by decide) (tp_name v3 hx ⟨rfl, R⟩ ⟨rfl, R⟩))
  · refine tx_rss_1 hx (br_f (by decide) ?_)
    unfold wpY_is
    dsimp only
    exact ty_bp_1 hx (br_f (by decide) ⟨rfl, R⟩)
theorem i_vc_relate {k : Nat} {u : SX} {v : SY} (I : i_Rel k u v) (hk : k + 4 ≤ 2048) (v1 : Int32) (v2 : Int32) : wpX_relate (fun r u' => wpY_relate (fun r' v' => r' = r ∧ i_Rel (k + 4) u' v') v v1 v2) u v1 v2 := by
  have R : i_Rel (k + 4) u v := I
  obtain ⟨kk, mm, hX, hY⟩ := I
  obtain ⟨f, K, S, M, P, T, U, Q⟩ := u
  obtain ⟨K2, M2, H, A, B, p, q⟩ := v
  obtain ⟨hK, hM, hC⟩ := hX
  obtain ⟨hK2, hM2⟩ := hY
  unfold wpX_relate wpY_relate
  dsimp only
  rcases tp_rg2 v1 v2 12 (by decide) with ⟨s, t, hs, ht, rfl, rfl⟩ | hx
  · have h3 := (hC.1 s hs).1
    have h3t := (hC.1 t ht).1
    by_cases h0 : kk s = 0 ∨ kk t = 0
    · exact tx_rss_2 hK hs ht h3 h0 (br_f (by decide) (ty_bp_2 hK2 hs ht h3 h0 (br_f (by decide) ⟨rfl, R⟩)))
    · have h01 : kk s ≠ 0 := fun z => h0 (Or.inl z)
      have h02 : kk t ≠ 0 := fun z => h0 (Or.inr z)
      refine tx_rss_0 hK hs ht h3 h3t h01 h02 (br_t rfl ?_)
      refine tx_meet hC hs ht (fun T' hT => ?_)
      dsimp only
      refine loop_0 (fun n c (x : Nat) => wX_relate_25 _ f K S M P T' U Q n (nI x) (nI c)) (fun c x => x = tp_dg (tp_me (tp_ps kk mm s) (tp_ps kk mm t)) c) 9 0 rfl ?_ ?_
      · intro n x hx
        refine br_t (tp_rfl 9) ?_
        refine ty_bp_0 hK2 hs ht h3 h3t h01 h02 (br_t (by decide) ?_)
        refine ty_parts1 hK2 hM2 hs h3 (fun A' hA => ?_)
        dsimp only
        refine ty_parts0 hK2 hM2 ht h3t (fun B' hB => ?_)
        dsimp only
        refine loop_0 (fun n c (x : Nat) => wY_relate_31 _ K2 M2 H A' B' p q n (nI x) (nI c)) (fun c x => x = tp_dg (tp_me (tp_ps kk mm s) (tp_ps kk mm t)) c) 9 0 rfl ?_ ?_
        · intro n y hy
          refine br_t (tp_rfl 9) ⟨?_, kk, mm, ⟨hK, hM, hC⟩, hK2, hM2⟩
          rw [hx, hy]
        · intro n c y hc hy ih
          refine br_f (nI_ge (b := 9) hc (by decide)) ⟨tp_3, tp_3, ?_⟩
          rw [tp_r3 (by omega), tp_d3 (by omega)]
          refine ty_meet (P := tp_ps kk mm s) (Q := tp_ps kk mm t) hA hB (tp_ps_2 kk mm s) (tp_ps_2 kk mm t) (by omega) (by omega) ?_
          rw [show 3 * (c / 3) + c % 3 = c from by omega]
          refine nm_r (e' := nI (tp_dg (tp_me (tp_ps kk mm s) (tp_ps kk mm t)) (c + 1))) ?_ (nm_r (nI_1 c) (ih _ rfl))
          rw [show (4 : Int32) = nI 4 from rfl, pk_mul, nI_add, hy, tp_dg, Nat.mul_comm]
      · intro n c x hc hx ih
        refine br_f (nI_ge (b := 9) hc (by decide)) ⟨vp_in_nI hc (by decide), ?_⟩
        refine nm_r (e' := nI (tp_dg (tp_me (tp_ps kk mm s) (tp_ps kk mm t)) (c + 1))) ?_ (nm_r (nI_1 c) (ih _ rfl))
        rw [nI_clamp (by omega), hT c hc, show (4 : Int32) = nI 4 from rfl, pk_mul, nI_add, hx, tp_dg]
  · exact tx_rss_1 hx (br_f (by decide) (ty_bp_1 hx (br_f (by decide) ⟨rfl, R⟩)))
end
section
/-- a pair of slots counted by pairs -/
def tp_pr (k : Nat → Nat) (m : Nat → Bool) (w : Nat) : Nat → Bool := fun x => decide (x / 12 ≠ x % 12 ∧ k (x / 12) ≠ 0 ∧ k (x % 12) ≠ 0) && tp_so (k (x / 12)) (k (x % 12)) (tp_ps k m (x / 12)) (tp_ps k m (x % 12)) w
theorem tx_two {post : Int32 → Prop} {f : Int32} {K S M P T U Q : Nat → Int32} {k : Nat → Nat} (hK : ∀ x, K x = nI (k x)) {s t : Nat} (hs : s < 12) (ht : t < 12) (h3 : k s ≤ 3) (h3t : k t ≤ 3) (h : post (tp_b (decide (s ≠ t ∧ k s ≠ 0 ∧ k t ≠ 0)))) : wpX_areTwoShapes post (f, K, S, M, P, T, U, Q) (nI s) (nI t) := by
  unfold wpX_areTwoShapes
  dsimp only
  rw [nI_clamp (by omega), nI_clamp (by omega), hK s, hK t]
  exact pk_eq s t (fun e => tp_p0 h (decide_eq_false (fun z => z.1 e))) (fun e => ⟨tp_in12 hs, pk_eq (k s) 0 (fun e1 => tp_p0 h (decide_eq_false (fun z => z.2.1 e1))) (fun e1 => ⟨tp_in12 ht, pk_eq (k t) 0 (fun e2 => tp_p0 h (decide_eq_false (fun z => z.2.2 e2))) (fun e2 => tp_p1 h (decide_eq_true ⟨e, e1, e2⟩))⟩)⟩)
theorem tx_pairs14 {post : Int32 → SX → Prop} {f : Int32} {K S M P T U Q : Nat → Int32} {k : Nat → Nat} {m : Nat → Bool} (hK : ∀ x, K x = nI (k x)) (hC : tp_Cr k m S P) {w : Nat} (hw : w < 7) (h : ∀ T', post (nI (tp_cnt (tp_pr k m w) 144)) (f, K, S, M, P, T', U, Q)) : ∃ n, wX_pairs_14 post (nI w) n 0 0 f K S M P T U Q := by
  refine loop_0 (fun n s (z : Nat × (Nat → Int32)) => wX_pairs_14 post (nI w) n (nI z.1) (nI s) f K S M P z.2 U Q) (fun s z => z.1 = tp_cnt (tp_pr k m w) (12 * s)) 12 (0, T) rfl ?_ ?_
  · rintro n ⟨x, T'⟩ hx
    have hx : x = _ := hx
    subst hx
    exact br_t (tp_rfl 12) (h T')
  · rintro n s ⟨x, T'⟩ hs hx ih
    have hx : x = tp_cnt (tp_pr k m w) (12 * s) := hx
    refine br_f (nI_ge (b := 12) hs (by decide)) ?_
    refine loop_0 (fun n t (z : Nat × (Nat → Int32)) => wX_pairs_23 post _ (nI w) (nI s) n (nI z.1) (nI t) f K S M P z.2 U Q) (fun t z => z.1 = tp_cnt (tp_pr k m w) (12 * s + t)) 12 (x, T') hx ?_ ?_
    · rintro n ⟨y, T2⟩ hy
      exact br_t (tp_rfl 12) (nm_r (nI_1 s) (ih (y, T2) hy))
    · rintro n t ⟨y, T2⟩ ht hy ih2
      have hy : y = tp_cnt (tp_pr k m w) (12 * s + t) := hy
      refine br_f (nI_ge (b := 12) ht (by decide)) ?_
      refine tx_two hK hs ht (hC.1 s hs).1 (hC.1 t ht).1 ?_
      have e1 : (12 * s + t) / 12 = s := by omega
      have e2 : (12 * s + t) % 12 = t := by omega
      have hp : tp_pr k m w (12 * s + t) = (decide (s ≠ t ∧ k s ≠ 0 ∧ k t ≠ 0) && tp_so (k s) (k t) (tp_ps k m s) (tp_ps k m t) w) := by
        unfold tp_pr
        rw [e1, e2]
      have cf : tp_pr k m w (12 * s + t) = false → y = tp_cnt (tp_pr k m w) (12 * s + (t + 1)) := by
        intro e
        rw [hy, ← Nat.add_assoc, tp_cnt, e]
        rfl
      have ct : tp_pr k m w (12 * s + t) = true → y + 1 = tp_cnt (tp_pr k m w) (12 * s + (t + 1)) := by
        intro e
        rw [hy, ← Nat.add_assoc, tp_cnt, e]
        rfl
      refine tp_br (fun e => nm_r (nI_1 t) (ih2 (y, T2) (cf ?_))) (fun e => ?_)
      · rw [hp, e, Bool.false_and]
      · refine tx_so hK hC hs ht hw (fun T3 => ?_)
        dsimp only
        refine tp_br (fun e3 => nm_r (nI_1 t) (ih2 (y, T3) (cf ?_))) (fun e3 => nm_r (nI_1 y) (nm_r (nI_1 t) (ih2 (y + 1, T3) (ct ?_))))
        · rw [hp, e3, Bool.and_false]
        · rw [hp, e, e3]
          rfl
theorem ty_pairs17 {post : Int32 → SY → Prop} {K M H A B p q : Nat → Int32} {k : Nat → Nat} {m : Nat → Bool} (hK : ∀ x, K x = nI (k x)) (hM : ∀ x, M x = tp_b (m x)) (hO : ∀ s, s < 12 → tp_Ok (k s) (tp_sl m s)) {w : Nat} (hw : w < 7) (h : ∀ A' B', post (nI (tp_cnt (tp_pr k m w) 144)) (K, M, H, A', B', p, q)) : ∃ n, wY_pairs_17 post (nI w) n 0 0 K M H A B p q := by
  refine loop_0 (fun n x (z : Nat × (Nat → Int32) × (Nat → Int32)) => wY_pairs_17 post (nI w) n (nI z.1) (nI x) K M H z.2.1 z.2.2 p q) (fun x z => z.1 = tp_cnt (tp_pr k m w) x) 144 (0, A, B) rfl ?_ ?_
  · rintro n ⟨y, A', B'⟩ hy
    have hy : y = _ := hy
    subst hy
    exact br_t (tp_rfl 144) (h A' B')
  · rintro n x ⟨y, A', B'⟩ hx hy ih
    have hy : y = tp_cnt (tp_pr k m w) x := hy
    have hs : x / 12 < 12 := by omega
    have ht : x % 12 < 12 := by omega
    have h3 := (hO _ hs).1
    have h3t := (hO _ ht).1
    refine br_f (nI_ge (b := 144) hx (by decide)) ⟨tp_12, nm_r (tp_d12 (by omega)) ⟨tp_12, nm_r (tp_r12 (by omega)) ?_⟩⟩
    rw [nI_clamp (by omega), nI_clamp (by omega), hK (x / 12), hK (x % 12)]
    have cf : tp_pr k m w x = false → y = tp_cnt (tp_pr k m w) (x + 1) := by
      intro e
      rw [hy, tp_cnt, e]
      rfl
    have ct : tp_pr k m w x = true → y + 1 = tp_cnt (tp_pr k m w) (x + 1) := by
      intro e
      rw [hy, tp_cnt, e]
      rfl
    have no : ¬ (x / 12 ≠ x % 12 ∧ k (x / 12) ≠ 0 ∧ k (x % 12) ≠ 0) → tp_pr k m w x = false := by
      intro e
      unfold tp_pr
      rw [decide_eq_false e, Bool.false_and]
    refine pk_eq (x / 12) (x % 12) (fun e => nm_r (nI_1 x) (ih (y, A', B') (cf (no (fun z => z.1 e))))) (fun e => ⟨tp_in12 hs, pk_le (k (x / 12)) 0 (fun e1 => nm_r (nI_1 x) (ih (y, A', B') (cf (no (fun z => z.2.1 (by omega)))))) (fun e1 => ⟨tp_in12 ht, pk_le (k (x % 12)) 0 (fun e2 => nm_r (nI_1 x) (ih (y, A', B') (cf (no (fun z => z.2.2 (by omega)))))) (fun e2 => ?_)⟩)⟩)
    refine ty_so hK hM hs ht hw (hO _ hs) (hO _ ht) (fun A2 B2 => ?_)
    dsimp only
    refine tp_br (fun e3 => nm_r (nI_1 x) (ih (y, A2, B2) (cf ?_))) (fun e3 => nm_r (nI_1 y) (nm_r (nI_1 x) (ih (y + 1, A2, B2) (ct ?_))))
    · unfold tp_pr
      rw [e3, Bool.and_false]
    · unfold tp_pr
      rw [e3, decide_eq_true ⟨e, by omega, by omega⟩]
      rfl
theorem i_vc_pairs {k : Nat} {u : SX} {v : SY} (I : i_Rel k u v) (hk : k + 4 ≤ 2048) (v1 : Int32) : wpX_pairs (fun r u' => wpY_pairs (fun r' v' => r' = r ∧ i_Rel (k + 4) u' v') v v1) u v1 := by
  have R : i_Rel (k + 4) u v := I
  obtain ⟨kk, mm, hX, hY⟩ := I
  obtain ⟨f, K, S, M, P, T, U, Q⟩ := u
  obtain ⟨K2, M2, H, A, B, p, q⟩ := v
  obtain ⟨hK, hM, hC⟩ := hX
  obtain ⟨hK2, hM2⟩ := hY
  unfold wpX_pairs wpY_pairs
  dsimp only
  rcases tp_rg v1 7 (by decide) with ⟨w, hw, rfl⟩ | hx
  · refine tx_name_y hw (br_f (by decide) ?_)
    refine tx_pairs14 hK hC hw (fun T' => ?_)
    refine br_f (nI_pos (by omega)) (br_t (nI_le (b := 6) (by omega) (by decide)) ?_)
    exact ty_pairs17 hK2 hM2 hC.1 hw (fun A' B' => ⟨rfl, kk, mm, ⟨hK, hM, hC⟩, hK2, hM2⟩)
  · exact tx_name_n hx (br_t rfl (tp_name v1 hx ⟨rfl, R⟩ ⟨rfl, R⟩))
/-- a vertex of the body -/
def tp_vb (k : Nat → Nat) (m : Nat → Bool) (s v : Nat) : Bool := decide (tp_pt (k s) (tp_sl m s) (2 * (v / 9)) (2 * (v % 9)) ≠ 2)
theorem tx_vib {post : Int32 → Prop} {f : Int32} {K S M P T U Q : Nat → Int32} {k : Nat → Nat} {m : Nat → Bool} (hC : tp_Cr k m S P) {s v : Nat} (hs : s < 12) (hv : v < 81) (h : post (tp_b (tp_vb k m s v))) : wpX_isVertexInBody post (f, K, S, M, P, T, U, Q) (nI s) (nI v) := by
  unfold wpX_isVertexInBody
  dsimp only
  refine tx_col (by omega) ?_
  refine nm_r (tp_t2 _) ?_
  refine tx_row (by omega) ?_
  refine nm_r (tp_t2 _) ?_
  exact tx_inb hC hs (by omega) (by omega) ⟨tp_nab _, h⟩
theorem ty_body {post : Int32 → Prop} {K M H A B p q : Nat → Int32} {k : Nat → Nat} {m : Nat → Bool} (hK : ∀ x, K x = nI (k x)) (hM : ∀ x, M x = tp_b (m x)) {s v : Nat} (hs : s < 12) (h3 : k s ≤ 3) (hv : v < 81) (h : post (tp_b (tp_vb k m s v))) : wpY_isBody post (K, M, H, A, B, p, q) (nI s) (nI v) := by
  unfold wpY_isBody
  dsimp only
  rw [tp_r9 (by omega), tp_d9 (by omega), tp_t2, tp_t2]
  refine ⟨tp_9, tp_9, ty_part hK hM hs h3 (by omega) (by omega) ?_⟩
  have h2 := tp_pt_le (k s) (tp_sl m s) (2 * (v / 9)) (2 * (v % 9))
  exact pk_le 2 (tp_pt (k s) (tp_sl m s) (2 * (v / 9)) (2 * (v % 9))) (fun e => tp_p0 h (decide_eq_false (fun z => z (by omega)))) (fun e => tp_p1 h (decide_eq_true (by omega)))
/-- the pairs of vertices of two bodies -/
def tp_vp (k : Nat → Nat) (m : Nat → Bool) (s t a b : Nat) : Prop := a < 81 ∧ b < 81 ∧ tp_vb k m s a = true ∧ tp_vb k m t b = true
theorem tp_Mn_k {P : Nat → Nat → Prop} {a r : Nat} (ha : 1000 ≤ a) (hP : ∃ v w, P v w) (h81 : ∀ v w, P v w → v < 81 ∧ w < 81) (h : tp_Mn P a r) : tp_Mn P 1000 r ∧ r ≤ 128 := by
  have hr := (tp_Mn_u ha ha hP h81 h h).2
  refine ⟨⟨by omega, h.2.1, ?_⟩, hr⟩
  rcases h.2.2 with e | e
  · omega
  · exact Or.inr e
noncomputable def tp_D (P : Nat → Nat → Prop) : Nat := Classical.epsilon (fun r => tp_Mn P 1000 r)
theorem tp_D_e {P : Nat → Nat → Prop} {a r : Nat} (ha : 1000 ≤ a) (hP : ∃ v w, P v w) (h81 : ∀ v w, P v w → v < 81 ∧ w < 81) (h : tp_Mn P a r) : r = tp_D P ∧ r ≤ 128 := by
  have h' := tp_Mn_k ha hP h81 h
  have hs : tp_Mn P 1000 (tp_D P) := Classical.epsilon_spec (p := fun r => tp_Mn P 1000 r) ⟨r, h'.1⟩
  exact ⟨(tp_Mn_u (by omega) (by omega) hP h81 h'.1 hs).1, h'.2⟩
theorem tp_vp_e {k : Nat → Nat} {m : Nat → Bool} {s t : Nat} (O1 : tp_Ok (k s) (tp_sl m s)) (O2 : tp_Ok (k t) (tp_sl m t)) (h1 : k s ≠ 0) (h2 : k t ≠ 0) : ∃ v w, tp_vp k m s t v w := by
  obtain ⟨v, hv, e⟩ := tp_vtx_e O1 h1
  obtain ⟨w, hw, e'⟩ := tp_vtx_e O2 h2
  exact ⟨v, w, hv, hw, decide_eq_true e, decide_eq_true e'⟩
theorem tp_mn_c (r d : Nat) : tp_mn r d = if d < r then d else r := by
  unfold tp_mn
  split <;> split <;> omega
theorem tx_lsf {post : Int32 → Prop} {f : Int32} {K S M P T U Q : Nat → Int32} {k : Nat → Nat} {m : Nat → Bool} (hC : tp_Cr k m S P) {t v : Nat} (ht : t < 12) (hv : v < 81) (h : ∀ r, tp_Mn (fun a b => a = v ∧ b < 81 ∧ tp_vb k m t b = true) 6561 r → post (nI r)) : wpX_leastSquareFrom post (f, K, S, M, P, T, U, Q) (nI v) (nI t) := by
  refine loop_0 (fun n w (r : Nat) => wX_leastSquareFrom_7 post (nI v) (nI t) f K S M P T U Q n (nI r) (nI w)) (fun w r => tp_Mn (fun a b => a = v ∧ b < w ∧ tp_vb k m t b = true) 6561 r) 81 6561 (tp_Mn_0 (fun a b z => absurd z.2.1 (by omega))) ?_ ?_
  · intro n r hr
    exact br_t (tp_rfl 81) (h r hr)
  · intro n w r hw hr ih
    refine br_f (nI_ge (b := 81) hw (by decide)) ?_
    refine tx_vib hC ht hw ?_
    refine tp_br (fun e => nm_r (nI_1 w) (ih r (tp_Mn_c hr (fun a b => ?_)))) (fun e => ?_)
    · constructor
      · rintro ⟨z1, z2, z3⟩
        exact ⟨z1, by omega, z3⟩
      · rintro ⟨z1, z2, z3⟩
        refine ⟨z1, ?_, z3⟩
        by_cases z : b = w
        · subst z
          rw [e] at z3
          exact nomatch z3
        · omega
    · refine tx_col (by omega) ?_
      refine tx_col (by omega) ?_
      refine nm_e ?_
      refine tx_row (by omega) ?_
      refine tx_row (by omega) ?_
      refine nm_e ?_
      rw [tp_d_i _ (by omega) _ (by omega), tp_d_i _ (by omega) _ (by omega), nI_add]
      have h1 := hr.1
      have h2 := tp_sq_le hv hw
      refine tx_less (b := tp_sq v w) (by omega) (by omega) ?_
      refine nm_r (nI_1 w) (ih _ ?_)
      rw [tp_mn_c]
      refine tp_Mn_s hr (fun x y => ?_)
      constructor
      · rintro ⟨z1, z2, z3⟩
        by_cases z : y = w
        · exact Or.inr ⟨z1, z⟩
        · exact Or.inl ⟨z1, by omega, z3⟩
      · rintro (⟨z1, z2, z3⟩ | ⟨z1, z2⟩)
        · exact ⟨z1, by omega, z3⟩
        · subst z2
          exact ⟨z1, by omega, e⟩
theorem tx_ls {post : Int32 → Prop} {f : Int32} {K S M P T U Q : Nat → Int32} {k : Nat → Nat} {m : Nat → Bool} (hC : tp_Cr k m S P) {s t : Nat} (hs : s < 12) (ht : t < 12) (h1 : k s ≠ 0) (h2 : k t ≠ 0) (h : tp_D (tp_vp k m s t) ≤ 128 → post (nI (tp_D (tp_vp k m s t)))) : wpX_leastSquare post (f, K, S, M, P, T, U, Q) (nI s) (nI t) := by
  refine loop_0 (fun n v (r : Nat) => wX_leastSquare_7 post (nI s) (nI t) f K S M P T U Q n (nI r) (nI v)) (fun v r => tp_Mn (fun a b => a < v ∧ b < 81 ∧ tp_vb k m s a = true ∧ tp_vb k m t b = true) 6561 r) 81 6561 (tp_Mn_0 (fun a b z => absurd z.1 (by omega))) ?_ ?_
  · intro n r hr
    have hd := tp_D_e (P := tp_vp k m s t) (a := 6561) (by omega) (tp_vp_e (hC.1 s hs) (hC.1 t ht) h1 h2) (fun v w z => ⟨z.1, z.2.1⟩) hr
    refine br_t (tp_rfl 81) ?_
    rw [hd.1]
    exact h (by omega)
  · intro n v r hv hr ih
    refine br_f (nI_ge (b := 81) hv (by decide)) ?_
    refine tx_vib hC hs hv ?_
    refine tp_br (fun e => nm_r (nI_1 v) (ih r (tp_Mn_c hr (fun a b => ?_)))) (fun e => ?_)
    · constructor
      · rintro ⟨z1, z2, z3, z4⟩
        exact ⟨by omega, z2, z3, z4⟩
      · rintro ⟨z1, z2, z3, z4⟩
        refine ⟨?_, z2, z3, z4⟩
        by_cases z : a = v
        · subst z
          rw [e] at z3
          exact nomatch z3
        · omega
    · refine tx_lsf hC ht hv (fun r2 hr2 => ?_)
      have g1 := hr.1
      have g2 := hr2.1
      refine tx_less (by omega) (by omega) ?_
      refine nm_r (nI_1 v) (ih _ ?_)
      refine tp_Mn_m (by omega) hr hr2 (fun x y => ?_)
      constructor
      · rintro ⟨z1, z2, z3, z4⟩
        by_cases z : x = v
        · exact Or.inr ⟨z, z2, z4⟩
        · exact Or.inl ⟨by omega, z2, z3, z4⟩
      · rintro (⟨z1, z2, z3, z4⟩ | ⟨z1, z2, z3⟩)
        · exact ⟨by omega, z2, z3, z4⟩
        · subst z1
          exact ⟨by omega, z2, e, z3⟩
theorem ty_sq {post : Int32 → Prop} {K M H A B p q : Nat → Int32} {v w : Nat} (hv : v < 81) (hw : w < 81) (h : post (nI (tp_sq v w))) : wpY_square post (K, M, H, A, B, p, q) (nI v) (nI w) := by
  unfold wpY_square
  dsimp only
  rw [tp_r9 (by omega), tp_r9 (by omega), tp_d9 (by omega), tp_d9 (by omega)]
  refine ⟨tp_9, tp_9, nm_e ⟨tp_9, tp_9, nm_e ?_⟩⟩
  rw [tp_d_i _ (by omega) _ (by omega), tp_d_i _ (by omega) _ (by omega), nI_add]
  exact h
theorem ty_dist {post : Int32 → Prop} {K M H A B p q : Nat → Int32} {k : Nat → Nat} {m : Nat → Bool} (hK : ∀ x, K x = nI (k x)) (hM : ∀ x, M x = tp_b (m x)) {s t : Nat} (hs : s < 12) (ht : t < 12) (O1 : tp_Ok (k s) (tp_sl m s)) (O2 : tp_Ok (k t) (tp_sl m t)) (h1 : k s ≠ 0) (h2 : k t ≠ 0) (h : tp_D (tp_vp k m s t) ≤ 128 → post (nI (tp_D (tp_vp k m s t)))) : wpY_distance post (K, M, H, A, B, p, q) (nI s) (nI t) := by
  refine loop_0 (fun n v (r : Nat) => wY_distance_7 post (nI s) (nI t) K M H A B p q n (nI r) (nI v)) (fun v r => tp_Mn (fun a b => a < v ∧ b < 81 ∧ tp_vb k m s a = true ∧ tp_vb k m t b = true) 1000 r) 81 1000 (tp_Mn_0 (fun a b z => absurd z.1 (by omega))) ?_ ?_
  · intro n r hr
    have hd := tp_D_e (P := tp_vp k m s t) (a := 1000) (by omega) (tp_vp_e O1 O2 h1 h2) (fun v w z => ⟨z.1, z.2.1⟩) hr
    refine br_t (tp_rfl 81) ?_
    rw [hd.1]
    exact h (by omega)
  · intro n v r hv hr ih
    refine br_f (nI_ge (b := 81) hv (by decide)) ?_
    refine ty_body hK hM hs O1.1 hv ?_
    cases e : tp_vb k m s v with
    | false =>
      refine ⟨1, br_f (by decide) (br_t rfl (nm_r (nI_1 v) (ih r (tp_Mn_c hr (fun a b => ?_)))))⟩
      constructor
      · rintro ⟨z1, z2, z3, z4⟩
        exact ⟨by omega, z2, z3, z4⟩
      · rintro ⟨z1, z2, z3, z4⟩
        refine ⟨?_, z2, z3, z4⟩
        by_cases z : a = v
        · subst z
          rw [e] at z3
          exact nomatch z3
        · omega
    | true =>
      refine loop_0 (fun n w (r : Nat) => wY_distance_26 post _ (nI s) (nI t) (nI v) _ K M H A B p q n (nI r) (nI w)) (fun w r => tp_Mn (fun a b => (a < v ∧ b < 81 ∧ tp_vb k m s a = true ∧ tp_vb k m t b = true) ∨ (a = v ∧ b < w ∧ tp_vb k m t b = true)) 1000 r) 81 r (tp_Mn_c hr (fun a b => ⟨Or.inl, fun z => z.resolve_right (fun z => absurd z.2.1 (by omega))⟩)) ?_ ?_
      · intro n r hr
        refine br_t (tp_rfl 81) (nm_r (nI_1 v) (ih r (tp_Mn_c hr (fun a b => ?_))))
        constructor
        · rintro (⟨z1, z2, z3, z4⟩ | ⟨z1, z2, z3⟩)
          · exact ⟨by omega, z2, z3, z4⟩
          · subst z1
            exact ⟨by omega, z2, e, z3⟩
        · rintro ⟨z1, z2, z3, z4⟩
          by_cases z : a = v
          · exact Or.inr ⟨z, z2, z4⟩
          · exact Or.inl ⟨by omega, z2, z3, z4⟩
      · intro n w r hw hr ih2
        refine br_f (nI_ge (b := 81) hw (by decide)) (br_f (by decide) ?_)
        refine ty_sq hv hw ?_
        have g1 := hr.1
        have g2 := tp_sq_le hv hw
        have no : tp_vb k m t w = false → tp_Mn (fun a b => (a < v ∧ b < 81 ∧ tp_vb k m s a = true ∧ tp_vb k m t b = true) ∨ (a = v ∧ b < w + 1 ∧ tp_vb k m t b = true)) 1000 r := by
          intro e2
          refine tp_Mn_c hr (fun a b => ?_)
          constructor
          · rintro (z | ⟨z1, z2, z3⟩)
            · exact Or.inl z
            · exact Or.inr ⟨z1, by omega, z3⟩
          · rintro (z | ⟨z1, z2, z3⟩)
            · exact Or.inl z
            · refine Or.inr ⟨z1, ?_, z3⟩
              by_cases z : b = w
              · subst z
                rw [e2] at z3
                exact nomatch z3
              · omega
        have ye : tp_vb k m t w = true → tp_Mn (fun a b => (a < v ∧ b < 81 ∧ tp_vb k m s a = true ∧ tp_vb k m t b = true) ∨ (a = v ∧ b < w + 1 ∧ tp_vb k m t b = true)) 1000 (if tp_sq v w < r then tp_sq v w else r) := by
          intro e2
          refine tp_Mn_s hr (fun x y => ?_)
          constructor
          · rintro (z | ⟨z1, z2, z3⟩)
            · exact Or.inl (Or.inl z)
            · by_cases z : y = w
              · exact Or.inr ⟨z1, z⟩
              · exact Or.inl (Or.inr ⟨z1, by omega, z3⟩)
          · rintro ((z | ⟨z1, z2, z3⟩) | ⟨z1, z2⟩)
            · exact Or.inl z
            · exact Or.inr ⟨z1, by omega, z3⟩
            · subst z2
              exact Or.inr ⟨z1, by omega, e2⟩
        refine pk_le r (tp_sq v w) (fun e3 => nm_r (nI_1 w) (ih2 r ?_)) (fun e3 => ?_)
        · cases e2 : tp_vb k m t w with
          | false => exact no e2
          | true =>
            have := ye e2
            rw [if_neg (by omega)] at this
            exact this
        · refine ty_body hK hM ht O2.1 hw ?_
          refine tp_br (fun e2 => nm_r (nI_1 w) (ih2 r (no e2))) (fun e2 => nm_r (nI_1 w) (ih2 _ ?_))
          have := ye e2
          rw [if_pos e3] at this
          exact this
end
section
theorem i_vc_apart {k : Nat} {u : SX} {v : SY} (I : i_Rel k u v) (hk : k + 4 ≤ 2048) (v1 : Int32) (v2 : Int32) : wpX_apart (fun r => wpY_apart (fun r' => r' = r ∧ i_Rel (k + 4) u v) v v1 v2) u v1 v2 := by
  have R : i_Rel (k + 4) u v := I
  obtain ⟨kk, mm, hX, hY⟩ := I
  obtain ⟨f, K, S, M, P, T, U, Q⟩ := u
  obtain ⟨K2, M2, H, A, B, p, q⟩ := v
  obtain ⟨hK, hM, hC⟩ := hX
  obtain ⟨hK2, hM2⟩ := hY
  unfold wpX_apart wpY_apart
  dsimp only
  rcases tp_rg2 v1 v2 12 (by decide) with ⟨s, t, hs, ht, rfl, rfl⟩ | hx
  · have h3 := (hC.1 s hs).1
    have h3t := (hC.1 t ht).1
    by_cases h0 : kk s = 0 ∨ kk t = 0
    · exact tx_rss_2 hK hs ht h3 h0 (br_f (by decide) (ty_bp_2 hK2 hs ht h3 h0 (br_f (by decide) ⟨rfl, R⟩)))
    · have h01 : kk s ≠ 0 := fun z => h0 (Or.inl z)
      have h02 : kk t ≠ 0 := fun z => h0 (Or.inr z)
      refine tx_rss_0 hK hs ht h3 h3t h01 h02 (br_t rfl ?_)
      refine tx_ls hC hs ht h01 h02 (fun _ => ?_)
      refine ty_bp_0 hK2 hs ht h3 h3t h01 h02 (br_t (by decide) ?_)
      exact ty_dist hK2 hM2 hs ht (hC.1 s hs) (hC.1 t ht) h01 h02 (fun _ => ⟨rfl, R⟩)
  · exact tx_rss_1 hx (br_f (by decide) (ty_bp_1 hx (br_f (by decide) ⟨rfl, R⟩)))
def tp_fn (a : Nat) : Int32 := if a = 12 then -7 else nI a
theorem tp_n7 : ∀ a, a < 12 → ¬ nI a = -7 := by decide
theorem tp_ns_i {ok : Nat → Bool} {D : Nat → Nat} (hD : ∀ e, ok e = true → D e ≤ 128) : ∀ e, ((tp_ns ok D e).1 = 12 ∧ (tp_ns ok D e).2 = 1000) ∨ ((tp_ns ok D e).1 < e ∧ (tp_ns ok D e).2 ≤ 128)
  | 0 => Or.inl ⟨rfl, rfl⟩
  | e + 1 => by
    rw [tp_ns]
    split
    · rename_i h
      exact Or.inr ⟨Nat.lt_succ_self e, hD e h.1⟩
    · rcases tp_ns_i hD e with z | z
      · exact Or.inl z
      · exact Or.inr ⟨by omega, z.2⟩
/-- the slots that nearest looks at, with their distances -/
noncomputable def tp_nD (k : Nat → Nat) (m : Nat → Bool) (s t : Nat) : Nat := @ite Nat (tp_D (tp_vp k m s t) ≤ 128) (Classical.propDecidable _) (tp_D (tp_vp k m s t)) 0
theorem tp_nD_e {k : Nat → Nat} {m : Nat → Bool} {s t : Nat} (h : tp_D (tp_vp k m s t) ≤ 128) : tp_D (tp_vp k m s t) = tp_nD k m s t := by
  unfold tp_nD
  rw [if_pos h]
theorem tp_nD_l (k : Nat → Nat) (m : Nat → Bool) (s t : Nat) : tp_nD k m s t ≤ 128 := by
  unfold tp_nD
  split
  · assumption
  · omega
def tp_nk (k : Nat → Nat) (s t : Nat) : Bool := decide (s ≠ t ∧ k s ≠ 0 ∧ k t ≠ 0)
theorem tx_near21 {post : Int32 → Prop} {f : Int32} {K S M P T U Q : Nat → Int32} {k : Nat → Nat} {m : Nat → Bool} (hK : ∀ x, K x = nI (k x)) (hC : tp_Cr k m S P) {s : Nat} (hs : s < 12) (h : post (tp_fn (tp_ns (tp_nk k s) (tp_nD k m s) 12).1)) : ∃ n, wX_nearest_21 post (nI s) f K S M P T U Q n (-7) 0 0 := by
  refine loop_0 (fun n t (z : Int32 × Int32) => wX_nearest_21 post (nI s) f K S M P T U Q n z.1 z.2 (nI t)) (fun t z => z.1 = tp_fn (tp_ns (tp_nk k s) (tp_nD k m s) t).1 ∧ ((tp_ns (tp_nk k s) (tp_nD k m s) t).1 ≠ 12 → z.2 = nI (tp_ns (tp_nk k s) (tp_nD k m s) t).2)) 12 ((-7 : Int32), (0 : Int32)) ⟨rfl, fun z => absurd rfl z⟩ ?_ ?_
  · rintro n ⟨x, y⟩ ⟨hx, hy⟩
    have hx : x = _ := hx
    refine br_t (tp_rfl 12) ?_
    dsimp only
    rw [hx]
    exact h
  · rintro n t ⟨x, y⟩ ht ⟨hx, hy⟩ ih
    have hx : x = tp_fn (tp_ns (tp_nk k s) (tp_nD k m s) t).1 := hx
    have hy : (tp_ns (tp_nk k s) (tp_nD k m s) t).1 ≠ 12 → y = nI (tp_ns (tp_nk k s) (tp_nD k m s) t).2 := hy
    have hi := tp_ns_i (ok := tp_nk k s) (D := tp_nD k m s) (fun e _ => tp_nD_l k m s e) t
    refine br_f (nI_ge (b := 12) ht (by decide)) ?_
    refine tx_two hK hs ht (hC.1 s hs).1 (hC.1 t ht).1 ?_
    refine tp_br (fun e => nm_r (nI_1 t) (ih (x, y) ?_)) (fun e => ?_)
    · have hk : ¬ (tp_nk k s t = true ∧ tp_nD k m s t < (tp_ns (tp_nk k s) (tp_nD k m s) t).2) := by
        intro z
        have z1 : tp_nk k s t = false := e
        rw [z1] at z
        exact nomatch z.1
      dsimp only
      rw [tp_ns, if_neg hk]
      exact ⟨hx, hy⟩
    · have hk1 : tp_nk k s t = true := e
      have e := of_decide_eq_true e
      refine tx_ls hC hs ht e.2.1 e.2.2 (fun hd => ?_)
      rw [tp_nD_e hd]
      have hl := tp_nD_l k m s t
      have take : tp_nD k m s t < (tp_ns (tp_nk k s) (tp_nD k m s) t).2 → ∀ w : Int32, w = nI (tp_nD k m s t) → (nI t = tp_fn (tp_ns (tp_nk k s) (tp_nD k m s) (t + 1)).1 ∧ ((tp_ns (tp_nk k s) (tp_nD k m s) (t + 1)).1 ≠ 12 → w = nI (tp_ns (tp_nk k s) (tp_nD k m s) (t + 1)).2)) := by
        intro z w hw
        rw [tp_ns, if_pos ⟨hk1, z⟩]
        refine ⟨?_, fun _ => hw⟩
        unfold tp_fn
        rw [if_neg (by show ¬ t = 12; omega)]
      by_cases h12 : (tp_ns (tp_nk k s) (tp_nD k m s) t).1 = 12
      · have hx7 : x = -7 := by
          rw [hx, h12]
          rfl
        exact br_t hx7 (nm_r (nI_1 t) (ih (_, _) (take (by omega) _ rfl)))
      · have hx7 : ¬ x = -7 := by
          rw [hx]
          unfold tp_fn
          rw [if_neg h12]
          exact tp_n7 _ (by omega)
        refine br_f hx7 ?_
        dsimp only
        rw [hy h12]
        refine pk_le (tp_ns (tp_nk k s) (tp_nD k m s) t).2 (tp_nD k m s t) (fun e3 => nm_r (nI_1 t) (ih (_, _) ?_)) (fun e3 => nm_r (nI_1 t) (ih (_, _) (take e3 _ rfl)))
        dsimp only
        rw [tp_ns, if_neg (fun z => by omega)]
        exact ⟨hx, fun _ => rfl⟩
theorem ty_near32 {post : Int32 → Prop} {K M H A B p q : Nat → Int32} {k : Nat → Nat} {m : Nat → Bool} (hK : ∀ x, K x = nI (k x)) (hM : ∀ x, M x = tp_b (m x)) (hO : ∀ s, s < 12 → tp_Ok (k s) (tp_sl m s)) {s : Nat} (hs : s < 12) (h1 : k s ≠ 0) (h : post (tp_fn (tp_ns (tp_nk k s) (tp_nD k m s) 12).1)) : ∃ n, wY_nearest_32 post (nI s) K M H A B p q n (-7) 1000 0 := by
  refine loop_0 (fun n t (z : Nat × Nat) => wY_nearest_32 post (nI s) K M H A B p q n (tp_fn z.1) (nI z.2) (nI t)) (fun t z => z = tp_ns (tp_nk k s) (tp_nD k m s) t) 12 (12, 1000) rfl ?_ ?_
  · intro n z hz
    subst hz
    exact br_t (tp_rfl 12) h
  · intro n t z ht hz ih
    have hi := tp_ns_i (ok := tp_nk k s) (D := tp_nD k m s) (fun e _ => tp_nD_l k m s e) t
    rw [← hz] at hi
    have h3 := (hO t ht).1
    have no : (¬ (s ≠ t ∧ k s ≠ 0 ∧ k t ≠ 0)) → z = tp_ns (tp_nk k s) (tp_nD k m s) (t + 1) := by
      intro e
      have e1 : tp_nk k s t = false := decide_eq_false e
      rw [tp_ns, if_neg (fun y => by rw [e1] at y; exact nomatch y.1)]
      exact hz
    refine br_f (nI_ge (b := 12) ht (by decide)) ?_
    rw [nI_clamp (by omega), hK t]
    refine pk_eq t s (fun e => nm_r (nI_1 t) (ih z (no (fun y => y.1 e.symm)))) (fun e => ⟨tp_in12 ht, pk_le (k t) 0 (fun e1 => nm_r (nI_1 t) (ih z (no (fun y => y.2.2 (by omega))))) (fun e1 => ?_)⟩)
    refine ty_dist hK hM hs ht (hO s hs) (hO t ht) h1 (by omega) (fun hd => ?_)
    rw [tp_nD_e hd]
    have hl := tp_nD_l k m s t
    have hk1 : tp_nk k s t = true := decide_eq_true ⟨fun y => e y.symm, h1, by omega⟩
    refine pk_le z.2 (tp_nD k m s t) (fun e3 => ?_) (fun e3 => ?_)
    · refine br_t (nI_le e3 (by omega)) (nm_r (nI_1 t) (ih z ?_))
      rw [tp_ns, if_neg (fun y => by rw [← hz] at y; omega)]
      exact hz
    · refine br_f (fun y => ?_) (nm_r (nI_1 t) ?_)
      · have := (nI_leI (by omega) (by omega)).mp y
        omega
      · have hr := ih (t, tp_nD k m s t) (by rw [tp_ns, if_pos ⟨hk1, by rw [← hz]; exact e3⟩])
        have et : tp_fn t = nI t := by
          unfold tp_fn
          rw [if_neg (by omega)]
        dsimp only at hr
        rw [et] at hr
        exact hr
theorem i_vc_nearest {k : Nat} {u : SX} {v : SY} (I : i_Rel k u v) (hk : k + 4 ≤ 2048) (v1 : Int32) : wpX_nearest (fun r => wpY_nearest (fun r' => r' = r ∧ i_Rel (k + 4) u v) v v1) u v1 := by
  have R : i_Rel (k + 4) u v := I
  obtain ⟨kk, mm, hX, hY⟩ := I
  obtain ⟨f, K, S, M, P, T, U, Q⟩ := u
  obtain ⟨K2, M2, H, A, B, p, q⟩ := v
  obtain ⟨hK, hM, hC⟩ := hX
  obtain ⟨hK2, hM2⟩ := hY
  unfold wpX_nearest
  dsimp only
  rcases tp_rg v1 12 (by decide) with ⟨s, hs, rfl⟩ | hx
  · have h3 := (hC.1 s hs).1
    by_cases h0 : kk s = 0
    · refine tx_ras_2 hK hs h0 (br_f (by decide) ?_)
      unfold wpY_nearest
      dsimp only
      rw [nI_clamp (by omega), hK2 s, h0]
      exact ty_slot_y hs (br_f (by decide) ⟨tp_in12 hs, br_t rfl ⟨rfl, R⟩⟩)
    · refine tx_ras_0 hK hs h3 h0 (br_t rfl ?_)
      refine tx_near21 hK hC hs ?_
      unfold wpY_nearest
      dsimp only
      rw [nI_clamp (by omega), hK2 s]
      refine ty_slot_y hs (br_f (by decide) ⟨tp_in12 hs, br_f (nI_ne0 (by omega) (by omega)) ?_⟩)
      exact ty_near32 hK2 hM2 hC.1 hs h0 ⟨rfl, R⟩
  · refine tx_ras_1 hx (br_f (by decide) ?_)
    unfold wpY_nearest
    dsimp only
    exact ty_slot_n hx (br_t rfl ⟨rfl, R⟩)
/-- a slot's body reaches into the window -/
def tp_wd (k : Nat → Nat) (m : Nat → Bool) (f t s : Nat) : Bool := tp_an (fun v => tp_bx f t (2 * (v / 9)) (2 * (v % 9)) && tp_vb k m s v) 81
theorem tp_wd_t {k : Nat → Nat} {m : Nat → Bool} {f t s : Nat} (H : tp_Ok (k s) (tp_sl m s)) (hf : f < 81) (ht : t < 81) : tp_wd k m f t s = true ↔ ∃ i j, tp_bx f t i j = true ∧ tp_pt (k s) (tp_sl m s) i j ≠ 2 := by
  rw [← tp_win H hf ht]
  unfold tp_wd
  rw [tp_an_t]
  constructor
  · rintro ⟨v, hv, e⟩
    rw [Bool.and_eq_true] at e
    exact ⟨v, hv, e.1, of_decide_eq_true e.2⟩
  · rintro ⟨v, hv, e1, e2⟩
    refine ⟨v, hv, ?_⟩
    rw [e1, Bool.true_and]
    exact decide_eq_true e2
theorem ty_inw {post : Int32 → Prop} {K M H A B p q : Nat → Int32} {k : Nat → Nat} {m : Nat → Bool} (hK : ∀ x, K x = nI (k x)) (hM : ∀ x, M x = tp_b (m x)) {s f t : Nat} (hs : s < 12) (h3 : k s ≤ 3) (hf : f < 81) (ht : t < 81) (h : post (tp_b (tp_wd k m f t s))) : wpY_isInWindow post (K, M, H, A, B, p, q) (nI s) (nI f) (nI t) := by
  refine loop_0 (fun n v (x : Bool) => wY_isInWindow_6 post (nI s) (nI f) (nI t) K M H A B p q n (tp_b x) (nI v)) (fun v x => x = tp_an (fun v => tp_bx f t (2 * (v / 9)) (2 * (v % 9)) && tp_vb k m s v) v) 81 false rfl ?_ ?_
  · intro n x hx
    subst hx
    exact br_t (tp_rfl 81) ⟨tp_nab _, h⟩
  · intro n v x hv hx ih
    refine br_f (nI_ge (b := 81) hv (by decide)) ?_
    rw [tp_r9 (by omega), tp_d9 (by omega), tp_t2, tp_t2]
    refine tp_br (fun e => ⟨tp_9, tp_9, ?_⟩) (fun e => nm_r (nI_1 v) (ih true ?_))
    · refine ty_btw (by omega) (by omega) hf ht ?_
      refine tp_br (fun e1 => nm_r (nI_1 v) (ih false ?_)) (fun e1 => ?_)
      · rw [tp_an, ← hx, e, e1]
        rfl
      · refine ty_body hK hM hs h3 hv ?_
        refine tp_br (fun e2 => nm_r (nI_1 v) (ih false ?_)) (fun e2 => nm_r (nI_1 v) (ih true ?_))
        · rw [tp_an, ← hx, e, e1, e2]
          rfl
        · rw [tp_an, ← hx, e, e1, e2]
          rfl
    · rw [tp_an, ← hx, e]
      rfl
theorem tx_rin {post : Int32 → Prop} {fl : Int32} {K S M P T U Q : Nat → Int32} {k : Nat → Nat} {m : Nat → Bool} (hC : tp_Cr k m S P) {s f t : Nat} (hs : s < 12) (hf : f < 81) (ht : t < 81) (h : post (tp_b (tp_wd k m f t s))) : wpX_reachesInto post (fl, K, S, M, P, T, U, Q) (nI s) (nI f) (nI t) := by
  have hw := tp_wd_t (hC.1 s hs) hf ht
  unfold wpX_reachesInto
  dsimp only
  refine tx_highI hf ht ?_
  refine tx_highJ hf ht ?_
  refine tx_lowI hf ht ?_
  have b1 : tp_mn (f / 9) (t / 9) ≤ tp_mx (f / 9) (t / 9) := by unfold tp_mn tp_mx; split <;> split <;> omega
  have b2 : tp_mx (f / 9) (t / 9) ≤ 8 := tp_mx_l (by omega) (by omega)
  have b3 : tp_mn (f % 9) (t % 9) ≤ tp_mx (f % 9) (t % 9) := by unfold tp_mn tp_mx; split <;> split <;> omega
  have b4 : tp_mx (f % 9) (t % 9) ≤ 8 := tp_mx_l (by omega) (by omega)
  refine pk_loop (fun n i (_ : Unit) => wX_reachesInto_21 post (nI s) (nI f) (nI t) (nI (2 * tp_mx (f / 9) (t / 9))) (nI (2 * tp_mx (f % 9) (t % 9))) fl K S M P T U Q n (nI i)) (fun i _ => 2 * tp_mn (f / 9) (t / 9) ≤ i ∧ ∀ a b, a < i → tp_bx f t a b = true → tp_pt (k s) (tp_sl m s) a b = 2) (2 * tp_mx (f / 9) (t / 9) + 1) (2 * tp_mn (f / 9) (t / 9)) () (by omega) ⟨Nat.le_refl _, fun a b ha e => ?_⟩ ?_ ?_
  · rw [tp_bx_t] at e
    omega
  · rintro n _ ⟨_, hI⟩
    refine br_t (nI_lt (by omega) (by omega)) (tp_p0 h ?_)
    rw [← Bool.not_eq_true, hw]
    rintro ⟨i, j, e1, e2⟩
    refine e2 (hI i j ?_ e1)
    rw [tp_bx_t] at e1
    omega
  · rintro n i _ hi ⟨hi0, hI⟩ ih
    refine br_f (nI_nlt (by omega) (by omega)) ?_
    refine tx_lowJ hf ht ?_
    refine pk_loop (fun n j (_ : Unit) => wX_reachesInto_35 post _ (nI s) (nI f) (nI t) (nI (2 * tp_mx (f / 9) (t / 9))) (nI (2 * tp_mx (f % 9) (t % 9))) (nI i) fl K S M P T U Q n (nI j)) (fun j _ => 2 * tp_mn (f % 9) (t % 9) ≤ j ∧ ∀ b, b < j → tp_bx f t i b = true → tp_pt (k s) (tp_sl m s) i b = 2) (2 * tp_mx (f % 9) (t % 9) + 1) (2 * tp_mn (f % 9) (t % 9)) () (by omega) ⟨Nat.le_refl _, fun b hb e => ?_⟩ ?_ ?_
    · rw [tp_bx_t] at e
      omega
    · rintro n _ ⟨_, hJ⟩
      refine br_t (nI_lt (by omega) (by omega)) (nm_r (nI_1 i) (ih () ⟨by omega, fun a b ha e => ?_⟩))
      by_cases z : a = i
      · subst z
        refine hJ b ?_ e
        rw [tp_bx_t] at e
        omega
      · exact hI a b (by omega) e
    · rintro n j _ hj ⟨hj0, hJ⟩ ih2
      refine br_f (nI_nlt (by omega) (by omega)) ?_
      refine tx_inb hC hs (by omega) (by omega) ?_
      refine tp_br (fun e => nm_r (nI_1 j) (ih2 () ⟨by omega, fun b hb e2 => ?_⟩)) (fun e => tp_p1 h ?_)
      · by_cases z : b = j
        · subst z
          exact Decidable.not_not.mp (of_decide_eq_false e)
        · exact hJ b (by omega) e2
      · rw [hw]
        refine ⟨i, j, ?_, of_decide_eq_true e⟩
        rw [tp_bx_t]
        omega
def tp_wk2 (k : Nat → Nat) (m : Nat → Bool) (f t s : Nat) : Bool := decide (k s ≠ 0) && tp_wd k m f t s
theorem tp_sub0 (a b : Int32) : a - b = 0 ↔ b = a := by
  constructor
  · intro h
    have h2 : a - b + b = 0 + b := by rw [h]
    rw [Int32.sub_add_cancel, Int32.zero_add] at h2
    exact h2.symm
  · intro h
    rw [h]
    exact Int32.sub_self _
theorem tp_subs (a : Int32) (c : Nat) : a - nI c + (-1) = a - nI (c + 1) := by
  rw [← nI_1]
  generalize nI c = b
  grind
theorem tx_inw23 {post : Int32 → Prop} {fl : Int32} {K S M P T U Q : Nat → Int32} {k : Nat → Nat} {m : Nat → Bool} (hK : ∀ x, K x = nI (k x)) (hC : tp_Cr k m S P) {f t : Nat} (hf : f < 81) (ht : t < 81) (v3 : Int32) (h : post (tp_iw (tp_wk2 k m f t) v3 12 0 0)) : ∃ n, wX_inWindow_23 post (nI f) (nI t) v3 fl K S M P T U Q n 0 0 := by
  refine loop_0 (fun n s (c : Nat) => wX_inWindow_23 post (nI f) (nI t) v3 fl K S M P T U Q n (nI c) (nI s)) (fun s c => post (tp_iw (tp_wk2 k m f t) v3 (12 - s) s c)) 12 0 h ?_ ?_
  · intro n c hc
    exact br_t (tp_rfl 12) hc
  · intro n s c hs hc ih
    have h3 := (hC.1 s hs).1
    rw [show 12 - s = (12 - (s + 1)) + 1 from by omega, tp_iw] at hc
    refine br_f (nI_ge (b := 12) hs (by decide)) ⟨tp_in12 hs, ?_⟩
    rw [nI_clamp (by omega), hK s]
    have no : tp_wk2 k m f t s = false → post (tp_iw (tp_wk2 k m f t) v3 (12 - (s + 1)) (s + 1) c) := by
      intro e
      rw [e] at hc
      exact hc
    refine pk_eq (k s) 0 (fun e => nm_r (nI_1 s) (ih c (no ?_))) (fun e => ?_)
    · unfold tp_wk2
      rw [decide_eq_false (fun z => z e), Bool.false_and]
    · refine tx_rin hC hs hf ht ?_
      refine tp_br (fun e1 => nm_r (nI_1 s) (ih c (no ?_))) (fun e1 => ?_)
      · unfold tp_wk2
        rw [e1, Bool.and_false]
      · have e2 : tp_wk2 k m f t s = true := by
          unfold tp_wk2
          rw [e1, decide_eq_true e]
          rfl
        rw [if_pos e2] at hc
        refine br_c (fun z => ?_) (fun z => nm_r (nI_1 c) (nm_r (nI_1 s) (ih (c + 1) ?_)))
        · rw [if_pos z] at hc
          exact hc
        · rw [if_neg z] at hc
          exact hc
theorem ty_inw25 {post : Int32 → Prop} {K M H A B p q : Nat → Int32} {k : Nat → Nat} {m : Nat → Bool} (hK : ∀ x, K x = nI (k x)) (hM : ∀ x, M x = tp_b (m x)) (hO : ∀ s, s < 12 → tp_Ok (k s) (tp_sl m s)) {f t : Nat} (hf : f < 81) (ht : t < 81) (v3 : Int32) (h : post (tp_iw (tp_wk2 k m f t) v3 12 0 0)) : ∃ n, wY_inWindow_25 post (nI f) (nI t) K M H A B p q n v3 0 := by
  have key : ∃ n, wY_inWindow_25 post (nI f) (nI t) K M H A B p q n (v3 - nI 0) 0 := by
    refine loop_0 (fun n s (c : Nat) => wY_inWindow_25 post (nI f) (nI t) K M H A B p q n (v3 - nI c) (nI s)) (fun s c => post (tp_iw (tp_wk2 k m f t) v3 (12 - s) s c)) 12 0 h ?_ ?_
    · intro n c hc
      exact br_t (tp_rfl 12) hc
    · intro n s c hs hc ih
      have h3 := (hO s hs).1
      rw [show 12 - s = (12 - (s + 1)) + 1 from by omega, tp_iw] at hc
      refine br_f (nI_ge (b := 12) hs (by decide)) ⟨tp_in12 hs, ?_⟩
      rw [nI_clamp (by omega), hK s]
      have no : tp_wk2 k m f t s = false → post (tp_iw (tp_wk2 k m f t) v3 (12 - (s + 1)) (s + 1) c) := by
        intro e
        rw [e] at hc
        exact hc
      refine pk_le (k s) 0 (fun e => nm_r (nI_1 s) (ih c (no ?_))) (fun e => ?_)
      · unfold tp_wk2
        rw [decide_eq_false (fun z => z (by omega)), Bool.false_and]
      · refine ty_inw hK hM hs h3 hf ht ?_
        refine tp_br (fun e1 => nm_r (nI_1 s) (ih c (no ?_))) (fun e1 => ?_)
        · unfold tp_wk2
          rw [e1, Bool.and_false]
        · have e2 : tp_wk2 k m f t s = true := by
            unfold tp_wk2
            rw [e1, decide_eq_true (by omega)]
            rfl
          rw [if_pos e2] at hc
          refine br_c (fun z => ?_) (fun z => nm_r (tp_subs v3 c) (nm_r (nI_1 s) (ih (c + 1) ?_)))
          · rw [if_pos ((tp_sub0 _ _).mp z)] at hc
            exact hc
          · rw [if_neg (fun y => z ((tp_sub0 _ _).mpr y))] at hc
            exact hc
  rw [show v3 - nI 0 = v3 from Int32.sub_zero _] at key
  exact key
theorem i_vc_inWindow {k : Nat} {u : SX} {v : SY} (I : i_Rel k u v) (hk : k + 4 ≤ 2048) (v1 : Int32) (v2 : Int32) (v3 : Int32) : wpX_inWindow (fun r => wpY_inWindow (fun r' => r' = r ∧ i_Rel (k + 4) u v) v v1 v2 v3) u v1 v2 v3 := by
  have R : i_Rel (k + 4) u v := I
  obtain ⟨kk, mm, hX, hY⟩ := I
  obtain ⟨f, K, S, M, P, T, U, Q⟩ := u
  obtain ⟨K2, M2, H, A, B, p, q⟩ := v
  obtain ⟨hK, hM, hC⟩ := hX
  obtain ⟨hK2, hM2⟩ := hY
  unfold wpX_inWindow wpY_inWindow
  dsimp only
  rcases tp_rg v1 81 (by decide) with ⟨a, ha, rfl⟩ | hx
  · refine tx_vert_y ha (br_f (by decide) ?_)
    rcases tp_rg v2 81 (by decide) with ⟨b, hb, rfl⟩ | hy
    · refine tx_vert_y hb (br_f (by decide) ?_)
      refine tx_inw23 hK hC ha hb v3 ?_
      refine ty_vert_y ha (br_f (by decide) ?_)
      refine ty_vert_y hb (br_f (by decide) ?_)
      exact ty_inw25 hK2 hM2 hC.1 ha hb v3 ⟨rfl, R⟩
    · refine tx_vert_n hy (br_t rfl ?_)
      exact ty_vert_y ha (br_f (by decide) (ty_vert_n hy (br_t rfl ⟨rfl, R⟩)))
  · exact tx_vert_n hx (br_t rfl (ty_vert_n hx (br_t rfl ⟨rfl, R⟩)))
end
section
theorem tx_prep {post : SX → Prop} {f : Int32} {K S M P T U Q : Nat → Int32} {k : Nat → Nat} {m : Nat → Bool} (hC : tp_Cr k m S P) {s a b : Nat} (hs : s < 12) (ha : a ≤ 2) (hb : b ≤ 2) (h : ∀ U', (∀ c, c < 289 → U' c = tp_b (decide (a ≤ tp_ps k m s c ∧ tp_ps k m s c ≤ b))) → post (f, K, S, M, P, T, U', Q)) : wpX_prepareWalk post (f, K, S, M, P, T, U, Q) (nI s) (nI a) (nI b) := by
  refine loop_0 (fun n c U => wX_prepareWalk_3 post (nI s) (nI a) (nI b) f n (nI c) K S M P T U Q) (fun c U => ∀ x, x < c → U x = tp_b (decide (a ≤ tp_ps k m s x ∧ tp_ps k m s x ≤ b))) 289 U (fun x hx => absurd hx (by omega)) ?_ ?_
  · intro n U' hU
    exact br_t (tp_rfl 289) (h U' hU)
  · intro n c U' hc hU ih
    refine br_f (nI_ge (b := 289) hc (by decide)) ?_
    have st : ∀ z, decide (a ≤ tp_ps k m s c ∧ tp_ps k m s c ≤ b) = z → ∀ x, x < c + 1 → upd U' c (tp_b z) x = tp_b (decide (a ≤ tp_ps k m s x ∧ tp_ps k m s x ≤ b)) := by
      intro z hz x hx
      by_cases e : x = c
      · subst e
        rw [pk_us, hz]
      · rw [pk_un e]
        exact hU x (by omega)
    have hl := tp_ps_2 k m s c
    have e1 : P (289 * s + c) = nI (tp_ps k m s c) := hC.2.2 s hs c hc
    have hin : vp_in (nI c) 289 := vp_in_nI hc (by decide)
    rw [tp_ix1, nI_clamp (by omega), nI_clamp (by omega), tp_nar0, tp_nar1]
    refine ⟨vp_in_nI (by omega) (by decide), nm_r e1 (pk_lt (tp_ps k m s c) a (fun e => ⟨hin, nm_e (nm_r (nI_1 c) (ih _ (st false (decide_eq_false (by omega)))))⟩) (fun e => pk_lt b (tp_ps k m s c) (fun e2 => ⟨hin, nm_e (nm_r (nI_1 c) (ih _ (st false (decide_eq_false (by omega)))))⟩) (fun e2 => ⟨hin, nm_e (nm_r (nI_1 c) (ih _ (st true (decide_eq_true ⟨e, e2⟩))))⟩)))⟩
/-- the component's walk: the arrays hold the unvisited set and the queue -/
def tp_AX (u : Nat → Bool) (q : Nat → Nat) (L : Nat) (U Q : Nat → Int32) : Prop := (∀ c, c < 289 → U c = tp_b (u c)) ∧ (∀ p, p < L → Q p = nI (q p))
theorem tp_AX_s {u : Nat → Bool} {q : Nat → Nat} {L : Nat} {U Q : Nat → Int32} (h : tp_AX u q L U Q) (b : Nat) : tp_AX (tp_u u b false) (tp_v q L b) (L + 1) (upd U b (tp_b false)) (upd Q L (nI b)) := by
  refine ⟨fun c hc => ?_, fun p hp => ?_⟩
  · by_cases e : c = b
    · subst e
      rw [pk_us, tp_u_s]
    · rw [pk_un e, tp_u_n e]
      exact h.1 c hc
  · by_cases e : p = L
    · subst e
      rw [pk_us, tp_v_s]
    · rw [pk_un e, tp_v_n e]
      exact h.2 p (by omega)
theorem tx_visit {post : SX → Prop} {K S M P T U Q : Nat → Int32} {u : Nat → Bool} {q : Nat → Nat} {L : Nat} (hA : tp_AX u q L U Q) (hL : L ≤ 289) {x y : Int32} (h0 : ¬ (0 ≤ x.toInt ∧ x.toInt ≤ 16 ∧ 0 ≤ y.toInt ∧ y.toInt ≤ 16) → post (nI L, K, S, M, P, T, U, Q))
    (h1 : ∀ i j : Nat, i ≤ 16 → j ≤ 16 → x.toInt = i → y.toInt = j → u (17 * i + j) = false → post (nI L, K, S, M, P, T, U, Q))
    (h2 : ∀ i j : Nat, i ≤ 16 → j ≤ 16 → x.toInt = i → y.toInt = j → u (17 * i + j) = true → L < 289 ∧ post (nI (L + 1), K, S, M, P, T, upd U (17 * i + j) (tp_b false), upd Q L (nI (17 * i + j)))) : wpX_visit post (nI L, K, S, M, P, T, U, Q) x y := by
  unfold wpX_visit
  dsimp only
  refine tx_grid ?_
  refine tp_br (fun g => h0 (tp_g_f.mp g)) (fun g => ?_)
  have g := tp_g_t.mp g
  obtain ⟨i, hi, rfl⟩ := tp_nat (n := 16) g.1 (by omega)
  obtain ⟨j, hj, rfl⟩ := tp_nat (n := 16) g.2.2.1 (by omega)
  have hin : vp_in (nI (17 * i + j)) 289 := vp_in_nI (by omega) (by decide)
  rw [tp_i17, nI_clamp (n := 17 * i + j) (by omega), hA.1 _ (by omega), tp_nar0, nI_clamp (n := L) (by omega)]
  refine ⟨hin, tp_br (fun e => h1 i j hi hj (tp_0i (by omega)) (tp_0i (by omega)) e) (fun e => ?_)⟩
  have hh := h2 i j hi hj (tp_0i (by omega)) (tp_0i (by omega)) e
  exact br_f (nI_ge (b := 289) hh.1 (by decide)) ⟨hin, nm_e ⟨vp_in_nI hh.1 (by decide), nm_e (nm_r (nI_1 L) hh.2)⟩⟩
/-- a visit of neighbour d -/
theorem tx_vs {post : SX → Prop} {K S M P T U Q : Nat → Int32} {H : Nat → Bool} {s n a d : Nat} {D D' : Nat → Prop} {u : Nat → Bool} {q : Nat → Nat} {L : Nat} (hS : tp_S H s n a D u q L) (hA : tp_AX u q L U Q) {x y : Int32} (hd : ∀ b, b < 289 → (tp_nd a d b ↔ ((b / 17 : Nat) : Int) = x.toInt ∧ ((b % 17 : Nat) : Int) = y.toInt)) (e : ∀ x, D' x → D x ∨ x = d)
    (h : ∀ u q L U Q, tp_S H s n a D' u q L → tp_AX u q L U Q → post (nI L, K, S, M, P, T, U, Q)) : wpX_visit post (nI L, K, S, M, P, T, U, Q) x y := by
  have hL := tp_Q_l hS.1
  refine tx_visit hA hL (fun g => ?_) (fun i j hi hj ex ey eu => ?_) (fun i j hi hj ex ey eu => ?_)
  · refine h _ _ _ _ _ (tp_S_n hS (fun b hb hn => absurd ?_ g) e) hA
    have := (hd b hb).mp hn
    omega
  · refine h _ _ _ _ _ (tp_S_n hS (fun b hb hn => ?_) e) hA
    have := (hd b hb).mp hn
    rw [show b = 17 * i + j from by omega]
    exact eu
  · have hn : tp_nd a d (17 * i + j) := (hd _ (by omega)).mpr ⟨by omega, by omega⟩
    exact ⟨tp_Q_lt hS.1 (by omega) eu, h _ _ _ _ _ (tp_S_y hS (by omega) hn eu e) (tp_AX_s hA _)⟩
theorem tx_walk19 {post : SX → Prop} {K S M P T U Q : Nat → Int32} {H : Nat → Bool} {s : Nat} {u : Nat → Bool} {q : Nat → Nat} {L : Nat} (hQ : tp_Q H s u q L) (hs : ∃ p, p < L ∧ q p = s) (hA : tp_AX u q L U Q)
    (h : ∀ u q L U Q, tp_Q H s u q L → tp_C u q L → (∃ p, p < L ∧ q p = s) → tp_AX u q L U Q → post (nI L, K, S, M, P, T, U, Q)) : ∃ n, wX_walkPiece_19 post n 0 (nI L) K S M P T U Q := by
  refine loop_0 (fun n i (z : Nat × (Nat → Int32) × (Nat → Int32)) => wX_walkPiece_19 post n (nI i) (nI z.1) K S M P T z.2.1 z.2.2) (fun i z => ∃ u q, tp_Q H s u q z.1 ∧ tp_C u q i ∧ i ≤ z.1 ∧ (∃ p, p < z.1 ∧ q p = s) ∧ tp_AX u q z.1 z.2.1 z.2.2) 289 (L, U, Q) ⟨u, q, hQ, tp_C_0 u q, by omega, hs, hA⟩ ?_ ?_
  · rintro n ⟨L, U, Q⟩ ⟨u, q, hQ, hc, hi, hs, hA⟩
    have hL := tp_Q_l hQ
    have e : L = 289 := by
      have : 289 ≤ L := hi
      have : L ≤ 289 := hL
      omega
    subst e
    exact br_t (tp_rfl 289) (h u q _ _ _ hQ hc hs hA)
  · rintro n i ⟨L, U, Q⟩ hi ⟨u, q, hQ, hc, hiL, hs, hA⟩ ih
    have hL : L ≤ 289 := tp_Q_l hQ
    have hiL : i ≤ L := hiL
    refine br_f (nI_ge (b := 289) hi (by decide)) ?_
    dsimp only
    by_cases e : L ≤ i
    · have e : L = i := by omega
      subst e
      exact br_t (tp_rfl L) (h u q _ _ _ hQ hc hs hA)
    · have hlt : i < L := by omega
      refine br_f (nI_ge hlt (by omega)) ?_
      have hin : vp_in (nI i) 289 := vp_in_nI hi (by decide)
      have ha := (hQ.1 i hlt).1
      have eq : Q (nI i).toNatClampNeg = nI (q i) := by
        rw [nI_clamp (by omega)]
        exact hA.2 i hlt
      refine ⟨hin, tp_17, nm_r (e' := nI (q i / 17)) (by rw [eq]; exact tp_d17 (by omega)) ⟨hin, tp_17, nm_r (e' := nI (q i % 17)) (by rw [eq]; exact tp_r17 (by omega)) ?_⟩⟩
      have hS := tp_S_0 hQ hc hlt hs
      generalize hqa : q i = a at hS ha ⊢
      have m1 := @tp_m1 (a / 17) (by omega)
      have m2 := @tp_m1 (a % 17) (by omega)
      have p1 := @tp_q1 (a / 17) (by omega)
      have p2 := @tp_q1 (a % 17) (by omega)
      have z1 := @tp_0i (a / 17) (by omega)
      have z2 := @tp_0i (a % 17) (by omega)
      refine tx_vs (d := 1) (D' := fun d => d = 1) hS hA (fun b hb => ?_) (fun x hx => Or.inr hx) (fun u q L U Q hS hA => ?_)
      · rw [m1, z2]
        unfold tp_nd
        omega
      dsimp only
      refine tx_vs (d := 0) (D' := fun d => d = 1 ∨ d = 0) hS hA (fun b hb => ?_) (fun x hx => hx) (fun u q L U Q hS hA => ?_)
      · rw [p1, z2]
        unfold tp_nd
        omega
      dsimp only
      refine tx_vs (d := 3) (D' := fun d => (d = 1 ∨ d = 0) ∨ d = 3) hS hA (fun b hb => ?_) (fun x hx => hx) (fun u q L U Q hS hA => ?_)
      · rw [m2, z1]
        unfold tp_nd
        omega
      dsimp only
      refine tx_vs (d := 2) (D' := fun d => ((d = 1 ∨ d = 0) ∨ d = 3) ∨ d = 2) hS hA (fun b hb => ?_) (fun x hx => hx) (fun u q L U Q hS hA => ?_)
      · rw [p2, z1]
        unfold tp_nd
        omega
      dsimp only
      refine nm_r (nI_1 i) (ih (L, U, Q) ⟨u, q, hS.1, tp_S_e hS (fun d hd => by omega), ?_, hS.2.2.2.2.1, hA⟩)
      have := hS.2.2.1
      show i + 1 ≤ L
      omega
/-- the walk from an unvisited element -/
theorem tx_walk {post : SX → Prop} {f : Int32} {K S M P T U Q : Nat → Int32} {H : Nat → Bool} {s : Nat} (hU : ∀ c, c < 289 → U c = tp_b (H c)) (hs : s < 289) (hH : H s = true)
    (h : ∀ u q L U Q, tp_Q H s u q L → tp_C u q L → (∃ p, p < L ∧ q p = s) → tp_AX u q L U Q → post (nI L, K, S, M, P, T, U, Q)) : wpX_walkPiece post (f, K, S, M, P, T, U, Q) (nI s) := by
  unfold wpX_walkPiece
  dsimp only
  rw [tp_r17 (by omega), tp_d17 (by omega)]
  refine ⟨tp_17, tp_17, ?_⟩
  have hA : tp_AX H (fun _ => 0) 0 U Q := ⟨hU, fun p hp => absurd hp (by omega)⟩
  have z1 := @tp_0i (s / 17) (by omega)
  have z2 := @tp_0i (s % 17) (by omega)
  have es : 17 * (s / 17) + s % 17 = s := by omega
  refine tx_visit (L := 0) hA (by omega) (fun g => absurd ?_ g) (fun i j hi hj ex ey eu => ?_) (fun i j hi hj ex ey eu => ⟨by omega, ?_⟩)
  · rw [z1, z2]
    omega
  · rw [z1] at ex
    rw [z2] at ey
    rw [show 17 * i + j = s from by omega, hH] at eu
    exact nomatch eu
  · rw [z1] at ex
    rw [z2] at ey
    rw [show 17 * i + j = s from by omega]
    exact tx_walk19 (tp_Q_1 (fun _ => 0) hs hH) (tp_Q_1s (fun _ => 0) s) (tp_AX_s hA s) h
theorem tx_brd {post : Int32 → Prop} {K S M P T U Q : Nat → Int32} {q : Nat → Nat} {L : Nat} (hL : L ≤ 289) (hQ : ∀ p, p < L → Q p = nI (q p)) (hq : ∀ p, p < L → q p < 289) (h1 : (∃ p, p < L ∧ tp_bd (q p) = true) → post 1) (h0 : (¬ ∃ p, p < L ∧ tp_bd (q p) = true) → post 0) : wpX_pieceReachesBorder post (nI L, K, S, M, P, T, U, Q) := by
  refine loop_0 (fun n i (_ : Unit) => wX_pieceReachesBorder_2 post (nI L) K S M P T U Q n (nI i)) (fun i _ => i ≤ L ∧ ∀ p, p < i → ¬ tp_bd (q p) = true) 289 () ⟨by omega, fun p hp => absurd hp (by omega)⟩ ?_ ?_
  · rintro n _ ⟨hi, hn⟩
    exact br_t (tp_rfl 289) (h0 (fun ⟨p, hp, e⟩ => hn p (by omega) e))
  · rintro n i _ hi ⟨hiL, hn⟩ ih
    refine br_f (nI_ge (b := 289) hi (by decide)) ?_
    by_cases e : L ≤ i
    · exact br_t (nI_le e (by omega)) (h0 (fun ⟨p, hp, e⟩ => hn p (by omega) e))
    · have hlt : i < L := by omega
      refine br_f (nI_ge hlt (by omega)) ?_
      have hin : vp_in (nI i) 289 := vp_in_nI hi (by decide)
      have ha := hq i hlt
      have eq : Q (nI i).toNatClampNeg = nI (q i) := by
        rw [nI_clamp (by omega)]
        exact hQ i hlt
      refine ⟨hin, tp_17, nm_r (e' := nI (q i / 17)) (by rw [eq]; exact tp_d17 (by omega)) ⟨hin, tp_17, nm_r (e' := nI (q i % 17)) (by rw [eq]; exact tp_r17 (by omega)) ?_⟩⟩
      have yes : (q i / 17 = 0 ∨ q i / 17 = 16 ∨ q i % 17 = 0 ∨ q i % 17 = 16) → post 1 := fun z => h1 ⟨i, hlt, decide_eq_true z⟩
      refine pk_eq (q i / 17) 0 (fun e1 => yes (Or.inl e1)) (fun e1 => pk_eq (q i / 17) 16 (fun e2 => yes (Or.inr (Or.inl e2))) (fun e2 => pk_eq (q i % 17) 0 (fun e3 => yes (Or.inr (Or.inr (Or.inl e3)))) (fun e3 => pk_eq (q i % 17) 16 (fun e4 => yes (Or.inr (Or.inr (Or.inr e4)))) (fun e4 => nm_r (nI_1 i) (ih () ⟨by omega, fun p hp z => ?_⟩)))))
      by_cases ep : p = i
      · subst ep
        have := of_decide_eq_true z
        omega
      · exact hn p (by omega) z
theorem tx_add {post : SX → Prop} {K S M P T U Q : Nat → Int32} {m : Nat → Bool} (hM : ∀ x, M x = tp_b (m x)) {s : Nat} (hs : s < 12) {q : Nat → Nat} {L : Nat} (hL : L ≤ 289) (hQ : ∀ p, p < L → Q p = nI (q p)) (hq : ∀ p, p < L → q p < 289) (h : ∀ (M' : Nat → Int32) (m' : Nat → Bool), (∀ x, M' x = tp_b (m' x)) → (∀ x, m' x = true ↔ m x = true ∨ ∃ p, p < L ∧ x = 289 * s + q p ∧ tp_dm (q p) = 2) → post (nI L, K, S, M', P, T, U, Q)) : wpX_addCellsOfPiece post (nI L, K, S, M, P, T, U, Q) (nI s) := by
  refine loop_0 (fun n i M => wX_addCellsOfPiece_2 post (nI s) (nI L) n (nI i) K S M P T U Q) (fun i M' => i ≤ L ∧ ∃ m', (∀ x, M' x = tp_b (m' x)) ∧ (∀ x, m' x = true ↔ m x = true ∨ ∃ p, p < i ∧ x = 289 * s + q p ∧ tp_dm (q p) = 2)) 289 M ⟨by omega, m, hM, fun x => ⟨Or.inl, fun z => z.elim id (fun ⟨p, hp, _⟩ => absurd hp (by omega))⟩⟩ ?_ ?_
  · rintro n M' ⟨hi, m', h1, h2⟩
    have e : L = 289 := by omega
    subst e
    exact br_t (tp_rfl 289) (h M' m' h1 h2)
  · rintro n i M' hi ⟨hiL, m', h1, h2⟩ ih
    refine br_f (nI_ge (b := 289) hi (by decide)) ?_
    by_cases e : L ≤ i
    · have e : L = i := by omega
      subst e
      exact br_t (tp_rfl L) (h M' m' h1 h2)
    · have hlt : i < L := by omega
      refine br_f (nI_ge hlt (by omega)) ?_
      have hin : vp_in (nI i) 289 := vp_in_nI hi (by decide)
      have ha := hq i hlt
      rw [nI_clamp (n := i) (by omega), hQ i hlt, tp_r17 (by omega), tp_d17 (by omega), tp_ix1, nI_clamp (by omega), tp_nar1]
      refine ⟨hin, tp_17, hin, tp_17, tx_dim (by omega) (by omega) ?_⟩
      refine pk_eq (q i / 17 % 2 + q i % 17 % 2) 2 (fun e2 => ⟨hin, vp_in_nI (by omega) (by decide), nm_e (nm_r (nI_1 i) (ih _ ⟨by omega, tp_u m' (289 * s + q i) true, tp_uM h1 _ _, fun x => ?_⟩))⟩) (fun e2 => nm_r (nI_1 i) (ih _ ⟨by omega, m', h1, fun x => ?_⟩))
      · by_cases ex : x = 289 * s + q i
        · rw [ex, tp_u_s]
          exact ⟨fun _ => Or.inr ⟨i, by omega, rfl, e2⟩, fun _ => rfl⟩
        · rw [tp_u_n ex, h2]
          constructor
          · rintro (z | ⟨p, hp, z⟩)
            · exact Or.inl z
            · exact Or.inr ⟨p, by omega, z⟩
          · rintro (z | ⟨p, hp, z⟩)
            · exact Or.inl z
            · refine Or.inr ⟨p, ?_, z⟩
              by_cases ep : p = i
              · subst ep
                exact absurd z.1 ex
              · omega
      · rw [h2]
        constructor
        · rintro (z | ⟨p, hp, z⟩)
          · exact Or.inl z
          · exact Or.inr ⟨p, by omega, z⟩
        · rintro (z | ⟨p, hp, z⟩)
          · exact Or.inl z
          · refine Or.inr ⟨p, ?_, z⟩
            by_cases ep : p = i
            · subst ep
              exact absurd z.2 e2
            · omega
end
section
section
variable {K M H A B p q : Nat → Int32}
theorem ty_st47 {post : Int32 → Prop} {x3 z0 z1 : Int32} {i j : Int} (hx : x3.toInt = i) (hy : (z1 + z0).toInt = j) (h1 : ∀ a b : Nat, a ≤ 16 → b ≤ 16 → (a : Int) = i → (b : Int) = j → post (nI (17 * a + b))) (h0 : ¬ (0 ≤ i ∧ i ≤ 16 ∧ 0 ≤ j ∧ j ≤ 16) → post (-1)) : wY_step_47 post x3 z0 z1 K M H A B p q := by
  unfold wY_step_47
  refine nm_e ?_
  generalize hz : z1 + z0 = y at hy ⊢
  have a1 := @tp_lt0 x3
  have a2 := @tp_ltL x3 16 (by decide)
  have a3 := @tp_lt0 y
  have a4 := @tp_leR y 16 (by decide)
  rw [hx] at a1 a2
  rw [hy] at a3 a4
  refine br_c (fun a => h0 ?_) (fun a => br_c (fun b => h0 ?_) (fun b => br_c (fun c => h0 ?_) (fun c => br_c (fun d => ?_) (fun d => h0 ?_))))
  · have := a1.mp a
    omega
  · have := a2.mp b
    omega
  · have := a3.mp c
    omega
  · have b1 : ¬ i < 0 := fun z => a (a1.mpr z)
    have b2 : ¬ ((16 : Nat) : Int) < i := fun z => b (a2.mpr z)
    have b3 : ¬ j < 0 := fun z => c (a3.mpr z)
    have b4 := a4.mp d
    obtain ⟨i', hi, rfl⟩ := tp_nat (x := x3) (n := 16) (by omega) (by omega)
    obtain ⟨j', hj, rfl⟩ := tp_nat (x := y) (n := 16) (by omega) (by omega)
    rw [tp_0i (by omega)] at hx hy
    rw [tp_j17]
    exact h1 i' j' hi hj hx hy
  · have : ¬ j ≤ ((16 : Nat) : Int) := fun z => d (a4.mpr z)
    omega
theorem tp_am1 {a : Nat} (h : a < 2 ^ 30) : (nI a + (-1)).toInt = (a : Int) - 1 := by
  rw [show nI a + (-1) = nI a - 1 from by grind]
  exact tp_m1 h
theorem tp_a0 {a : Nat} (h : a < 2 ^ 30) : (nI a + 0).toInt = (a : Int) := by
  rw [Int32.add_zero]
  exact tp_0i h
theorem ty_step {post : Int32 → Prop} {a d : Nat} (ha : a < 289) (hd : d < 4) (h1 : ∀ b, b < 289 → tp_nd a d b → post (nI b)) (h0 : (∀ b, b < 289 → ¬ tp_nd a d b) → post (-1)) : wpY_step post (K, M, H, A, B, p, q) (nI a) (nI d) := by
  unfold wpY_step
  dsimp only
  rw [tp_d17 (by omega)]
  refine ⟨tp_17, ?_⟩
  have m1 := @tp_am1 (a / 17) (by omega)
  have m2 := @tp_am1 (a % 17) (by omega)
  have p1 := @tp_q1 (a / 17) (by omega)
  have p2 := @tp_q1 (a % 17) (by omega)
  have z1 := @tp_a0 (a / 17) (by omega)
  have z2 := @tp_a0 (a % 17) (by omega)
  have hd' : d = 0 ∨ d = 1 ∨ d = 2 ∨ d = 3 := by omega
  rcases hd' with rfl | rfl | rfl | rfl
  · refine br_t rfl ?_
    unfold wY_step_22
    rw [tp_r17 (by omega)]
    refine nm_e ⟨tp_17, br_f (by decide) (br_f (by decide) ?_)⟩
    refine ty_st47 p1 z2 (fun x y hx hy e1 e2 => h1 _ (by omega) ?_) (fun g => h0 (fun b hb z => g ?_))
    · unfold tp_nd
      omega
    · unfold tp_nd at z
      omega
  · refine br_f (by decide) (br_t rfl ?_)
    unfold wY_step_22
    rw [tp_r17 (by omega)]
    refine nm_e ⟨tp_17, br_f (by decide) (br_f (by decide) ?_)⟩
    refine ty_st47 m1 z2 (fun x y hx hy e1 e2 => h1 _ (by omega) ?_) (fun g => h0 (fun b hb z => g ?_))
    · unfold tp_nd
      omega
    · unfold tp_nd at z
      omega
  · refine br_f (by decide) (br_f (by decide) ?_)
    unfold wY_step_22
    rw [tp_r17 (by omega)]
    refine nm_e ⟨tp_17, br_t rfl ?_⟩
    refine ty_st47 z1 p2 (fun x y hx hy e1 e2 => h1 _ (by omega) ?_) (fun g => h0 (fun b hb z => g ?_))
    · unfold tp_nd
      omega
    · unfold tp_nd at z
      omega
  · refine br_f (by decide) (br_f (by decide) ?_)
    unfold wY_step_22
    rw [tp_r17 (by omega)]
    refine nm_e ⟨tp_17, br_f (by decide) (br_t rfl ?_)⟩
    refine ty_st47 z1 m2 (fun x y hx hy e1 e2 => h1 _ (by omega) ?_) (fun g => h0 (fun b hb z => g ?_))
    · unfold tp_nd
      omega
    · unfold tp_nd at z
      omega
end
/-- the reference's walk: labels l1 over l, label w, the queue -/
def tp_AY (l l1 : Nat → Nat) (w : Nat) (Qq : Nat → Nat) (L : Nat) (p q : Nat → Int32) : Prop := (∀ c, c < 289 → p c = nI (l1 c)) ∧ (∀ x, x < L → q x = nI (Qq x)) ∧ (∀ c, (∃ x, x < L ∧ Qq x = c) → l1 c = w) ∧ (∀ c, (¬ ∃ x, x < L ∧ Qq x = c) → l1 c = l c)
def tp_hu (h : Nat → Bool) (l : Nat → Nat) : Nat → Bool := fun c => h c && (l c == 0)
theorem tp_hu_t {h : Nat → Bool} {l : Nat → Nat} {c : Nat} : tp_hu h l c = true ↔ h c = true ∧ l c = 0 := by
  unfold tp_hu
  rw [Bool.and_eq_true, beq_iff_eq]
theorem tp_hu_u (h : Nat → Bool) (l : Nat → Nat) (b w : Nat) (hw : w ≠ 0) : tp_hu h (tp_v l b w) = tp_u (tp_hu h l) b false := by
  funext c
  by_cases e : c = b
  · subst e
    rw [tp_u_s]
    cases z : tp_hu h (tp_v l c w) c with
    | false => rfl
    | true =>
      have := (tp_hu_t.mp z).2
      rw [tp_v_s] at this
      exact absurd this hw
  · rw [tp_u_n e]
    unfold tp_hu
    rw [tp_v_n e]
theorem tp_AY_s {l l1 : Nat → Nat} {w : Nat} {Qq : Nat → Nat} {L : Nat} {p q : Nat → Int32} (h : tp_AY l l1 w Qq L p q) (b : Nat) : tp_AY l (tp_v l1 b w) w (tp_v Qq L b) (L + 1) (upd p b (nI w)) (upd q L (nI b)) := by
  obtain ⟨h1, h2, h3, h4⟩ := h
  refine ⟨fun c hc => ?_, fun x hx => ?_, ?_, fun c hc => ?_⟩
  · by_cases e : c = b
    · subst e
      rw [pk_us, tp_v_s]
    · rw [pk_un e, tp_v_n e]
      exact h1 c hc
  · by_cases e : x = L
    · subst e
      rw [pk_us, tp_v_s]
    · rw [pk_un e, tp_v_n e]
      exact h2 x (by omega)
  · rintro c ⟨x, hx, e⟩
    by_cases ec : c = b
    · subst ec
      rw [tp_v_s]
    · rw [tp_v_n ec]
      refine h3 c ⟨x, ?_, ?_⟩
      · by_cases ex : x = L
        · subst ex
          rw [tp_v_s] at e
          exact absurd e.symm ec
        · omega
      · by_cases ex : x = L
        · subst ex
          rw [tp_v_s] at e
          exact absurd e.symm ec
        · rw [tp_v_n ex] at e
          exact e
  · have ec : c ≠ b := by
      intro z
      subst z
      exact hc ⟨L, by omega, tp_v_s Qq L c⟩
    rw [tp_v_n ec]
    refine h4 c ?_
    rintro ⟨x, hx, e⟩
    refine hc ⟨x, by omega, ?_⟩
    rw [tp_v_n (by omega)]
    exact e
section
variable {K M H A B p q : Nat → Int32} {h : Nat → Bool} {l : Nat → Nat}
theorem ty_spr28 {post : SY → Prop} {J : Int32 → Int32 → (Nat → Int32) → (Nat → Int32) → (Nat → Int32) → (Nat → Int32) → (Nat → Int32) → (Nat → Int32) → (Nat → Int32) → Prop} (hH : ∀ c, c < 289 → H c = tp_b (h c)) {G : Nat → Bool} {s n w : Nat} (hw0 : w ≠ 0) (hw : w ≤ 289) (hl : ∀ c, l c ≤ 289) {l1 Qq : Nat → Nat} {L : Nat} (hn : n < 289) (hS : tp_S G s n (Qq n) (fun _ => False) (tp_hu h l1) Qq L) (hA : tp_AY l l1 w Qq L p q)
    (hJ : ∀ l1 Qq L p q, tp_Q G s (tp_hu h l1) Qq L → tp_C (tp_hu h l1) Qq (n + 1) → n + 1 ≤ L → (∃ x, x < L ∧ Qq x = s) → tp_AY l l1 w Qq L p q → J (nI L) (nI (n + 1)) K M H A B p q) :
    ∃ z, wY_spread_28 post J (nI w) (nI n) z (nI L) 0 K M H A B p q := by
  generalize ha : Qq n = a at hS
  refine loop_0 (fun z d (y : Nat × (Nat → Int32) × (Nat → Int32)) => wY_spread_28 post J (nI w) (nI n) z (nI y.1) (nI d) K M H A B y.2.1 y.2.2) (fun d y => ∃ l1 Qq, tp_S G s n a (fun x => x < d) (tp_hu h l1) Qq y.1 ∧ tp_AY l l1 w Qq y.1 y.2.1 y.2.2) 4 (L, p, q) ⟨l1, Qq, ?_, hA⟩ ?_ ?_
  · obtain ⟨z1, z2, z3, z4, z5, z6⟩ := hS
    exact ⟨z1, z2, z3, z4, z5, fun d b hd => absurd hd (by omega)⟩
  · rintro z ⟨L, p, q⟩ ⟨l1, Qq, hS, hA⟩
    refine br_t (tp_rfl 4) (nm_r (nI_1 n) (hJ l1 Qq L p q hS.1 (tp_S_e hS (fun d hd => hd)) ?_ hS.2.2.2.2.1 hA))
    have := hS.2.2.1
    exact this
  · rintro z d ⟨L, p, q⟩ hd ⟨l1, Qq, hS, hA⟩ ih
    refine br_f (nI_ge (b := 4) hd (by decide)) ⟨vp_in_nI hn (by decide), ?_⟩
    dsimp only
    have hnL : n < L := hS.2.2.1
    have hqa : Qq n = a := hS.2.2.2.1
    have ha9 : a < 289 := by
      rw [← hqa]
      exact (hS.1.1 n hnL).1
    rw [nI_clamp (n := n) (by omega), show q n = nI (Qq n) from hA.2.1 n hnL, hqa]
    have hl1 : ∀ c, l1 c ≤ 289 := by
      intro c
      by_cases e : ∃ x, x < L ∧ Qq x = c
      · rw [hA.2.2.1 c e]
        exact hw
      · rw [hA.2.2.2 c e]
        exact hl c
    have stay : (∀ b, b < 289 → tp_nd a d b → tp_hu h l1 b = false) → ∃ l1 Qq, tp_S G s n a (fun x => x < d + 1) (tp_hu h l1) Qq L ∧ tp_AY l l1 w Qq L p q := fun hb => ⟨l1, Qq, tp_S_n hS hb (fun x hx => by omega), hA⟩
    refine ty_step ha9 hd (fun b hb hnd => ?_) (fun hno => br_t (by decide) (nm_r (nI_1 d) (ih (L, p, q) (stay (fun b hb z => absurd z (hno b hb))))))
    have hin : vp_in (nI b) 289 := vp_in_nI hb (by decide)
    have hp : p b = nI (l1 b) := hA.1 b hb
    rw [nI_clamp (n := b) (by omega), hH b hb, hp]
    have one : ∀ c, c < 289 → tp_nd a d c → c = b := fun c _ z => tp_nd_u z hnd
    refine br_f (nI_pos (by omega)) ⟨hin, tp_br (fun e => nm_r (nI_1 d) (ih (L, p, q) (stay (fun c hc z => ?_)))) (fun e => ⟨hin, pk_eq (l1 b) 0 (fun e1 => ?_) (fun e1 => nm_r (nI_1 d) (ih (L, p, q) (stay (fun c hc z => ?_)))) rfl rfl (by have := hl1 b; omega) (by decide)⟩)⟩
    · rw [one c hc z]
      unfold tp_hu
      rw [e, Bool.false_and]
    · have hU : tp_hu h l1 b = true := tp_hu_t.mpr ⟨e, e1⟩
      have hL : L < 289 := tp_Q_lt hS.1 hb hU
      refine ⟨hin, nm_e ⟨vp_in_nI hL (by decide), ?_⟩⟩
      rw [nI_clamp (n := L) (by omega)]
      refine nm_e (nm_r (nI_1 L) (nm_r (nI_1 d) (ih (L + 1, _, _) ⟨tp_v l1 b w, tp_v Qq L b, ?_, tp_AY_s hA b⟩)))
      rw [tp_hu_u h l1 b w hw0]
      exact tp_S_y hS hb hnd hU (fun x hx => by omega)
    · rw [one c hc z]
      cases y : tp_hu h l1 b with
      | false => rfl
      | true => exact absurd (tp_hu_t.mp y).2 e1
theorem ty_spr19 {post : SY → Prop} (hH : ∀ c, c < 289 → H c = tp_b (h c)) {G : Nat → Bool} {s w : Nat} (hw0 : w ≠ 0) (hw : w ≤ 289) (hl : ∀ c, l c ≤ 289) {l1 Qq : Nat → Nat} {L : Nat} (hQ : tp_Q G s (tp_hu h l1) Qq L) (hs : ∃ x, x < L ∧ Qq x = s) (hA : tp_AY l l1 w Qq L p q)
    (hp : ∀ l1 Qq L p q, tp_Q G s (tp_hu h l1) Qq L → tp_C (tp_hu h l1) Qq L → (∃ x, x < L ∧ Qq x = s) → tp_AY l l1 w Qq L p q → post (K, M, H, A, B, p, q)) :
    ∃ z, wY_spread_19 post (nI w) z (nI L) 0 K M H A B p q := by
  refine loop_0 (fun z n (y : Nat × (Nat → Int32) × (Nat → Int32)) => wY_spread_19 post (nI w) z (nI y.1) (nI n) K M H A B y.2.1 y.2.2) (fun n y => ∃ l1 Qq, tp_Q G s (tp_hu h l1) Qq y.1 ∧ tp_C (tp_hu h l1) Qq n ∧ n ≤ y.1 ∧ (∃ x, x < y.1 ∧ Qq x = s) ∧ tp_AY l l1 w Qq y.1 y.2.1 y.2.2) 289 (L, p, q) ⟨l1, Qq, hQ, tp_C_0 _ _, by omega, hs, hA⟩ ?_ ?_
  · rintro z ⟨L, p, q⟩ ⟨l1, Qq, hQ, hC, hn, hs, hA⟩
    have e : L = 289 := by
      have h1 : L ≤ 289 := tp_Q_l hQ
      have h2 : 289 ≤ L := hn
      omega
    subst e
    exact br_t (tp_rfl 289) (hp l1 Qq 289 p q hQ hC hs hA)
  · rintro z n ⟨L, p, q⟩ hn ⟨l1, Qq, hQ, hC, hnL, hs, hA⟩ ih
    have hL : L ≤ 289 := tp_Q_l hQ
    have hnL : n ≤ L := hnL
    by_cases e : L ≤ n
    · have e : L = n := by omega
      subst e
      exact br_t (tp_rfl L) (hp l1 Qq L p q hQ hC hs hA)
    · refine br_f (nI_ge (by omega) (by omega)) ?_
      exact ty_spr28 hH hw0 hw hl hn (tp_S_0 hQ hC (by omega) hs) hA (fun l1 Qq L p q a b c d e => ih (L, p, q) ⟨l1, Qq, a, b, c, d, e⟩)
/-- spread: the label over all that is reached -/
theorem ty_spread {post : SY → Prop} (hH : ∀ c, c < 289 → H c = tp_b (h c)) {s w : Nat} (hw0 : w ≠ 0) (hw : w ≤ 289) (hl : ∀ c, l c ≤ 289) (hpl : ∀ c, c < 289 → p c = nI (l c)) (hs : s < 289) (hop : tp_hu h l s = true)
    (hp : ∀ (l1 : Nat → Nat) (p q : Nat → Int32), (∀ c, c < 289 → p c = nI (l1 c)) → (∀ c, tp_rc (tp_hu h l) s c → l1 c = w) → (∀ c, ¬ tp_rc (tp_hu h l) s c → l1 c = l c) → post (K, M, H, A, B, p, q)) : wpY_spread post (K, M, H, A, B, p, q) (nI s) (nI w) := by
  unfold wpY_spread
  dsimp only
  rw [nI_clamp (by omega)]
  refine nm_e ⟨vp_in_nI hs (by decide), nm_e ?_⟩
  have hA0 : tp_AY l l w (fun _ => 0) 0 p q := ⟨hpl, fun x hx => absurd hx (by omega), fun c ⟨x, hx, _⟩ => absurd hx (by omega), fun c _ => rfl⟩
  have hA1 := tp_AY_s hA0 s
  have hQ1 : tp_Q (tp_hu h l) s (tp_hu h (tp_v l s w)) (tp_v (fun _ => 0) 0 s) 1 := by
    rw [tp_hu_u h l s w hw0]
    exact tp_Q_1 (fun _ => 0) hs hop
  refine ty_spr19 (G := tp_hu h l) (L := 1) hH hw0 hw hl hQ1 (tp_Q_1s (fun _ => 0) s) hA1 (fun l1 Qq L p q hQ hC hs hA => ?_)
  have hE := tp_Q_e hQ hC hs
  exact hp l1 p q hA.1 (fun c z => hA.2.2.1 c ((hE c).mpr z)) (fun c z => hA.2.2.2 c (fun y => z ((hE c).mp y)))
theorem ty_fpieces {post : Int32 → SY → Prop} (hH : ∀ c, c < 289 → H c = tp_b (h c)) (hp : ∀ (p q : Nat → Int32), (∀ c, c < 289 → p c = nI ((tp_lb h 289).1 c)) → post (nI (tp_lb h 289).2) (K, M, H, A, B, p, q)) : wpY_findPieces post (K, M, H, A, B, p, q) := by
  refine loop_0 (fun n c p => wY_findPieces_4 post 0 n (nI c) K M H A B p q) (fun c p => ∀ x, x < c → p x = 0) 289 p (fun x hx => absurd hx (by omega)) ?_ ?_
  · intro n p0 hp0
    refine br_t (tp_rfl 289) ?_
    refine loop_0 (fun n c (y : Nat × (Nat → Int32) × (Nat → Int32)) => wY_findPieces_26 post n (nI y.1) (nI c) K M H A B y.2.1 y.2.2) (fun c y => y.1 = (tp_lb h c).2 ∧ ∀ x, x < 289 → y.2.1 x = nI ((tp_lb h c).1 x)) 289 (0, p0, q) ⟨rfl, fun x hx => hp0 x hx⟩ ?_ ?_
    · rintro n ⟨y, p, q⟩ ⟨hy, hp2⟩
      have hy : y = _ := hy
      subst hy
      exact br_t (tp_rfl 289) (hp p q hp2)
    · rintro n c ⟨y, p, q⟩ hc ⟨hy, hp2⟩ ih
      have hy : y = (tp_lb h c).2 := hy
      have hp2 : ∀ x, x < 289 → p x = nI ((tp_lb h c).1 x) := hp2
      refine br_f (nI_ge (b := 289) hc (by decide)) ?_
      dsimp only
      have hin : vp_in (nI c) 289 := vp_in_nI hc (by decide)
      have hn := tp_lb_n9 h c
      have hle : ∀ x, (tp_lb h c).1 x ≤ 289 := by
        intro x
        have := tp_lb_le h c x
        omega
      rw [nI_clamp (by omega), hH c hc, hp2 c hc]
      have no : ¬ tp_op h c c = true → (y = (tp_lb h (c + 1)).2 ∧ ∀ x, x < 289 → p x = nI ((tp_lb h (c + 1)).1 x)) := by
        intro z
        rw [tp_lb_n z]
        exact ⟨hy, hp2⟩
      refine ⟨hin, tp_br (fun e => nm_r (nI_1 c) (ih (y, p, q) (no (fun z => ?_)))) (fun e => ⟨hin, pk_eq ((tp_lb h c).1 c) 0 (fun e1 => ?_) (fun e1 => nm_r (nI_1 c) (ih (y, p, q) (no (fun z => e1 (tp_op_t.mp z).2)))) rfl rfl (by have := hle c; omega) (by decide)⟩)⟩
      · have := (tp_op_t.mp z).1
        rw [e] at this
        exact nomatch this
      · have ht : tp_op h c c = true := tp_op_t.mpr ⟨e, e1⟩
        refine nm_r (nI_1 y) ?_
        refine ty_spread (l := (tp_lb h c).1) hH (by omega) (by omega) hle hp2 hc ht (fun l1 p q g1 g2 g3 => ?_)
        dsimp only
        refine nm_r (nI_1 c) (ih (y + 1, p, q) ⟨?_, fun x hx => ?_⟩)
        · show y + 1 = _
          rw [tp_lb_2 ht, hy]
        · show p x = _
          rw [g1 x hx]
          by_cases z : tp_rc (tp_op h c) c x
          · rw [tp_lb_y ht z, g2 x z, hy]
          · rw [tp_lb_o ht z, g3 x z]
  · intro n c p0 hc hp0 ih
    refine br_f (nI_ge (b := 289) hc (by decide)) ⟨vp_in_nI hc (by decide), ?_⟩
    rw [nI_clamp (by omega)]
    refine nm_e (nm_r (nI_1 c) (ih _ (fun x hx => ?_)))
    by_cases e : x = c
    · subst e
      rw [pk_us]
    · rw [pk_un e]
      exact hp0 x (by omega)
theorem ty_hole48 {post : Int32 → Prop} {J : Int32 → Int32 → Prop} {c w : Nat} (hc : c < 289) (hw : w ≤ 289) (hl : l c ≤ 289) (hpc : p c = nI (l c)) {x b : Bool} (h : J (tp_b (x && !(decide (l c = w) && b))) (nI (c + 1))) : wY_isHole_48 post J (nI w) (tp_b x) (nI c) (tp_b b) K M H A B p q := by
  unfold wY_isHole_48
  rw [nI_clamp (by omega), hpc]
  refine tp_br (fun e => nm_r (nI_1 c) ?_) (fun e => ⟨vp_in_nI hc (by decide), pk_eq (l c) w (fun e1 => tp_br (fun e2 => nm_r (nI_1 c) ?_) (fun e2 => nm_r (nI_1 c) ?_)) (fun e1 => nm_r (nI_1 c) ?_)⟩)
  · rw [e] at h
    exact h
  · rw [e, e2, decide_eq_true e1] at h
    exact h
  · rw [e, e2, decide_eq_true e1] at h
    exact h
  · rw [e, decide_eq_false e1] at h
    exact h
theorem ty_hole {post : Int32 → Prop} {w : Nat} (hw : w ≤ 289) (hl : ∀ c, l c ≤ 289) (hp : ∀ c, c < 289 → p c = nI (l c)) (h : post (tp_b (tp_hl l w 289))) : wpY_isHole post (K, M, H, A, B, p, q) (nI w) := by
  refine loop_0 (fun n c (x : Bool) => wY_isHole_4 post (nI w) K M H A B p q n (tp_b x) (nI c)) (fun c x => x = tp_hl l w c) 289 true rfl ?_ ?_
  · intro n x hx
    subst hx
    exact br_t (tp_rfl 289) ⟨tp_nab _, h⟩
  · intro n c x hc hx ih
    refine br_f (nI_ge (b := 289) hc (by decide)) ?_
    rw [tp_r17 (by omega), tp_d17 (by omega)]
    have key : ∀ b, tp_bd c = b → wY_isHole_48 post (fun a d => wY_isHole_4 post (nI w) K M H A B p q n a d) (nI w) (tp_b x) (nI c) (tp_b b) K M H A B p q := by
      intro b hb
      refine ty_hole48 hc hw (hl c) (hp c hc) (ih _ ?_)
      rw [tp_hl, ← hx, hb]
    have yes : (c / 17 = 0 ∨ c / 17 = 16 ∨ c % 17 = 0 ∨ c % 17 = 16) → wY_isHole_43 post (fun a d => wY_isHole_4 post (nI w) K M H A B p q n a d) (nI w) (tp_b x) (nI c) K M H A B p q := fun z => key true (decide_eq_true z)
    exact ⟨tp_17, pk_eq (c / 17) 0 (fun e1 => yes (Or.inl e1)) (fun e1 => ⟨tp_17, pk_eq (c / 17) 16 (fun e2 => yes (Or.inr (Or.inl e2))) (fun e2 => ⟨tp_17, pk_eq (c % 17) 0 (fun e3 => yes (Or.inr (Or.inr (Or.inl e3)))) (fun e3 => ⟨tp_17, pk_eq (c % 17) 16 (fun e4 => yes (Or.inr (Or.inr (Or.inr e4)))) (fun e4 => key false (decide_eq_false (by omega)))⟩)⟩)⟩)⟩
theorem ty_outer {post : Int32 → SY → Prop} {k : Nat → Nat} {m : Nat → Bool} (hK : ∀ x, K x = nI (k x)) (hM : ∀ x, M x = tp_b (m x)) {s : Nat} (hs : s < 12) (h3 : k s ≤ 3) {g : Nat → Bool} (hg : g = fun c => decide (2 ≤ tp_ps k m s c ∧ tp_ps k m s c ≤ 2))
    (hp : ∀ (H A p q : Nat → Int32), (∀ c, c < 289 → p c = nI ((tp_lb g 289).1 c)) → post (nI (tp_lb g 289).2) (K, M, H, A, B, p, q)) : wpY_outerPieces post (K, M, H, A, B, p, q) (nI s) := by
  unfold wpY_outerPieces
  dsimp only
  refine ty_parts1 hK hM hs h3 (fun A' hA => ?_)
  dsimp only
  refine loop_0 (fun n c H => wY_outerPieces_8 post n (nI c) K M H A' B p q) (fun c H => ∀ x, x < c → H x = tp_b (g x)) 289 H (fun x hx => absurd hx (by omega)) ?_ ?_
  · intro n H' hH
    refine br_t (tp_rfl 289) ?_
    exact ty_fpieces (h := g) hH (fun p q a => hp H' A' p q a)
  · intro n c H' hc hH ih
    refine br_f (nI_ge (b := 289) hc (by decide)) ?_
    have hl := tp_ps_2 k m s c
    have hA' : A' c = nI (tp_ps k m s c) := hA c hc
    have st : ∀ b, g c = b → ∀ x, x < c + 1 → upd H' c (tp_b b) x = tp_b (g x) := by
      intro b hb x hx
      by_cases e : x = c
      · subst e
        rw [pk_us, hb]
      · rw [pk_un e]
        exact hH x (by omega)
    have hin : vp_in (nI c) 289 := vp_in_nI hc (by decide)
    rw [nI_clamp (by omega), hA', tp_nar0, tp_nar1]
    refine ⟨hin, pk_eq (tp_ps k m s c) 2 (fun e => ⟨hin, nm_e (nm_r (nI_1 c) (ih _ (st true ?_)))⟩) (fun e => ⟨hin, nm_e (nm_r (nI_1 c) (ih _ (st false ?_)))⟩)⟩
    · rw [hg]
      exact decide_eq_true (by omega)
    · rw [hg]
      exact decide_eq_false (by omega)
end
end
section
theorem tx_pcs38 {post : Int32 → SX → Prop} {f : Int32} {K S M P T U Q : Nat → Int32} {g : Nat → Bool} (hU : ∀ c, c < 289 → U c = tp_b (g c)) (h : ∀ f U Q, post (nI (tp_lb g 289).2) (f, K, S, M, P, T, U, Q)) : ∃ n, wX_pieces_38 post n 0 0 f K S M P T U Q := by
  refine loop_0 (fun n e (z : Int32 × Nat × (Nat → Int32) × (Nat → Int32)) => wX_pieces_38 post n (nI z.2.1) (nI e) z.1 K S M P T z.2.2.1 z.2.2.2) (fun e z => z.2.1 = (tp_lb g e).2 ∧ ∀ c, c < 289 → z.2.2.1 c = tp_b (tp_op g e c)) 289 (f, 0, U, Q) ⟨rfl, fun c hc => by rw [tp_op_0]; exact hU c hc⟩ ?_ ?_
  · rintro n ⟨f, x, U, Q⟩ ⟨hx, hU⟩
    have hx : x = _ := hx
    subst hx
    exact br_t (tp_rfl 289) (h f U Q)
  · rintro n e ⟨f, x, U, Q⟩ he ⟨hx, hU⟩ ih
    have hx : x = (tp_lb g e).2 := hx
    have hU : ∀ c, c < 289 → U c = tp_b (tp_op g e c) := hU
    refine br_f (nI_ge (b := 289) he (by decide)) ⟨vp_in_nI he (by decide), ?_⟩
    dsimp only
    rw [nI_clamp (by omega), hU e he]
    refine tp_br (fun z => nm_r (nI_1 e) (ih (f, x, U, Q) ⟨?_, fun c hc => ?_⟩)) (fun ht => ?_)
    · show x = _
      rw [tp_lb_n (by rw [z]; decide)]
      exact hx
    · show U c = _
      rw [tp_op_n (by rw [z]; decide)]
      exact hU c hc
    · refine tx_walk hU he ht (fun u q L U Q hQ hC hs hA => ?_)
      dsimp only
      refine nm_r (nI_1 x) (nm_r (nI_1 e) (ih (nI L, x + 1, U, Q) ⟨?_, fun c hc => ?_⟩))
      · show x + 1 = _
        rw [tp_lb_2 ht, hx]
      · show U c = _
        rw [hA.1 c hc]
        refine congrArg tp_b ?_
        rw [Bool.eq_iff_iff, tp_Q_u hQ hC hs hc, tp_op_s ht]
theorem i_vc_pieces {k : Nat} {u : SX} {v : SY} (I : i_Rel k u v) (hk : k + 4 ≤ 2048) (v1 : Int32) : wpX_pieces (fun r u' => wpY_pieces (fun r' v' => r' = r ∧ i_Rel (k + 4) u' v') v v1) u v1 := by
  have R : i_Rel (k + 4) u v := I
  obtain ⟨kk, mm, hX, hY⟩ := I
  obtain ⟨f, K, S, M, P, T, U, Q⟩ := u
  obtain ⟨K2, M2, H, A, B, p, q⟩ := v
  obtain ⟨hK, hM, hC⟩ := hX
  obtain ⟨hK2, hM2⟩ := hY
  unfold wpX_pieces
  dsimp only
  rcases tp_rg v1 12 (by decide) with ⟨s, hs, rfl⟩ | hx
  · have h3 := (hC.1 s hs).1
    by_cases h0 : kk s = 0
    · refine tx_ras_2 hK hs h0 (br_f (by decide) ?_)
      unfold wpY_pieces
      dsimp only
      rw [nI_clamp (by omega), hK2 s, h0]
      exact ty_slot_y hs (br_f (by decide) ⟨tp_in12 hs, br_t rfl ⟨rfl, R⟩⟩)
    · refine tx_ras_0 hK hs h3 h0 (br_t rfl ⟨tp_in12 hs, ?_⟩)
      rw [nI_clamp (by omega), hK s]
      have yy : ∀ (post : Int32 → SY → Prop) (g : Nat → Bool), (g = fun c => decide (0 ≤ tp_ps kk mm s c ∧ tp_ps kk mm s c ≤ (if kk s = 3 then 0 else 1))) → (∀ H A p q, post (nI (tp_lb g 289).2) (K2, M2, H, A, B, p, q)) → wpY_pieces post (K2, M2, H, A, B, p, q) (nI s) := by
        intro post g hg hp
        unfold wpY_pieces
        dsimp only
        rw [nI_clamp (by omega), hK2 s]
        refine ty_slot_y hs (br_f (by decide) ⟨tp_in12 hs, br_f (nI_ne0 (by omega) (by omega)) ?_⟩)
        refine ty_parts1 hK2 hM2 hs h3 (fun A' hA => ?_)
        dsimp only
        refine loop_0 (fun n c H => wY_pieces_30 post (nI s) n (nI c) K2 M2 H A' B p q) (fun c H => ∀ x, x < c → H x = tp_b (g x)) 289 H (fun x hx => absurd hx (by omega)) ?_ ?_
        · intro n H' hH
          refine br_t (tp_rfl 289) ?_
          exact ty_fpieces (h := g) hH (fun p q _ => hp H' A' p q)
        · intro n c H' hc hH ih
          refine br_f (nI_ge (b := 289) hc (by decide)) ⟨tp_in12 hs, ?_⟩
          have hl := tp_ps_2 kk mm s c
          have hA' : A' c = nI (tp_ps kk mm s c) := hA c hc
          have st : ∀ b, g c = b → ∀ x, x < c + 1 → upd H' c (tp_b b) x = tp_b (g x) := by
            intro b hb x hx
            by_cases e : x = c
            · subst e
              rw [pk_us, hb]
            · rw [pk_un e]
              exact hH x (by omega)
          have hin : vp_in (nI c) 289 := vp_in_nI hc (by decide)
          rw [nI_clamp (n := c) (by omega), nI_clamp (n := s) (by omega), hK2 s, hA', tp_nar0, tp_nar1]
          refine pk_eq (kk s) 3 (fun e3 => ⟨hin, pk_eq (tp_ps kk mm s c) 0 (fun e => ⟨hin, nm_e (nm_r (nI_1 c) (ih _ (st true ?_)))⟩) (fun e => ⟨hin, nm_e (nm_r (nI_1 c) (ih _ (st false ?_)))⟩)⟩) (fun e3 => ⟨hin, pk_le 2 (tp_ps kk mm s c) (fun e => ⟨hin, nm_e (nm_r (nI_1 c) (ih _ (st false ?_)))⟩) (fun e => ⟨hin, nm_e (nm_r (nI_1 c) (ih _ (st true ?_)))⟩)⟩)
          · rw [hg, if_pos e3]
            exact decide_eq_true (by omega)
          · rw [hg, if_pos e3]
            exact decide_eq_false (by omega)
          · rw [hg, if_neg e3]
            exact decide_eq_false (by omega)
          · rw [hg, if_neg e3]
            exact decide_eq_true (by omega)
      refine pk_eq (kk s) 3 (fun e3 => ?_) (fun e3 => ?_)
      · unfold wX_pieces_30
        refine tx_prep (a := 0) (b := 0) hC hs (by omega) (by omega) (fun U' hU => ?_)
        dsimp only
        refine tx_pcs38 (g := fun c => decide (0 ≤ tp_ps kk mm s c ∧ tp_ps kk mm s c ≤ 0)) hU (fun f U Q => ?_)
        exact yy _ _ (by rw [if_pos e3]) (fun H A p q => ⟨rfl, kk, mm, ⟨hK, hM, hC⟩, hK2, hM2⟩)
      · unfold wX_pieces_30
        refine tx_prep (a := 0) (b := 1) hC hs (by omega) (by omega) (fun U' hU => ?_)
        dsimp only
        refine tx_pcs38 (g := fun c => decide (0 ≤ tp_ps kk mm s c ∧ tp_ps kk mm s c ≤ 1)) hU (fun f U Q => ?_)
        exact yy _ _ (by rw [if_neg e3]) (fun H A p q => ⟨rfl, kk, mm, ⟨hK, hM, hC⟩, hK2, hM2⟩)
  · refine tx_ras_1 hx (br_f (by decide) ?_)
    unfold wpY_pieces
    dsimp only
    exact ty_slot_n hx (br_t rfl ⟨rfl, R⟩)
/-- the members while the holes are walked -/
noncomputable def tp_ma (ad : Bool) (m : Nat → Bool) (s : Nat) (g : Nat → Bool) (e : Nat) : Nat → Bool := if ad = true then tp_w m s (tp_fl (tp_sl m s) (tp_lb g e).1 (tp_lb g e).2) 289 else m
theorem tp_ma_0 (ad : Bool) (m : Nat → Bool) (s : Nat) (g : Nat → Bool) : tp_ma ad m s g 0 = m := by
  unfold tp_ma
  split
  · rw [tp_w_c m s (g := tp_fl (tp_sl m s) (tp_lb g 0).1 (tp_lb g 0).2) (g' := tp_sl m s) (i := 289) (fun c _ => tp_fl_0 c), tp_w_i]
  · rfl
theorem tx_holes12 {post : Int32 → SX → Prop} {f : Int32} {K S M P T U Q : Nat → Int32} {m : Nat → Bool} (hM : ∀ x, M x = tp_b (m x)) {s : Nat} (hs : s < 12) {g : Nat → Bool} (hU : ∀ c, c < 289 → U c = tp_b (g c)) (ad : Bool) (h : ∀ f M U Q, (∀ x, M x = tp_b (tp_ma ad m s g 289 x)) → post (nI (tp_hc (tp_lb g 289).1 (tp_lb g 289).2)) (f, K, S, M, P, T, U, Q)) : ∃ n, wX_walkHoles_12 post (nI s) (tp_b ad) n 0 0 f K S M P T U Q := by
  refine loop_0 (fun n e (z : Int32 × Nat × (Nat → Int32) × (Nat → Int32) × (Nat → Int32)) => wX_walkHoles_12 post (nI s) (tp_b ad) n (nI z.2.1) (nI e) z.1 K S z.2.2.1 P T z.2.2.2.1 z.2.2.2.2) (fun e z => z.2.1 = tp_hc (tp_lb g e).1 (tp_lb g e).2 ∧ (∀ x, z.2.2.1 x = tp_b (tp_ma ad m s g e x)) ∧ ∀ c, c < 289 → z.2.2.2.1 c = tp_b (tp_op g e c)) 289 (f, 0, M, U, Q) ⟨rfl, fun x => by rw [tp_ma_0]; exact hM x, fun c hc => by rw [tp_op_0]; exact hU c hc⟩ ?_ ?_
  · rintro n ⟨f, x, M, U, Q⟩ ⟨hx, hM, hU⟩
    have hx : x = _ := hx
    subst hx
    exact br_t (tp_rfl 289) (h f M U Q hM)
  · rintro n e ⟨f, x, M, U, Q⟩ he ⟨hx, hM, hU⟩ ih
    have hx : x = tp_hc (tp_lb g e).1 (tp_lb g e).2 := hx
    have hM : ∀ x, M x = tp_b (tp_ma ad m s g e x) := hM
    have hU : ∀ c, c < 289 → U c = tp_b (tp_op g e c) := hU
    refine br_f (nI_ge (b := 289) he (by decide)) ⟨vp_in_nI he (by decide), ?_⟩
    dsimp only
    rw [nI_clamp (by omega), hU e he]
    refine tp_br (fun z => nm_r (nI_1 e) (ih (f, x, M, U, Q) ⟨?_, fun y => ?_, fun c hc => ?_⟩)) (fun ht => ?_)
    · show x = _
      rw [tp_lb_n (by rw [z]; decide)]
      exact hx
    · show M y = _
      unfold tp_ma
      rw [tp_lb_n (by rw [z]; decide)]
      exact hM y
    · show U c = _
      rw [tp_op_n (by rw [z]; decide)]
      exact hU c hc
    · refine tx_walk hU he ht (fun u q L U Q hQ hC hst hA => ?_)
      dsimp only
      have hL := tp_Q_l hQ
      have hq : ∀ p, p < L → q p < 289 := fun p hp => (hQ.1 p hp).1
      have hE := tp_Q_e hQ hC hst
      have hU2 : ∀ c, c < 289 → U c = tp_b (tp_op g (e + 1) c) := by
        intro c hc
        rw [hA.1 c hc]
        refine congrArg tp_b ?_
        rw [Bool.eq_iff_iff, tp_Q_u hQ hC hst hc, tp_op_s ht]
      have hbh := tp_bd_h he ht
      have hhc := tp_hc_s he ht
      refine tx_brd hL hA.2 hq (fun ⟨p, hp, hb⟩ => ?_) (fun hno => ?_)
      · have hf : tp_hl (tp_lb g (e + 1)).1 ((tp_lb g e).2 + 1) 289 = false := hbh.mpr ⟨q p, (hE _).mp ⟨p, hp, rfl⟩, hb⟩
        refine br_f (by decide) (nm_r (nI_1 e) (ih (nI L, x, M, U, Q) ⟨?_, fun y => ?_, hU2⟩))
        · show x = _
          rw [hhc, hf]
          exact hx
        · show M y = _
          rw [hM y]
          unfold tp_ma
          rw [tp_lb_2 ht, tp_w_c m s (g' := tp_fl (tp_sl m s) (tp_lb g (e + 1)).1 ((tp_lb g e).2 + 1)) (fun c _ => (tp_fl_x he ht hf).symm)]
      · have hf : tp_hl (tp_lb g (e + 1)).1 ((tp_lb g e).2 + 1) 289 = true := by
          rw [← Bool.not_eq_false, hbh]
          rintro ⟨c, hr, hb⟩
          obtain ⟨p, hp, e2⟩ := (hE c).mpr hr
          exact hno ⟨p, hp, by rw [e2]; exact hb⟩
        have hx2 : x + 1 = tp_hc (tp_lb g (e + 1)).1 (tp_lb g (e + 1)).2 := by
          rw [hhc, if_pos hf, hx]
        refine br_t rfl (nm_r (nI_1 x) (tp_br (fun e1 => nm_r (nI_1 e) (ih (nI L, x + 1, M, U, Q) ⟨hx2, fun y => ?_, hU2⟩)) (fun e1 => ?_)))
        · show M y = _
          rw [hM y]
          unfold tp_ma
          rw [if_neg (by rw [e1]; decide), if_neg (by rw [e1]; decide)]
        · refine tx_add hM hs hL hA.2 hq (fun M' m' h1 h2 => ?_)
          dsimp only
          refine nm_r (nI_1 e) (ih (nI L, x + 1, M', U, Q) ⟨hx2, fun y => ?_, hU2⟩)
          show M' y = _
          rw [h1 y]
          refine congrArg tp_b ?_
          rw [Bool.eq_iff_iff, h2 y]
          unfold tp_ma
          rw [if_pos e1, if_pos e1, tp_lb_2 ht]
          by_cases hy : 289 * s ≤ y ∧ y < 289 * s + 289
          · obtain ⟨c, hc, rfl⟩ : ∃ c, c < 289 ∧ y = 289 * s + c := ⟨y - 289 * s, by omega, by omega⟩
            rw [tp_w_at m s _ hc, tp_w_at m s _ hc, tp_fl_y he ht hf]
            constructor
            · rintro (z | ⟨p, hp, z1, z2⟩)
              · exact Or.inl z
              · have ec : c = q p := by omega
                rw [ec]
                exact Or.inr ⟨(hE _).mp ⟨p, hp, rfl⟩, z2⟩
            · rintro (z | ⟨z1, z2⟩)
              · exact Or.inl z
              · obtain ⟨p, hp, ep⟩ := (hE c).mpr z1
                exact Or.inr ⟨p, hp, by rw [ep], by rw [ep]; exact z2⟩
          · unfold tp_w
            rw [if_neg hy, if_neg hy]
            constructor
            · rintro (z | ⟨p, hp, z1, z2⟩)
              · exact z
              · have := hq p hp
                omega
            · exact Or.inl
theorem tx_holes {post : Int32 → SX → Prop} {f : Int32} {K S M P T U Q : Nat → Int32} {k : Nat → Nat} {m : Nat → Bool} (hC : tp_Cr k m S P) (hM : ∀ x, M x = tp_b (m x)) {s : Nat} (hs : s < 12) {g : Nat → Bool} (hg : g = fun c => decide (2 ≤ tp_ps k m s c ∧ tp_ps k m s c ≤ 2)) (ad : Bool) (h : ∀ f M U Q, (∀ x, M x = tp_b (tp_ma ad m s g 289 x)) → post (nI (tp_hc (tp_lb g 289).1 (tp_lb g 289).2)) (f, K, S, M, P, T, U, Q)) : wpX_walkHoles post (f, K, S, M, P, T, U, Q) (nI s) (tp_b ad) := by
  unfold wpX_walkHoles
  dsimp only
  refine tx_prep (a := 2) (b := 2) hC hs (by omega) (by omega) (fun U' hU => ?_)
  dsimp only
  refine tx_holes12 hM hs (g := g) (fun c hc => ?_) ad h
  rw [hU c hc, hg]
theorem ty_holes24 {post : Int32 → SY → Prop} {K M H A B p q : Nat → Int32} {l : Nat → Nat} {N : Nat} (hN : N ≤ 289) (hl : ∀ c, l c ≤ 289) (hp : ∀ c, c < 289 → p c = nI (l c)) (h : post (nI (tp_hc l N)) (K, M, H, A, B, p, q)) : ∃ n, wY_holes_24 post (nI N) K M H A B p q n 0 1 := by
  refine loop_0 (fun n i (x : Nat) => wY_holes_24 post (nI N) K M H A B p q n (nI x) (nI (i + 1))) (fun i x => x = tp_hc l i) N 0 rfl ?_ ?_
  · intro n x hx
    subst hx
    exact br_t (nI_lt (by omega) (by omega)) h
  · intro n i x hi hx ih
    refine br_f (nI_nlt (by omega) (by omega)) ?_
    refine ty_hole (l := l) (by omega) hl hp ?_
    refine tp_br (fun e => nm_r (nI_1 (i + 1)) (ih x ?_)) (fun e => nm_r (nI_1 x) (nm_r (nI_1 (i + 1)) (ih (x + 1) ?_)))
    · rw [hx]
      unfold tp_hc
      rw [tp_cnt, e]
      rfl
    · rw [hx]
      unfold tp_hc
      rw [tp_cnt, e]
      rfl
theorem i_vc_holes {k : Nat} {u : SX} {v : SY} (I : i_Rel k u v) (hk : k + 4 ≤ 2048) (v1 : Int32) : wpX_holes (fun r u' => wpY_holes (fun r' v' => r' = r ∧ i_Rel (k + 4) u' v') v v1) u v1 := by
  have R : i_Rel (k + 4) u v := I
  obtain ⟨kk, mm, hX, hY⟩ := I
  obtain ⟨f, K, S, M, P, T, U, Q⟩ := u
  obtain ⟨K2, M2, H, A, B, p, q⟩ := v
  obtain ⟨hK, hM, hC⟩ := hX
  obtain ⟨hK2, hM2⟩ := hY
  unfold wpX_holes
  dsimp only
  rcases tp_rg v1 12 (by decide) with ⟨s, hs, rfl⟩ | hx
  · have h3 := (hC.1 s hs).1
    by_cases h0 : kk s = 0
    · refine tx_raa_2 hK hs h0 (br_f (by decide) ?_)
      unfold wpY_holes
      dsimp only
      exact ty_ba_2 hK2 hs h0 (br_f (by decide) ⟨rfl, R⟩)
    by_cases h1 : kk s = 3
    · refine tx_raa_0 hK hs h1 (br_t rfl ?_)
      refine tx_holes hC hM hs rfl false (fun f M' U Q hM' => ?_)
      have R2 : tp_X kk mm (f, K, S, M', P, T, U, Q) := ⟨hK, hM', hC⟩
      dsimp only
      unfold wpY_holes
      dsimp only
      refine ty_ba_0 hK2 hs h1 (br_t (by decide) ?_)
      refine ty_outer hK2 hM2 hs h3 rfl (fun H A p q hp => ?_)
      dsimp only
      have hn := tp_lb_n9 (fun c => decide (2 ≤ tp_ps kk mm s c ∧ tp_ps kk mm s c ≤ 2)) 289
      exact ty_holes24 hn (fun c => Nat.le_trans (tp_lb_le _ 289 c) hn) hp ⟨rfl, kk, mm, R2, hK2, hM2⟩
    · refine tx_raa_3 hK hs h3 h0 h1 (br_f (by decide) ?_)
      unfold wpY_holes
      dsimp only
      exact ty_ba_3 hK2 hs h3 h0 h1 (br_f (by decide) ⟨rfl, R⟩)
  · refine tx_raa_1 hx (br_f (by decide) ?_)
    unfold wpY_holes
    dsimp only
    exact ty_ba_1 hx (br_f (by decide) ⟨rfl, R⟩)
theorem ty_fill21 {post : Int32 → SY → Prop} {K M H A B p q : Nat → Int32} {m : Nat → Bool} (hM : ∀ x, M x = tp_b (m x)) {s : Nat} (hs : s < 12) {l : Nat → Nat} {N : Nat} (hN : N ≤ 289) (hl : ∀ c, l c ≤ 289) (hp : ∀ c, c < 289 → p c = nI (l c)) (h : ∀ M', (∀ x, M' x = tp_b (tp_w m s (tp_fl (tp_sl m s) l N) 289 x)) → post (nI (tp_cnt (tp_fl (tp_sl m s) l N) 289)) (K, M', H, A, B, p, q)) : ∃ n, wY_fill_21 post (nI s) (nI N) n 1 K M H A B p q := by
  refine loop_0 (fun n i M => wY_fill_21 post (nI s) (nI N) n (nI (i + 1)) K M H A B p q) (fun i M => ∀ x, M x = tp_b (tp_w m s (tp_fl (tp_sl m s) l i) 289 x)) N M (fun x => ?_) ?_ ?_
  · rw [tp_w_c m s (g' := tp_sl m s) (fun c _ => tp_fl_0 c), tp_w_i]
    exact hM x
  · intro n M' hM'
    refine br_t (nI_lt (by omega) (by omega)) ?_
    refine ty_count hM' hs ?_
    rw [tp_cnt_congr 289 (tp_sl_w m s _)]
    exact h M' hM'
  · intro n i M' hi hM' ih
    refine br_f (nI_nlt (by omega) (by omega)) ?_
    refine ty_hole (l := l) (by omega) hl hp ?_
    refine loop_0 (fun n c M => wY_fill_38 post _ (nI s) (nI N) (nI (i + 1)) (tp_b (tp_hl l (i + 1) 289)) n (nI c) K M H A B p q) (fun c M => ∀ x, M x = tp_b (tp_w (tp_w m s (tp_fl (tp_sl m s) l i) 289) s (tp_fl (tp_sl m s) l (i + 1)) c x)) 289 M' (fun x => by rw [tp_w_0]; exact hM' x) ?_ ?_
    · intro n M2 hM2
      refine br_t (tp_rfl 289) (nm_r (nI_1 (i + 1)) (ih M2 (fun x => ?_)))
      rw [hM2 x, tp_w_w]
    · intro n c M2 hc hM2 ih2
      refine br_f (nI_ge (b := 289) hc (by decide)) ?_
      have e0 : M2 (289 * s + c) = tp_b (tp_fl (tp_sl m s) l i c) := by
        rw [hM2, tp_w_ge _ s _ (Nat.le_refl c), tp_w_at m s _ hc]
      have hin : vp_in (nI (289 * s + c)) 3468 := vp_in_nI (by omega) (by decide)
      have hlc := hl c
      have hs2 := @tp_fl_s (tp_sl m s) l i c
      have fa : (¬ (tp_fl (tp_sl m s) l i c = true ∨ (tp_hl l (i + 1) 289 = true ∧ l c = i + 1 ∧ tp_dm c = 2))) → tp_fl (tp_sl m s) l (i + 1) c = false := by
        intro z
        rw [← Bool.not_eq_true, hs2]
        exact z
      rw [tp_iy1, nI_clamp (n := 289 * s + c) (by omega), nI_clamp (n := c) (by omega), e0, hp c hc, tp_nar0, tp_nar1]
      refine ⟨hin, tp_br (fun e1 => tp_br (fun e2 => ⟨hin, nm_e (nm_r (nI_1 c) (ih2 _ (tp_wu hM2 (fa ?_))))⟩) (fun e2 => ⟨vp_in_nI hc (by decide), pk_eq (l c) (i + 1) (fun e3 => ?_) (fun e3 => ⟨hin, nm_e (nm_r (nI_1 c) (ih2 _ (tp_wu hM2 (fa ?_))))⟩)⟩)) (fun e1 => ⟨hin, nm_e (nm_r (nI_1 c) (ih2 _ (tp_wu hM2 (hs2.mpr (Or.inl e1)))))⟩)⟩
      · rw [e1, e2]
        rintro (z | z)
        · exact nomatch z
        · exact nomatch z.1
      · refine ty_dim hc ?_
        have hd := tp_dm_le c
        refine pk_eq (tp_dm c) 2 (fun e4 => ⟨hin, nm_e (nm_r (nI_1 c) (ih2 _ (tp_wu hM2 (hs2.mpr (Or.inr ⟨e2, e3, e4⟩)))))⟩) (fun e4 => ⟨hin, nm_e (nm_r (nI_1 c) (ih2 _ (tp_wu hM2 (fa ?_))))⟩)
        rw [e1]
        rintro (z | z)
        · exact nomatch z
        · exact e4 z.2.2
      · rw [e1]
        rintro (z | z)
        · exact nomatch z
        · exact e3 z.2.1
theorem i_vc_fill {k : Nat} {u : SX} {v : SY} (I : i_Rel k u v) (hk : k + 4 ≤ 2048) (v1 : Int32) : wpX_fill (fun r u' => wpY_fill (fun r' v' => r' = r ∧ i_Rel (k + 4) u' v') v v1) u v1 := by
  have R : i_Rel (k + 4) u v := I
  obtain ⟨kk, mm, hX, hY⟩ := I
  obtain ⟨f, K, S, M, P, T, U, Q⟩ := u
  obtain ⟨K2, M2, H, A, B, p, q⟩ := v
  obtain ⟨hK, hM, hC⟩ := hX
  obtain ⟨hK2, hM2⟩ := hY
  unfold wpX_fill
  dsimp only
  rcases tp_rg v1 12 (by decide) with ⟨s, hs, rfl⟩ | hx
  · have h3 := (hC.1 s hs).1
    by_cases h0 : kk s = 0
    · refine tx_raa_2 hK hs h0 (br_f (by decide) ?_)
      unfold wpY_fill
      dsimp only
      exact ty_ba_2 hK2 hs h0 (br_f (by decide) ⟨rfl, R⟩)
    by_cases h1 : kk s = 3
    · refine tx_raa_0 hK hs h1 (br_t rfl ?_)
      have hO : tp_Ok 3 (tp_sl mm s) := by
        have := hC.1 s hs
        rw [h1] at this
        exact this
      refine tx_holes hC hM hs rfl true (fun f M' U Q hM' => ?_)
      dsimp only
      have hM2' : ∀ x, M' x = tp_b (tp_w mm s (tp_fl (tp_sl mm s) (tp_lb (fun c => decide (2 ≤ tp_ps kk mm s c ∧ tp_ps kk mm s c ≤ 2)) 289).1 (tp_lb (fun c => decide (2 ≤ tp_ps kk mm s c ∧ tp_ps kk mm s c ≤ 2)) 289).2) 289 x) := hM'
      refine tx_fin (q := 3) hC hK hM2' hs (by omega) (fun c hc e => ?_) (fun f K' S M P T U Q hu hS => ⟨tp_in12 hs, ?_⟩)
      · rcases tp_fl_t.mp e with z | z
        · exact hO.2.1 c hc z
        · omega
      · dsimp only
        rw [nI_clamp (by omega), hS]
        have hpos : ∃ c, c < 289 ∧ tp_fl (tp_sl mm s) (tp_lb (fun c => decide (2 ≤ tp_ps kk mm s c ∧ tp_ps kk mm s c ≤ 2)) 289).1 (tp_lb (fun c => decide (2 ≤ tp_ps kk mm s c ∧ tp_ps kk mm s c ≤ 2)) 289).2 c = true := by
          obtain ⟨c, hc, e⟩ := hO.2.2 (by decide)
          exact ⟨c, hc, tp_fl_t.mpr (Or.inl e)⟩
        rw [tp_Ok_p hpos, tp_v_q h1] at hu
        unfold wpY_fill
        dsimp only
        refine ty_ba_0 hK2 hs h1 (br_t (by decide) ?_)
        refine ty_outer hK2 hM2 hs h3 rfl (fun H A p q hp => ?_)
        dsimp only
        have hn := tp_lb_n9 (fun c => decide (2 ≤ tp_ps kk mm s c ∧ tp_ps kk mm s c ≤ 2)) 289
        exact ty_fill21 hM2 hs hn (fun c => Nat.le_trans (tp_lb_le _ 289 c) hn) hp (fun M3 hM3 => ⟨rfl, kk, _, hu, hK2, hM3⟩)
    · refine tx_raa_3 hK hs h3 h0 h1 (br_f (by decide) ?_)
      unfold wpY_fill
      dsimp only
      exact ty_ba_3 hK2 hs h3 h0 h1 (br_f (by decide) ⟨rfl, R⟩)
  · refine tx_raa_1 hx (br_f (by decide) ?_)
    unfold wpY_fill
    dsimp only
    exact ty_ba_1 hx (br_f (by decide) ⟨rfl, R⟩)
end
