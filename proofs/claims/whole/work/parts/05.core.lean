def tp_Cr (k : Nat → Nat) (m : Nat → Bool) (S P : Nat → Int32) : Prop :=
  (∀ s, s < 12 → tp_Ok (k s) (tp_sl m s)) ∧ (∀ s, s < 12 → S s = nI (tp_cnt (tp_sl m s) 289)) ∧ (∀ s, s < 12 → ∀ c, c < 289 → P (289 * s + c) = nI (tp_pt (k s) (tp_sl m s) (c / 17) (c % 17)))
theorem tp_Ok_c {k : Nat} {g g' : Nat → Bool} (h : ∀ c, c < 289 → g c = g' c) (H : tp_Ok k g) : tp_Ok k g' := by
  refine ⟨H.1, fun c hc e => H.2.1 c hc (by rw [h c hc]; exact e), fun hk => ?_⟩
  obtain ⟨c, hc, e⟩ := H.2.2 hk
  exact ⟨c, hc, by rw [← h c hc]; exact e⟩
theorem tp_Ok_z {q : Nat} {g : Nat → Bool} (hq : q ≤ 3) (h : ∀ c, c < 289 → g c = true → tp_dm c + 1 = q) : tp_Ok (if tp_cnt g 289 = 0 then 0 else q) g := by
  by_cases z : tp_cnt g 289 = 0
  · rw [if_pos z]
    exact ⟨by omega, fun c hc e => (by rw [tp_cnt_z z c hc] at e; exact nomatch e), fun hk => absurd rfl hk⟩
  · rw [if_neg z]
    refine ⟨hq, h, fun _ => ?_⟩
    by_cases hx : ∃ c, c < 289 ∧ g c = true
    · exact hx
    · refine absurd (tp_cnt_y 289 (fun c hc => ?_)) z
      cases e : g c with
      | false => rfl
      | true => exact absurd ⟨c, hc, e⟩ hx
theorem tp_Ok_p {q : Nat} {g : Nat → Bool} (hg : ∃ c, c < 289 ∧ g c = true) : (if tp_cnt g 289 = 0 then 0 else q) = q := by
  obtain ⟨c, hc, e⟩ := hg
  have := tp_cnt_pos e 289 hc
  rw [if_neg (by omega)]
theorem tp_sl_w (m : Nat → Bool) (s : Nat) (g : Nat → Bool) : ∀ c, c < 289 → tp_sl (tp_w m s g 289) s c = g c := fun _ hc => tp_w_at m s g hc
theorem tp_sl_n (m : Nat → Bool) (s : Nat) (g : Nat → Bool) {s' : Nat} (hs : s' ≠ s) : ∀ c, c < 289 → tp_sl (tp_w m s g 289) s' c = tp_sl m s' c := fun _ hc => tp_w_ne m s g hs hc (Nat.le_refl _)
/-- a slot renewed -/
theorem tp_Cr_s {k : Nat → Nat} {m : Nat → Bool} {S P P' : Nat → Int32} {s q : Nat} {g : Nat → Bool} (H : tp_Cr k m S P) (hs : s < 12) (hq : q ≤ 3) (hg : ∀ c, c < 289 → g c = true → tp_dm c + 1 = q)
    (h1 : ∀ c, c < 289 → P' (289 * s + c) = nI (tp_px (if tp_cnt g 289 = 0 then 0 else q) g (c / 17) (c % 17))) (h2 : ∀ s', s' < 12 → s' ≠ s → ∀ c, c < 289 → P' (289 * s' + c) = P (289 * s' + c)) :
    tp_Cr (tp_v k s (if tp_cnt g 289 = 0 then 0 else q)) (tp_w m s g 289) (upd S s (nI (tp_cnt g 289))) P' := by
  have hok := tp_Ok_z hq hg
  have hw := tp_sl_w m s g
  refine ⟨fun s' hs' => ?_, fun s' hs' => ?_, fun s' hs' c hc => ?_⟩
  · by_cases e : s' = s
    · subst e
      rw [tp_v_s]
      exact tp_Ok_c (fun c hc => (hw c hc).symm) hok
    · rw [tp_v_n e]
      exact tp_Ok_c (fun c hc => (tp_sl_n m s g e c hc).symm) (H.1 s' hs')
  · by_cases e : s' = s
    · subst e
      rw [pk_us, tp_cnt_congr 289 hw]
    · rw [pk_un e, H.2.1 s' hs', tp_cnt_congr 289 (tp_sl_n m s g e)]
  · by_cases e : s' = s
    · subst e
      rw [tp_v_s, h1 c hc, tp_px_pt hok, tp_pt_c _ hw]
    · rw [tp_v_n e, h2 s' hs' e c hc, H.2.2 s' hs' c hc, tp_pt_c _ (tp_sl_n m s g e)]
theorem tp_w_w (m : Nat → Bool) (s : Nat) (g g' : Nat → Bool) (i : Nat) : tp_w (tp_w m s g i) s g' i = tp_w m s g' i := by
  funext x
  unfold tp_w
  by_cases h : 289 * s ≤ x ∧ x < 289 * s + i
  · rw [if_pos h, if_pos h]
  · rw [if_neg h, if_neg h, if_neg h]
theorem tp_w_u (m : Nat → Bool) (s c0 : Nat) (b : Bool) (hc : c0 < 289) : tp_u m (289 * s + c0) b = tp_w m s (tp_u (tp_sl m s) c0 b) 289 := by
  funext x
  unfold tp_u tp_w tp_sl
  by_cases h : x = 289 * s + c0
  · subst h
    rw [if_pos rfl, if_pos (by omega)]
    dsimp only
    rw [if_pos (by omega)]
  · rw [if_neg h]
    by_cases h2 : 289 * s ≤ x ∧ x < 289 * s + 289
    · rw [if_pos h2]
      dsimp only
      rw [if_neg (by omega)]
      exact congrArg m (by omega)
    · rw [if_neg h2]
theorem tp_w_i (m : Nat → Bool) (s : Nat) : tp_w m s (tp_sl m s) 289 = m := by
  rw [tp_w_j m s (tp_sl m s) (i := 0) (i' := 289) (by omega) (fun c _ _ => rfl), tp_w_0]
theorem tp_v_i (k : Nat → Nat) (s : Nat) : tp_v k s (k s) = k := by
  funext x
  unfold tp_v
  split
  · rename_i h
    rw [h]
  · rfl
theorem tp_v_q {k : Nat → Nat} {s q : Nat} (h : k s = q) : tp_v k s q = k := by
  rw [← h]
  exact tp_v_i k s
def tp_mn (a b : Nat) : Nat := if a < b then a else b
def tp_mx (a b : Nat) : Nat := if b < a then a else b
theorem tp_mn_d (a b : Nat) : tp_mn a b / 9 = tp_mn (a / 9) (b / 9) := by
  unfold tp_mn
  split <;> split <;> omega
theorem tp_mx_d (a b : Nat) : tp_mx a b / 9 = tp_mx (a / 9) (b / 9) := by
  unfold tp_mx
  split <;> split <;> omega
/-- within the box of two vertices -/
def tp_bx (f t i j : Nat) : Bool := decide (2 * tp_mn (f / 9) (t / 9) ≤ i ∧ i ≤ 2 * tp_mx (f / 9) (t / 9) ∧ 2 * tp_mn (f % 9) (t % 9) ≤ j ∧ j ≤ 2 * tp_mx (f % 9) (t % 9))
theorem tp_bx_t {f t i j : Nat} : tp_bx f t i j = true ↔ 2 * tp_mn (f / 9) (t / 9) ≤ i ∧ i ≤ 2 * tp_mx (f / 9) (t / 9) ∧ 2 * tp_mn (f % 9) (t % 9) ≤ j ∧ j ≤ 2 * tp_mx (f % 9) (t % 9) := by
  unfold tp_bx
  exact decide_eq_true_iff
/-- the slot's set with what lies in a box put in or taken out -/
def tp_mk (g : Nat → Bool) (q f t : Nat) (b : Bool) : Nat → Bool := fun c => if tp_bx f t (c / 17) (c % 17) = true ∧ tp_dm c + 1 = q then b else g c
theorem tp_mk_t {g : Nat → Bool} {k q f t : Nat} (H : tp_Ok k g) (hk : k = 0 ∨ k = q) (b : Bool) : ∀ c, c < 289 → tp_mk g q f t b c = true → tp_dm c + 1 = q := by
  intro c hc h
  unfold tp_mk at h
  by_cases e : tp_bx f t (c / 17) (c % 17) = true ∧ tp_dm c + 1 = q
  · exact e.2
  · rw [if_neg e] at h
    have := H.2.1 c hc h
    omega
theorem tp_mk_1 {v : Nat} (hv : v < 81) (g : Nat → Bool) : ∀ c, c < 289 → tp_mk g 1 v v true c = tp_u g (17 * (2 * (v / 9)) + 2 * (v % 9)) true c := by
  intro c hc
  unfold tp_mk tp_u
  have e : (tp_bx v v (c / 17) (c % 17) = true ∧ tp_dm c + 1 = 1) ↔ c = 17 * (2 * (v / 9)) + 2 * (v % 9) := by
    rw [tp_bx_t]
    unfold tp_mn tp_mx tp_dm
    rw [if_neg (Nat.lt_irrefl _), if_neg (Nat.lt_irrefl _)]
    omega
  by_cases h : c = 17 * (2 * (v / 9)) + 2 * (v % 9)
  · rw [if_pos h, if_pos (e.mpr h)]
  · rw [if_neg h, if_neg (fun z => h (e.mp z))]
theorem tp_mk_2 {f t : Nat} (hf : f < 81) (ht : t < 81) (h : ¬ ((f / 9 = t / 9) ↔ (f % 9 = t % 9))) (g : Nat → Bool) : ∃ c, c < 289 ∧ tp_mk g 2 f t true c = true := by
  by_cases e : f / 9 = t / 9
  · refine ⟨17 * (2 * (f / 9)) + (2 * tp_mn (f % 9) (t % 9) + 1), ?_, ?_⟩
    · unfold tp_mn
      split <;> omega
    · have h1 : tp_mn (f % 9) (t % 9) ≤ 8 := by unfold tp_mn; split <;> omega
      have h2 : tp_mn (f % 9) (t % 9) < tp_mx (f % 9) (t % 9) := by unfold tp_mn tp_mx; split <;> split <;> omega
      have h3 : tp_mn (f / 9) (t / 9) = f / 9 := by unfold tp_mn; split <;> omega
      have h4 : tp_mx (f / 9) (t / 9) = f / 9 := by unfold tp_mx; split <;> omega
      have h5 : tp_mx (f % 9) (t % 9) ≤ 8 := by unfold tp_mx; split <;> omega
      unfold tp_mk
      rw [if_pos]
      rw [tp_bx_t, h3, h4]
      unfold tp_dm
      generalize tp_mn (f % 9) (t % 9) = a at *
      generalize tp_mx (f % 9) (t % 9) = b at *
      omega
  · have e' : f % 9 = t % 9 := by omega
    refine ⟨17 * (2 * tp_mn (f / 9) (t / 9) + 1) + 2 * (f % 9), ?_, ?_⟩
    · unfold tp_mn
      split <;> omega
    · have h2 : tp_mn (f / 9) (t / 9) < tp_mx (f / 9) (t / 9) := by unfold tp_mn tp_mx; split <;> split <;> omega
      have h3 : tp_mn (f % 9) (t % 9) = f % 9 := by unfold tp_mn; split <;> omega
      have h4 : tp_mx (f % 9) (t % 9) = f % 9 := by unfold tp_mx; split <;> omega
      unfold tp_mk
      rw [if_pos]
      rw [tp_bx_t, h3, h4]
      unfold tp_dm
      generalize tp_mn (f / 9) (t / 9) = a at *
      generalize tp_mx (f / 9) (t / 9) = b at *
      omega
theorem tp_mk_3 {f t : Nat} (hf : f < 81) (ht : t < 81) (h1 : ¬ f / 9 = t / 9) (h2 : ¬ f % 9 = t % 9) (g : Nat → Bool) : ∃ c, c < 289 ∧ tp_mk g 3 f t true c = true := by
  have a1 : tp_mn (f / 9) (t / 9) < tp_mx (f / 9) (t / 9) := by unfold tp_mn tp_mx; split <;> split <;> omega
  have a2 : tp_mn (f % 9) (t % 9) < tp_mx (f % 9) (t % 9) := by unfold tp_mn tp_mx; split <;> split <;> omega
  have a3 : tp_mx (f / 9) (t / 9) ≤ 8 := by unfold tp_mx; split <;> omega
  have a4 : tp_mx (f % 9) (t % 9) ≤ 8 := by unfold tp_mx; split <;> omega
  refine ⟨17 * (2 * tp_mn (f / 9) (t / 9) + 1) + (2 * tp_mn (f % 9) (t % 9) + 1), by omega, ?_⟩
  unfold tp_mk
  rw [if_pos]
  rw [tp_bx_t]
  unfold tp_dm
  generalize tp_mn (f / 9) (t / 9) = a at *
  generalize tp_mx (f / 9) (t / 9) = b at *
  generalize tp_mn (f % 9) (t % 9) = c at *
  generalize tp_mx (f % 9) (t % 9) = d at *
  omega
/-- one of the first n -/
def tp_an (f : Nat → Bool) : Nat → Bool
  | 0 => false
  | n + 1 => tp_an f n || f n
theorem tp_an_t {f : Nat → Bool} : ∀ n, tp_an f n = true ↔ ∃ c, c < n ∧ f c = true
  | 0 => ⟨(fun h => nomatch h), fun ⟨c, hc, _⟩ => absurd hc (by omega)⟩
  | n + 1 => by
    unfold tp_an
    rw [Bool.or_eq_true, tp_an_t n]
    refine ⟨?_, ?_⟩
    · rintro (⟨c, hc, e⟩ | e)
      · exact ⟨c, by omega, e⟩
      · exact ⟨n, by omega, e⟩
    · rintro ⟨c, hc, e⟩
      by_cases h : c = n
      · subst h
        exact Or.inr e
      · exact Or.inl ⟨c, by omega, e⟩
theorem tp_an_c {f g : Nat → Bool} (n : Nat) (h : ∀ c, c < n → f c = g c) : tp_an f n = tp_an g n := by
  rw [Bool.eq_iff_iff, tp_an_t, tp_an_t]
  exact ⟨fun ⟨c, hc, e⟩ => ⟨c, hc, by rw [← h c hc]; exact e⟩, fun ⟨c, hc, e⟩ => ⟨c, hc, by rw [h c hc]; exact e⟩⟩
/-- a body reaches into a window: by vertices, and by all elements -/
theorem tp_win {k : Nat} {g : Nat → Bool} (H : tp_Ok k g) {f t : Nat} (hf : f < 81) (ht : t < 81) : (∃ v, v < 81 ∧ tp_bx f t (2 * (v / 9)) (2 * (v % 9)) = true ∧ tp_pt k g (2 * (v / 9)) (2 * (v % 9)) ≠ 2) ↔ (∃ i j, tp_bx f t i j = true ∧ tp_pt k g i j ≠ 2) := by
  refine ⟨fun ⟨v, _, h1, h2⟩ => ⟨_, _, h1, h2⟩, ?_⟩
  rintro ⟨i, j, h1, h2⟩
  rw [tp_bx_t] at h1
  have a3 : tp_mx (f / 9) (t / 9) ≤ 8 := by unfold tp_mx; split <;> omega
  have a4 : tp_mx (f % 9) (t % 9) ≤ 8 := by unfold tp_mx; split <;> omega
  have h3 := tp_vtx H h2
  refine ⟨9 * (i / 2) + j / 2, by omega, ?_⟩
  have b1 : 2 * ((9 * (i / 2) + j / 2) / 9) = i - i % 2 := by omega
  have b2 : 2 * ((9 * (i / 2) + j / 2) % 9) = j - j % 2 := by omega
  rw [b1, b2, tp_bx_t]
  generalize tp_mn (f / 9) (t / 9) = a at *
  generalize tp_mx (f / 9) (t / 9) = b at *
  generalize tp_mn (f % 9) (t % 9) = c at *
  generalize tp_mx (f % 9) (t % 9) = d at *
  exact ⟨by omega, h3⟩
/-- relate's digits -/
def tp_dg (f : Nat → Nat) : Nat → Nat
  | 0 => 0
  | p + 1 => tp_dg f p * 4 + f p
def tp_me (P Q : Nat → Nat) (p : Nat) : Nat := if p = 8 then 3 else tp_mt P Q (p / 3) (p % 3) 0 289
/-- whether a name holds of two shapes -/
def tp_so (k1 k2 : Nat) (P Q : Nat → Nat) (nm : Nat) : Bool :=
  if nm = 0 then decide ((tp_me P Q 2 = 0 ∧ tp_me P Q 5 = 0) ∧ (tp_me P Q 6 = 0 ∧ tp_me P Q 7 = 0)) else
  if nm = 1 then decide (tp_me P Q 0 = 0 ∧ tp_me P Q 1 = 0 ∧ tp_me P Q 3 = 0 ∧ tp_me P Q 4 = 0) else
  if nm = 2 then decide (¬ (tp_me P Q 0 = 0 ∧ tp_me P Q 1 = 0 ∧ tp_me P Q 3 = 0 ∧ tp_me P Q 4 = 0) ∧ tp_me P Q 0 = 0) else
  if nm = 3 then decide (tp_me P Q 0 ≠ 0 ∧ (tp_me P Q 2 = 0 ∧ tp_me P Q 5 = 0)) else
  if nm = 4 then decide (tp_me P Q 6 = 0 ∧ tp_me P Q 7 = 0) else
  if nm = 5 then decide (tp_me P Q 0 ≠ 0 ∧ tp_me P Q 2 ≠ 0 ∧ tp_me P Q 0 ≠ tp_mx k1 k2) else
  decide (k1 = k2 ∧ tp_me P Q 0 = k1 ∧ tp_me P Q 2 ≠ 0 ∧ tp_me P Q 6 ≠ 0)
/-- the nearest so far: (12, 1000) if none -/
def tp_ns (ok : Nat → Bool) (D : Nat → Nat) : Nat → Nat × Nat
  | 0 => (12, 1000)
  | e + 1 => if ok e = true ∧ D e < (tp_ns ok D e).2 then (e, D e) else tp_ns ok D e
/-- the window's answer from slot s on, f found so far -/
def tp_iw (wd : Nat → Bool) (k : Int32) : Nat → Nat → Nat → Int32
  | 0, _, _ => -7
  | d + 1, s, f => if wd s = true then (if nI f = k then nI s else tp_iw wd k d (s + 1) (f + 1)) else tp_iw wd k d (s + 1) f
