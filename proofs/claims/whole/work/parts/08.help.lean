theorem tp_br {b : Bool} {A B : Prop} (h0 : b = false → A) (h1 : b = true → B) : (tp_b b = 0 → A) ∧ (¬ tp_b b = 0 → B) := ⟨fun h => h0 ((tp_b_0 b).mp h), fun h => h1 ((tp_b_1 b).mp h)⟩
theorem tp_p0 {b : Bool} {post : Int32 → Prop} (h : post (tp_b b)) (e : b = false) : post 0 := by
  rw [e] at h
  exact h
theorem tp_p1 {b : Bool} {post : Int32 → Prop} (h : post (tp_b b)) (e : b = true) : post 1 := by
  rw [e] at h
  exact h
theorem tp_rfl (n : Nat) : nI n ≤ nI n := Int32.le_refl _
theorem tp_nat {x : Int32} {n : Nat} (h0 : 0 ≤ x.toInt) (h1 : x.toInt ≤ n) : ∃ i : Nat, i ≤ n ∧ x = nI i := by
  have hx : ¬ x < 0 := by
    rw [Int32.lt_iff_toInt_lt, show (0 : Int32).toInt = 0 from rfl]
    omega
  obtain ⟨j, hj, rfl⟩ := nI_of hx
  rw [nI_toInt hj] at h1
  exact ⟨j, by omega, rfl⟩
theorem tp_nar (b : Bool) : vp_nar .boolean (tp_b b) = tp_b b := by cases b <;> rfl
theorem tp_nar0 : vp_nar .boolean 0 = tp_b false := by rfl
theorem tp_nar1 : vp_nar .boolean 1 = tp_b true := by rfl
theorem tp_nab (b : Bool) : narrow .boolean (.int (tp_b b)) = .int (tp_b b) := by cases b <;> rfl
theorem tp_ix1 (s c : Nat) : nI s * 289 + nI c = nI (289 * s + c) := by
  rw [show (289 : Int32) = nI 289 from rfl, pk_mul, nI_add]
  exact congrArg nI (by omega)
theorem tp_ix2 (s i j : Nat) : nI s * 289 + nI i * 17 + nI j = nI (289 * s + (17 * i + j)) := by
  rw [show (289 : Int32) = nI 289 from rfl, show (17 : Int32) = nI 17 from rfl, pk_mul, pk_mul, nI_add, nI_add]
  exact congrArg nI (by omega)
theorem tp_iy1 (s c : Nat) : 289 * nI s + nI c = nI (289 * s + c) := by
  rw [show (289 : Int32) = nI 289 from rfl, pk_mul, nI_add]
theorem tp_iy2 (s i j : Nat) : 289 * nI s + 17 * nI i + nI j = nI (289 * s + (17 * i + j)) := by
  rw [show (289 : Int32) = nI 289 from rfl, show (17 : Int32) = nI 17 from rfl, pk_mul, pk_mul, nI_add, nI_add]
  exact congrArg nI (by omega)
theorem tp_i17 (i j : Nat) : nI i * 17 + nI j = nI (17 * i + j) := by
  rw [show (17 : Int32) = nI 17 from rfl, pk_mul, nI_add]
  exact congrArg nI (by omega)
theorem tp_j17 (i j : Nat) : 17 * nI i + nI j = nI (17 * i + j) := by
  rw [show (17 : Int32) = nI 17 from rfl, pk_mul, nI_add]
theorem tp_t2 (i : Nat) : 2 * nI i = nI (2 * i) := by
  rw [show (2 : Int32) = nI 2 from rfl, pk_mul]
theorem tp_d17 {c : Nat} (h : c < 2 ^ 31) : nI c / 17 = nI (c / 17) := pk_div (d := 17) h (by decide) (by decide)
theorem tp_r17 {c : Nat} (h : c < 2 ^ 31) : nI c - nI c / 17 * 17 = nI (c % 17) := pk_rem (d := 17) h (by decide) (by decide)
theorem tp_d9 {c : Nat} (h : c < 2 ^ 31) : nI c / 9 = nI (c / 9) := pk_div (d := 9) h (by decide) (by decide)
theorem tp_r9 {c : Nat} (h : c < 2 ^ 31) : nI c - nI c / 9 * 9 = nI (c % 9) := pk_rem (d := 9) h (by decide) (by decide)
theorem tp_d3 {c : Nat} (h : c < 2 ^ 31) : nI c / 3 = nI (c / 3) := pk_div (d := 3) h (by decide) (by decide)
theorem tp_r3 {c : Nat} (h : c < 2 ^ 31) : nI c - nI c / 3 * 3 = nI (c % 3) := pk_rem (d := 3) h (by decide) (by decide)
theorem tp_d12 {c : Nat} (h : c < 2 ^ 31) : nI c / 12 = nI (c / 12) := pk_div (d := 12) h (by decide) (by decide)
theorem tp_r12 {c : Nat} (h : c < 2 ^ 31) : nI c - nI c / 12 * 12 = nI (c % 12) := pk_rem (d := 12) h (by decide) (by decide)
theorem tp_r2 {c : Nat} (h : c < 2 ^ 31) : nI c - nI c / 2 * 2 = nI (c % 2) := pk_rem (d := 2) h (by decide) (by decide)
theorem tp_a1 {c : Nat} (h : c < 2 ^ 31) : nI c &&& 1 = nI (c % 2) := pk_andN (by omega) (m := 1) 1 (by decide)
theorem tp_m1 {a : Nat} (h : a < 2 ^ 30) : (nI a - 1).toInt = (a : Int) - 1 := pk_sub_toInt (b := 1) h (by decide)
theorem tp_q1 {a : Nat} (h : a < 2 ^ 30) : (nI a + 1).toInt = (a : Int) + 1 := by
  rw [nI_1, nI_toInt (by omega)]
  omega
theorem tp_0i {a : Nat} (h : a < 2 ^ 30) : (nI a).toInt = (a : Int) := nI_toInt (by omega)
theorem tp_bn (b : Bool) : tp_b b = nI b.toNat := by cases b <;> rfl
theorem tp_b4 (a b c d : Bool) : tp_b a + tp_b b + tp_b c + tp_b d = nI (a.toNat + b.toNat + c.toNat + d.toNat) := by
  rw [tp_bn, tp_bn, tp_bn, tp_bn, nI_add, nI_add, nI_add]
theorem tp_b4l (a b c d : Bool) : a.toNat + b.toNat + c.toNat + d.toNat ≤ 4 := by
  revert a b c d
  decide
theorem tp_9 : ¬ (9 : Int32) = 0 := by decide
theorem tp_17 : ¬ (17 : Int32) = 0 := by decide
theorem tp_2 : ¬ (2 : Int32) = 0 := by decide
theorem tp_3 : ¬ (3 : Int32) = 0 := by decide
theorem tp_12 : ¬ (12 : Int32) = 0 := by decide
theorem tp_bo {i : Nat} {A B : Prop} (hi : i < 2 ^ 31) (f : i % 2 = 1 → A) (g : ¬ i % 2 = 1 → B) : ((nI i &&& 1) = 1 → A) ∧ (¬ (nI i &&& 1) = 1 → B) := by
  rw [tp_a1 hi]
  exact pk_eq (i % 2) 1 f g rfl rfl (by omega) (by decide)
theorem tp_uM {M : Nat → Int32} {m : Nat → Bool} (hM : ∀ x, M x = tp_b (m x)) (i : Nat) (b : Bool) : ∀ x, upd M i (tp_b b) x = tp_b (tp_u m i b x) := by
  intro x
  unfold upd tp_u
  split
  · rfl
  · exact hM x
theorem tp_uK {K : Nat → Int32} {k : Nat → Nat} (hK : ∀ x, K x = nI (k x)) (i : Nat) (b : Nat) : ∀ x, upd K i (nI b) x = nI (tp_v k i b x) := by
  intro x
  unfold upd tp_v
  split
  · rfl
  · exact hK x
def tp_g (i j : Int) : Bool := decide (0 ≤ i ∧ i ≤ 16 ∧ 0 ≤ j ∧ j ≤ 16)
theorem tp_g_t {i j : Int} : tp_g i j = true ↔ 0 ≤ i ∧ i ≤ 16 ∧ 0 ≤ j ∧ j ≤ 16 := decide_eq_true_iff
theorem tp_g_f {i j : Int} : tp_g i j = false ↔ ¬ (0 ≤ i ∧ i ≤ 16 ∧ 0 ≤ j ∧ j ≤ 16) := decide_eq_false_iff_not
theorem tp_lt0 {x : Int32} : x < 0 ↔ x.toInt < 0 := by
  rw [Int32.lt_iff_toInt_lt, show (0 : Int32).toInt = 0 from rfl]
theorem tp_leL {x : Int32} {n : Nat} (h : n < 2 ^ 31) : nI n ≤ x ↔ (n : Int) ≤ x.toInt := by
  rw [Int32.le_iff_toInt_le, nI_toInt h]
theorem tp_ltL {x : Int32} {n : Nat} (h : n < 2 ^ 31) : nI n < x ↔ (n : Int) < x.toInt := by
  rw [Int32.lt_iff_toInt_lt, nI_toInt h]
theorem tp_leR {x : Int32} {n : Nat} (h : n < 2 ^ 31) : x ≤ nI n ↔ x.toInt ≤ (n : Int) := by
  rw [Int32.le_iff_toInt_le, nI_toInt h]
/-- a number in a range or not -/
theorem tp_rg (x : Int32) (n : Nat) (hn : n < 2 ^ 31) : (∃ j : Nat, j < n ∧ x = nI j) ∨ (x < 0 ∨ nI n ≤ x) := by
  rcases pk_ix x hn with h | h | h
  · exact Or.inr (Or.inl h)
  · exact Or.inr (Or.inr h)
  · exact Or.inl h
theorem tx_grid {post : Int32 → Prop} {x y : Int32} (h : post (tp_b (tp_g x.toInt y.toInt))) : wpX_isOnGrid post x y := by
  have a1 := @tp_lt0 x
  have a2 := @tp_leL x 17 (by decide)
  have a3 := @tp_lt0 y
  have a4 := @tp_leL y 17 (by decide)
  refine br_c (fun a => tp_p0 h ?_) (fun a => br_c (fun b => tp_p0 h ?_) (fun b => br_c (fun c => tp_p0 h ?_) (fun c => br_c (fun d => tp_p0 h ?_) (fun d => tp_p1 h ?_))))
  · rw [a1] at a
    rw [tp_g_f]
    omega
  · have b := a2.mp b
    rw [tp_g_f]
    omega
  · rw [a3] at c
    rw [tp_g_f]
    omega
  · have d := a4.mp d
    rw [tp_g_f]
    omega
  · rw [a1] at a
    rw [a3] at c
    have b : ¬ ((17 : Nat) : Int) ≤ x.toInt := fun z => b (a2.mpr z)
    have d : ¬ ((17 : Nat) : Int) ≤ y.toInt := fun z => d (a4.mpr z)
    rw [tp_g_t]
    omega
theorem tx_cm {post : Int32 → Prop} {f : Int32} {K S M P T U Q : Nat → Int32} {m : Nat → Bool} (hM : ∀ x, M x = tp_b (m x)) {s : Nat} (hs : s < 12) {x y : Int32} (h : post (tp_b (tp_hs (tp_sl m s) x.toInt y.toInt))) : wpX_countMember post (f, K, S, M, P, T, U, Q) (nI s) x y := by
  unfold wpX_countMember
  dsimp only
  refine tx_grid ?_
  refine tp_br (fun g => ?_) (fun g => ?_)
  · exact tp_p0 h (tp_hs_out _ (tp_g_f.mp g))
  · have g := tp_g_t.mp g
    obtain ⟨i, hi, rfl⟩ := tp_nat (n := 16) g.1 (by omega)
    obtain ⟨j, hj, rfl⟩ := tp_nat (n := 16) g.2.2.1 (by omega)
    rw [tp_0i (by omega), tp_0i (by omega), tp_hs_in _ hi hj] at h
    rw [tp_ix2, nI_clamp (by omega), hM]
    exact ⟨vp_in_nI (by omega) (by decide), tp_br (fun e => tp_p0 h e) (fun e => tp_p1 h e)⟩
theorem tx_dim {post : Int32 → Prop} {i j : Nat} (hi : i < 2 ^ 31) (hj : j < 2 ^ 31) (h : post (nI (i % 2 + j % 2))) : wpX_dimension post (nI i) (nI j) := by
  unfold wpX_dimension
  rw [tp_a1 hi, tp_a1 hj, nI_add]
  exact h
def tp_p3 (n : Nat) : Nat := if n = 0 then 2 else if n = 4 then 0 else 1
theorem tx_fpa62 {post : Int32 → Prop} {f : Int32} {K S M P T U Q : Nat → Int32} {m : Nat → Bool} (hM : ∀ x, M x = tp_b (m x)) {s : Nat} (hs : s < 12) {x4 x5 x6 x7 : Int32} {l r b t : Int} (hl : x4.toInt = l) (hr : x5.toInt = r) (hb : x6.toInt = b) (ht : x7.toInt = t)
    (h : post (nI (tp_p3 ((tp_hs (tp_sl m s) l b).toNat + (tp_hs (tp_sl m s) l t).toNat + (tp_hs (tp_sl m s) r b).toNat + (tp_hs (tp_sl m s) r t).toNat)))) : wX_findPlaceInArea_62 post (nI s) x4 x5 x6 x7 f K S M P T U Q := by
  subst hl hr hb ht
  unfold wX_findPlaceInArea_62
  refine tx_cm hM hs ?_
  refine tx_cm hM hs ?_
  refine tx_cm hM hs ?_
  refine tx_cm hM hs ?_
  refine nm_r (tp_b4 _ _ _ _) ?_
  generalize hn : (tp_hs (tp_sl m s) x4.toInt x6.toInt).toNat + (tp_hs (tp_sl m s) x4.toInt x7.toInt).toNat + (tp_hs (tp_sl m s) x5.toInt x6.toInt).toNat + (tp_hs (tp_sl m s) x5.toInt x7.toInt).toNat = n at h ⊢
  have hn4 : n ≤ 4 := by
    rw [← hn]
    exact tp_b4l _ _ _ _
  unfold tp_p3 at h
  refine pk_eq n 0 (fun e => ?_) (fun e => pk_eq n 4 (fun e2 => ?_) (fun e2 => ?_))
  · rw [if_pos e] at h
    exact h
  · rw [if_neg e, if_pos e2] at h
    exact h
  · rw [if_neg e, if_neg e2] at h
    exact h
theorem tp_L1 {i : Nat} (hi : i < 2 ^ 30) (e : i % 2 = 1) : (nI i).toInt = (if i % 2 = 1 then (i : Int) else i - 1) := by
  rw [if_pos e, tp_0i hi]
theorem tp_L0 {i : Nat} (hi : i < 2 ^ 30) (e : ¬ i % 2 = 1) : (nI i - 1).toInt = (if i % 2 = 1 then (i : Int) else i - 1) := by
  rw [if_neg e, tp_m1 hi]
theorem tp_R1 {i : Nat} (hi : i < 2 ^ 30) (e : i % 2 = 1) : (nI i).toInt = (if i % 2 = 1 then (i : Int) else i + 1) := by
  rw [if_pos e, tp_0i hi]
theorem tp_R0 {i : Nat} (hi : i < 2 ^ 30) (e : ¬ i % 2 = 1) : (nI i + 1).toInt = (if i % 2 = 1 then (i : Int) else i + 1) := by
  rw [if_neg e, tp_q1 hi]
theorem tx_fpa {post : Int32 → Prop} {f : Int32} {K S M P T U Q : Nat → Int32} {m : Nat → Bool} (hM : ∀ x, M x = tp_b (m x)) {s i j : Nat} (hs : s < 12) (hi : i ≤ 16) (hj : j ≤ 16) (h : post (nI (tp_p3 (tp_ar (tp_sl m s) i j)))) : wpX_findPlaceInArea post (f, K, S, M, P, T, U, Q) (nI s) (nI i) (nI j) := by
  have hi' : i < 2 ^ 30 := by omega
  have hj' : j < 2 ^ 30 := by omega
  have hi2 : i < 2 ^ 31 := by omega
  have hj2 : j < 2 ^ 31 := by omega
  refine tp_bo hi2 (fun a => tp_bo hi2 (fun _ => tp_bo hj2 (fun b => tp_bo hj2 (fun _ => ?_) (fun z => absurd b z)) (fun b => tp_bo hj2 (fun z => absurd z b) (fun _ => ?_))) (fun z => absurd a z)) (fun a => tp_bo hi2 (fun z => absurd z a) (fun _ => tp_bo hj2 (fun b => tp_bo hj2 (fun _ => ?_) (fun z => absurd b z)) (fun b => tp_bo hj2 (fun z => absurd z b) (fun _ => ?_))))
  · exact tx_fpa62 hM hs (tp_L1 hi' a) (tp_R1 hi' a) (tp_L1 hj' b) (tp_R1 hj' b) h
  · exact tx_fpa62 hM hs (tp_L1 hi' a) (tp_R1 hi' a) (tp_L0 hj' b) (tp_R0 hj' b) h
  · exact tx_fpa62 hM hs (tp_L0 hi' a) (tp_R0 hi' a) (tp_L1 hj' b) (tp_R1 hj' b) h
  · exact tx_fpa62 hM hs (tp_L0 hi' a) (tp_R0 hi' a) (tp_L0 hj' b) (tp_R0 hj' b) h
theorem tx_fvl {post : Int32 → Prop} {f : Int32} {K S M P T U Q : Nat → Int32} {m : Nat → Bool} (hM : ∀ x, M x = tp_b (m x)) {s i j : Nat} (hs : s < 12) (hi : i ≤ 16) (hj : j ≤ 16) (h : post (nI (if tp_bs (tp_sl m s) i j = 0 then 2 else if tp_bs (tp_sl m s) i j % 2 = 0 then 0 else 1))) : wpX_findVertexPlaceInLine post (f, K, S, M, P, T, U, Q) (nI s) (nI i) (nI j) := by
  unfold wpX_findVertexPlaceInLine
  dsimp only
  refine tx_cm hM hs ?_
  refine tx_cm hM hs ?_
  refine tx_cm hM hs ?_
  refine tx_cm hM hs ?_
  refine nm_r (tp_b4 _ _ _ _) ?_
  have hi' : i < 2 ^ 30 := by omega
  have hj' : j < 2 ^ 30 := by omega
  rw [tp_m1 hi', tp_q1 hi', tp_m1 hj', tp_q1 hj', tp_0i hi', tp_0i hj']
  have hn4 : tp_bs (tp_sl m s) i j ≤ 4 := tp_b4l _ _ _ _
  show (nI (tp_bs (tp_sl m s) i j) = 0 → post 2) ∧ (¬ nI (tp_bs (tp_sl m s) i j) = 0 → (((nI (tp_bs (tp_sl m s) i j) &&& 1) = 0 → post 0) ∧ (¬ (nI (tp_bs (tp_sl m s) i j) &&& 1) = 0 → post 1)))
  generalize tp_bs (tp_sl m s) i j = n at *
  rw [tp_a1 (by omega)]
  refine pk_eq n 0 (fun e => ?_) (fun e => pk_eq (n % 2) 0 (fun e2 => ?_) (fun e2 => ?_))
  · rw [if_pos e] at h
    exact h
  · rw [if_neg e, if_pos e2] at h
    exact h
  · rw [if_neg e, if_neg e2] at h
    exact h
theorem tx_fp44 {post : Int32 → Prop} {f : Int32} {K S M P T U Q : Nat → Int32} {m : Nat → Bool} (hM : ∀ x, M x = tp_b (m x)) {s i j : Nat} (hs : s < 12) (hi : i ≤ 16) (hj : j ≤ 16) (h : post (nI (if tp_hs (tp_sl m s) i j = true then 0 else 2))) : wX_findPlace_44 post (nI s) (nI i) (nI j) f K S M P T U Q := by
  unfold wX_findPlace_44
  refine tx_cm hM hs ?_
  rw [tp_0i (by omega), tp_0i (by omega)]
  cases e : tp_hs (tp_sl m s) i j with
  | false =>
    rw [e] at h
    exact br_f (by decide) h
  | true =>
    rw [e] at h
    exact br_t rfl h
theorem tx_fp {post : Int32 → Prop} {f : Int32} {K S M P T U Q : Nat → Int32} {k : Nat → Nat} {m : Nat → Bool} (hK : ∀ x, K x = nI (k x)) (hM : ∀ x, M x = tp_b (m x)) {s i j : Nat} (hs : s < 12) (hi : i ≤ 16) (hj : j ≤ 16) (hk : k s ≤ 3) (h : post (nI (tp_px (k s) (tp_sl m s) i j))) : wpX_findPlace post (f, K, S, M, P, T, U, Q) (nI s) (nI i) (nI j) := by
  have hi9 : vp_in (nI s) 12 := vp_in_nI hs (by decide)
  unfold tp_px at h
  unfold wpX_findPlace
  dsimp only
  rw [nI_clamp (by omega), hK s]
  refine ⟨hi9, pk_eq (k s) 3 (fun e => ?_) (fun e => ⟨hi9, pk_eq (k s) 2 (fun e2 => ?_) (fun e2 => ?_)⟩)⟩
  · rw [if_pos e] at h
    exact tx_fpa hM hs hi hj h
  · rw [if_neg e] at h
    refine tx_dim (by omega) (by omega) (pk_eq (i % 2 + j % 2) 0 (fun e3 => ?_) (fun e3 => ?_))
    · rw [if_pos ⟨e2, e3⟩] at h
      exact tx_fvl hM hs hi hj h
    · rw [if_neg (fun z => e3 z.2)] at h
      exact tx_fp44 hM hs hi hj h
  · rw [if_neg e, if_neg (fun z => e2 z.1)] at h
    exact tx_fp44 hM hs hi hj h
theorem tx_st73 {post : SX → Prop} {f : Int32} {K S M P T U Q P0 : Nat → Int32} {k : Nat → Nat} {m : Nat → Bool} (hK : ∀ x, K x = nI (k x)) (hM : ∀ x, M x = tp_b (m x)) {s i : Nat} (hs : s < 12) (hi : i < 17) (hk : k s ≤ 3) {J : Int32 → (Nat → Int32) → (Nat → Int32) → (Nat → Int32) → (Nat → Int32) → (Nat → Int32) → (Nat → Int32) → (Nat → Int32) → Prop}
    (h1 : ∀ c, c < 17 * i → P (289 * s + c) = nI (tp_px (k s) (tp_sl m s) (c / 17) (c % 17))) (h2 : ∀ x, (x < 289 * s ∨ 289 * s + 289 ≤ x) → P x = P0 x)
    (h : ∀ P', (∀ c, c < 17 * (i + 1) → P' (289 * s + c) = nI (tp_px (k s) (tp_sl m s) (c / 17) (c % 17))) → (∀ x, (x < 289 * s ∨ 289 * s + 289 ≤ x) → P' x = P0 x) → J (nI (i + 1)) K S M P' T U Q) :
    ∃ n, wX_settle_73 post J (nI s) (nI i) f n 0 K S M P T U Q := by
  refine loop_0 (fun n j p => wX_settle_73 post J (nI s) (nI i) f n (nI j) K S M p T U Q) (fun j p => (∀ c, c < 17 * i + j → p (289 * s + c) = nI (tp_px (k s) (tp_sl m s) (c / 17) (c % 17))) ∧ (∀ x, (x < 289 * s ∨ 289 * s + 289 ≤ x) → p x = P0 x)) 17 P ⟨h1, h2⟩ ?_ ?_
  · intro n p hp
    exact br_t (tp_rfl 17) (nm_r (nI_1 i) (h p hp.1 hp.2))
  · intro n j p hj hp ih
    refine br_f (nI_ge (b := 17) hj (by decide)) (tx_fp hK hM hs (by omega) (by omega) hk ?_)
    rw [tp_ix2, nI_clamp (by omega)]
    refine ⟨vp_in_nI (by omega) (by decide), nm_e (nm_r (nI_1 j) (ih _ ⟨fun c hc => ?_, fun x hx => ?_⟩))⟩
    · by_cases e : c = 17 * i + j
      · subst e
        rw [pk_us, show (17 * i + j) / 17 = i from by omega, show (17 * i + j) % 17 = j from by omega]
      · rw [pk_un (by omega)]
        exact hp.1 c (by omega)
    · rw [pk_un (by omega)]
      exact hp.2 x hx
theorem tx_st63 {post : SX → Prop} {f : Int32} {K S M P T U Q : Nat → Int32} {k : Nat → Nat} {m : Nat → Bool} (hK : ∀ x, K x = nI (k x)) (hM : ∀ x, M x = tp_b (m x)) {s : Nat} (hs : s < 12) (hk : k s ≤ 3)
    (h : ∀ P', (∀ c, c < 289 → P' (289 * s + c) = nI (tp_px (k s) (tp_sl m s) (c / 17) (c % 17))) → (∀ x, (x < 289 * s ∨ 289 * s + 289 ≤ x) → P' x = P x) → post (f, K, S, M, P', T, U, Q)) :
    ∃ n, wX_settle_63 post (nI s) f n 0 K S M P T U Q := by
  refine loop_0 (fun n i p => wX_settle_63 post (nI s) f n (nI i) K S M p T U Q) (fun i p => (∀ c, c < 17 * i → p (289 * s + c) = nI (tp_px (k s) (tp_sl m s) (c / 17) (c % 17))) ∧ (∀ x, (x < 289 * s ∨ 289 * s + 289 ≤ x) → p x = P x)) 17 P ⟨fun c hc => absurd hc (by omega), fun x _ => rfl⟩ ?_ ?_
  · intro n p hp
    exact br_t (tp_rfl 17) (h p hp.1 hp.2)
  · intro n i p hi hp ih
    exact br_f (nI_ge (b := 17) hi (by decide)) (tx_st73 hK hM hs hi hk hp.1 hp.2 (fun p' a b => ih p' ⟨a, b⟩))
/-- settle: the slot's kind, size and parts anew -/
theorem tx_settle {post : SX → Prop} {f : Int32} {K S M P T U Q : Nat → Int32} {k : Nat → Nat} {m : Nat → Bool} (hK : ∀ x, K x = nI (k x)) (hM : ∀ x, M x = tp_b (m x)) {s q : Nat} (hs : s < 12) (hq : q ≤ 3)
    (h : ∀ K' P', (∀ x, K' x = nI (tp_v k s (if tp_cnt (tp_sl m s) 289 = 0 then 0 else q) x)) → (∀ c, c < 289 → P' (289 * s + c) = nI (tp_px (if tp_cnt (tp_sl m s) 289 = 0 then 0 else q) (tp_sl m s) (c / 17) (c % 17))) → (∀ x, (x < 289 * s ∨ 289 * s + 289 ≤ x) → P' x = P x) → post (f, K', upd S s (nI (tp_cnt (tp_sl m s) 289)), M, P', T, U, Q)) :
    wpX_settle post (f, K, S, M, P, T, U, Q) (nI s) (nI q) := by
  have hi9 : vp_in (nI s) 12 := vp_in_nI hs (by decide)
  refine loop_0 (fun n c (x : Nat) => wX_settle_5 post (nI s) (nI q) f K S M P T U Q n (nI x) (nI c)) (fun c x => x = tp_cnt (tp_sl m s) c) 289 0 rfl ?_ ?_
  · intro n x hx
    refine br_t (tp_rfl 289) ⟨hi9, nm_r (congrArg (fun z => upd S z (nI x)) (nI_clamp (by omega))) ?_⟩
    have hl := tp_cnt_le (tp_sl m s) 289
    subst hx
    refine pk_eq (tp_cnt (tp_sl m s) 289) 0 (fun e => ?_) (fun e => ?_)
    · rw [if_pos e] at h
      refine ⟨hi9, nm_r (congrArg (fun z => upd K z 0) (nI_clamp (by omega))) ?_⟩
      refine tx_st63 (k := tp_v k s 0) (fun x => tp_uK hK s 0 x) hM hs (by rw [tp_v_s]; omega) (fun P' a b => h _ P' (fun x => tp_uK hK s 0 x) (fun c hc => ?_) b)
      have := a c hc
      rw [tp_v_s] at this
      exact this
    · rw [if_neg e] at h
      refine ⟨hi9, nm_r (congrArg (fun z => upd K z (nI q)) (nI_clamp (by omega))) ?_⟩
      refine tx_st63 (k := tp_v k s q) (fun x => tp_uK hK s q x) hM hs (by rw [tp_v_s]; exact hq) (fun P' a b => h _ P' (fun x => tp_uK hK s q x) (fun c hc => ?_) b)
      have := a c hc
      rw [tp_v_s] at this
      exact this
  · intro n c x hc hx ih
    refine br_f (nI_ge (b := 289) hc (by decide)) ?_
    rw [tp_ix1, nI_clamp (by omega), hM]
    refine ⟨vp_in_nI (by omega) (by decide), tp_br (fun e => nm_r (nI_1 c) (ih x ?_)) (fun e => nm_r (nI_1 x) (nm_r (nI_1 c) (ih (x + 1) ?_)))⟩
    · rw [hx, tp_cnt, if_neg]
      exact fun z => by
        have : m (289 * s + c) = true := z
        rw [e] at this
        exact nomatch this
    · rw [hx, tp_cnt, if_pos]
      exact e
