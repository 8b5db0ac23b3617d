def tp_X (k : Nat → Nat) (m : Nat → Bool) (u : SX) : Prop := match u with
  | (_, K, S, M, P, _, _, _) => (∀ x, K x = nI (k x)) ∧ (∀ x, M x = tp_b (m x)) ∧ tp_Cr k m S P
def tp_Y (k : Nat → Nat) (m : Nat → Bool) (v : SY) : Prop := match v with
  | (K, M, _, _, _, _, _) => (∀ x, K x = nI (k x)) ∧ (∀ x, M x = tp_b (m x))
theorem tp_wu {M : Nat → Int32} {m : Nat → Bool} {s c : Nat} {g : Nat → Bool} (hM : ∀ x, M x = tp_b (tp_w m s g c x)) {b : Bool} (hb : g c = b) : ∀ x, upd M (289 * s + c) (tp_b b) x = tp_b (tp_w m s g (c + 1) x) := by
  intro x
  rw [tp_uM hM, ← hb, tp_w_s]
theorem tp_wk {M : Nat → Int32} {m : Nat → Bool} {s c : Nat} {g : Nat → Bool} (hM : ∀ x, M x = tp_b (tp_w m s g c x)) (hb : g c = m (289 * s + c)) : ∀ x, M x = tp_b (tp_w m s g (c + 1) x) := by
  intro x
  rw [hM, tp_w_j m s g (i := c) (i' := c + 1) (by omega) (fun z h1 h2 => by rw [show z = c from by omega]; exact hb)]
/-- settle at the end of a change: slot s now holds g -/
theorem tx_fin {post : SX → Prop} {f : Int32} {K S M P T U Q : Nat → Int32} {k : Nat → Nat} {m : Nat → Bool} {s q : Nat} {g : Nat → Bool} (H : tp_Cr k m S P) (hK : ∀ x, K x = nI (k x)) (hM : ∀ x, M x = tp_b (tp_w m s g 289 x)) (hs : s < 12) (hq : q ≤ 3) (hg : ∀ c, c < 289 → g c = true → tp_dm c + 1 = q)
    (h : ∀ f K S M P T U Q, tp_X (tp_v k s (if tp_cnt g 289 = 0 then 0 else q)) (tp_w m s g 289) (f, K, S, M, P, T, U, Q) → S s = nI (tp_cnt g 289) → post (f, K, S, M, P, T, U, Q)) :
    wpX_settle post (f, K, S, M, P, T, U, Q) (nI s) (nI q) := by
  have e : tp_cnt (tp_sl (tp_w m s g 289) s) 289 = tp_cnt g 289 := tp_cnt_congr 289 (tp_sl_w m s g)
  refine tx_settle hK hM hs hq (fun K' P' a b o => ?_)
  rw [e] at a b ⊢
  refine h _ _ _ _ _ _ _ _ ⟨a, hM, tp_Cr_s H hs hq hg (fun c hc => ?_) (fun s' hs' hn c hc => o _ (by omega))⟩ pk_us
  rw [b c hc, tp_px_c _ (tp_sl_w m s g)]
theorem tx_great {post : Int32 → Prop} {a b : Nat} (ha : a < 2 ^ 31) (hb : b < 2 ^ 31) (h : post (nI (tp_mx a b))) : wpX_greater post (nI a) (nI b) := by
  unfold tp_mx at h
  refine pk_le a b (fun e => ?_) (fun e => ?_)
  · rw [if_neg (by omega)] at h
    exact h
  · rw [if_pos e] at h
    exact h
theorem tx_less {post : Int32 → Prop} {a b : Nat} (ha : a < 2 ^ 31) (hb : b < 2 ^ 31) (h : post (nI (tp_mn a b))) : wpX_lesser post (nI a) (nI b) := by
  unfold tp_mn at h
  refine pk_le b a (fun e => ?_) (fun e => ?_)
  · rw [if_neg (by omega)] at h
    exact h
  · rw [if_pos e] at h
    exact h
theorem tx_col {post : Int32 → Prop} {a : Nat} (ha : a < 2 ^ 31) (h : post (nI (a / 9))) : wpX_column post (nI a) := by
  unfold wpX_column
  rw [tp_d9 ha]
  exact ⟨tp_9, h⟩
theorem tx_row {post : Int32 → Prop} {a : Nat} (ha : a < 2 ^ 31) (h : post (nI (a % 9))) : wpX_row post (nI a) := by
  unfold wpX_row
  rw [tp_r9 ha]
  exact ⟨tp_9, h⟩
theorem tx_highI {post : Int32 → Prop} {f t : Nat} (hf : f < 81) (ht : t < 81) (h : post (nI (2 * tp_mx (f / 9) (t / 9)))) : wpX_highestI post (nI f) (nI t) := by
  have hm : tp_mx f t ≤ 80 := tp_mx_l (by omega) (by omega)
  unfold wpX_highestI
  refine tx_great (by omega) (by omega) ?_
  refine tx_col (by omega) ?_
  rw [tp_mx_d, tp_t2]
  exact h
theorem tx_lowI {post : Int32 → Prop} {f t : Nat} (hf : f < 81) (ht : t < 81) (h : post (nI (2 * tp_mn (f / 9) (t / 9)))) : wpX_lowestI post (nI f) (nI t) := by
  have hm : tp_mn f t ≤ 80 := tp_mn_l (by omega) (by omega)
  unfold wpX_lowestI
  refine tx_less (by omega) (by omega) ?_
  refine tx_col (by omega) ?_
  rw [tp_mn_d, tp_t2]
  exact h
theorem tx_highJ {post : Int32 → Prop} {f t : Nat} (hf : f < 81) (ht : t < 81) (h : post (nI (2 * tp_mx (f % 9) (t % 9)))) : wpX_highestJ post (nI f) (nI t) := by
  unfold wpX_highestJ
  refine tx_row (by omega) ?_
  refine tx_row (by omega) ?_
  refine tx_great (by omega) (by omega) ?_
  rw [tp_t2]
  exact h
theorem tx_lowJ {post : Int32 → Prop} {f t : Nat} (hf : f < 81) (ht : t < 81) (h : post (nI (2 * tp_mn (f % 9) (t % 9)))) : wpX_lowestJ post (nI f) (nI t) := by
  unfold wpX_lowestJ
  refine tx_row (by omega) ?_
  refine tx_row (by omega) ?_
  refine tx_less (by omega) (by omega) ?_
  rw [tp_t2]
  exact h
theorem tp_mk_o {g : Nat → Bool} {q f t : Nat} {b : Bool} {c : Nat} (h : ¬ (2 * tp_mn (f / 9) (t / 9) ≤ c / 17 ∧ c / 17 ≤ 2 * tp_mx (f / 9) (t / 9) ∧ 2 * tp_mn (f % 9) (t % 9) ≤ c % 17 ∧ c % 17 ≤ 2 * tp_mx (f % 9) (t % 9))) : tp_mk g q f t b c = g c := by
  unfold tp_mk
  rw [if_neg (fun z => h (tp_bx_t.mp z.1))]
theorem tp_mk_b {g : Nat → Bool} {q f t : Nat} {b : Bool} {i j : Nat} (hj : j ≤ 16) (h : 2 * tp_mn (f / 9) (t / 9) ≤ i ∧ i ≤ 2 * tp_mx (f / 9) (t / 9) ∧ 2 * tp_mn (f % 9) (t % 9) ≤ j ∧ j ≤ 2 * tp_mx (f % 9) (t % 9)) : tp_mk g q f t b (17 * i + j) = if i % 2 + j % 2 + 1 = q then b else g (17 * i + j) := by
  unfold tp_mk tp_dm
  rw [show (17 * i + j) / 17 = i from by omega, show (17 * i + j) % 17 = j from by omega]
  by_cases e : i % 2 + j % 2 + 1 = q
  · rw [if_pos e, if_pos ⟨tp_bx_t.mpr h, e⟩]
  · rw [if_neg e, if_neg (fun z => e z.2)]
theorem tx_mark {post : SX → Prop} {fl : Int32} {K S M P T U Q : Nat → Int32} {m : Nat → Bool} (hM : ∀ x, M x = tp_b (m x)) {s q f t : Nat} (hs : s < 12) (hq1 : 1 ≤ q) (hq : q ≤ 3) (hf : f < 81) (ht : t < 81) {b : Bool}
    (h : ∀ M', (∀ x, M' x = tp_b (tp_w m s (tp_mk (tp_sl m s) q f t b) 289 x)) → post (fl, K, S, M', P, T, U, Q)) : wpX_mark post (fl, K, S, M, P, T, U, Q) (nI s) (nI q) (nI f) (nI t) (tp_b b) := by
  unfold wpX_mark
  dsimp only
  refine tx_highI hf ht ?_
  refine tx_highJ hf ht ?_
  refine tx_lowI hf ht ?_
  have b1 : tp_mn (f / 9) (t / 9) ≤ tp_mx (f / 9) (t / 9) := by unfold tp_mn tp_mx; split <;> split <;> omega
  have b2 : tp_mx (f / 9) (t / 9) ≤ 8 := tp_mx_l (by omega) (by omega)
  have b3 : tp_mn (f % 9) (t % 9) ≤ tp_mx (f % 9) (t % 9) := by unfold tp_mn tp_mx; split <;> split <;> omega
  have b4 : tp_mx (f % 9) (t % 9) ≤ 8 := tp_mx_l (by omega) (by omega)
  refine pk_loop (fun n i M => wX_mark_24 post (nI s) (nI q) (nI f) (nI t) (tp_b b) (nI (2 * tp_mx (f / 9) (t / 9))) (nI (2 * tp_mx (f % 9) (t % 9))) fl n (nI i) K S M P T U Q) (fun i M => (2 * tp_mn (f / 9) (t / 9) ≤ i) ∧ ∀ x, M x = tp_b (tp_w m s (tp_mk (tp_sl m s) q f t b) (17 * i) x)) (2 * tp_mx (f / 9) (t / 9) + 1) (2 * tp_mn (f / 9) (t / 9)) M (by omega) ⟨Nat.le_refl _, fun x => ?_⟩ ?_ ?_
  · rw [tp_w_j m s (tp_mk (tp_sl m s) q f t b) (i := 0) (i' := 17 * (2 * tp_mn (f / 9) (t / 9))) (by omega) (fun c _ hc => tp_mk_o (by omega)), tp_w_0]
    exact hM x
  · rintro n M' ⟨_, hM'⟩
    refine br_t (nI_lt (by omega) (by omega)) (h M' (fun x => ?_))
    rw [hM', tp_w_j m s (tp_mk (tp_sl m s) q f t b) (i := 17 * (2 * tp_mx (f / 9) (t / 9) + 1)) (i' := 289) (by omega) (fun c hc _ => tp_mk_o (by omega))]
  · rintro n i M' hi ⟨hi0, hM'⟩ ih
    refine br_f (nI_nlt (by omega) (by omega)) (tx_lowJ hf ht ?_)
    refine pk_loop (fun n j M => wX_mark_39 post _ (nI s) (nI q) (nI f) (nI t) (tp_b b) (nI (2 * tp_mx (f / 9) (t / 9))) (nI (2 * tp_mx (f % 9) (t % 9))) (nI i) fl n (nI j) K S M P T U Q) (fun j M => (2 * tp_mn (f % 9) (t % 9) ≤ j) ∧ ∀ x, M x = tp_b (tp_w m s (tp_mk (tp_sl m s) q f t b) (17 * i + j) x)) (2 * tp_mx (f % 9) (t % 9) + 1) (2 * tp_mn (f % 9) (t % 9)) M' (by omega) ⟨Nat.le_refl _, fun x => ?_⟩ ?_ ?_
    · rw [hM', tp_w_j m s (tp_mk (tp_sl m s) q f t b) (i := 17 * i) (i' := 17 * i + 2 * tp_mn (f % 9) (t % 9)) (by omega) (fun c h1 h2 => tp_mk_o (by omega))]
    · rintro n M2 ⟨_, hM2⟩
      refine br_t (nI_lt (by omega) (by omega)) (nm_r (nI_1 i) (ih M2 ⟨by omega, fun x => ?_⟩))
      rw [hM2, tp_w_j m s (tp_mk (tp_sl m s) q f t b) (i := 17 * i + (2 * tp_mx (f % 9) (t % 9) + 1)) (i' := 17 * (i + 1)) (by omega) (fun c h1 h2 => tp_mk_o (by omega))]
    · rintro n j M2 hj ⟨hj0, hM2⟩ ih2
      refine br_f (nI_nlt (by omega) (by omega)) (tx_dim (by omega) (by omega) ?_)
      have hb := @tp_mk_b (tp_sl m s) q f t b i j (by omega) (by omega)
      rw [show nI q - 1 = nI (q - 1) from pk_sub (b := 1) hq1, tp_ix2, nI_clamp (by omega), tp_nar]
      refine pk_eq (i % 2 + j % 2) (q - 1) (fun e => ?_) (fun e => ?_)
      · rw [if_pos (by omega)] at hb
        exact ⟨vp_in_nI (by omega) (by decide), nm_e (nm_r (nI_1 j) (ih2 _ ⟨by omega, tp_wu hM2 hb⟩))⟩
      · rw [if_neg (by omega)] at hb
        exact nm_r (nI_1 j) (ih2 _ ⟨by omega, tp_wk hM2 hb⟩)
