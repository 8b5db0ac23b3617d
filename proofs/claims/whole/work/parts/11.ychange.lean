section
variable {K M H A B p q : Nat → Int32}
theorem ty_empty {post : SY → Prop} {k : Nat → Nat} {m : Nat → Bool} (hK : ∀ x, K x = nI (k x)) (hM : ∀ x, M x = tp_b (m x)) {s : Nat} (hs : s < 12) (h : ∀ v, tp_Y (tp_v k s 0) (tp_w m s (fun _ => false) 289) v → post v) : wpY_empty post (K, M, H, A, B, p, q) (nI s) := by
  refine ⟨vp_in_nI hs (by decide), nm_r (congrArg (fun z => upd K z 0) (nI_clamp (by omega))) ?_⟩
  refine loop_0 (fun n c M => wY_empty_9 post (nI s) n (nI c) (upd K s 0) M H A B p q) (fun c M => ∀ x, M x = tp_b (tp_w m s (fun _ => false) c x)) 289 M (fun x => by rw [tp_w_0]; exact hM x) ?_ ?_
  · intro n M' hM'
    exact br_t (tp_rfl 289) (h _ ⟨fun x => tp_uK hK s 0 x, hM'⟩)
  · intro n c M' hc hM' ih
    refine br_f (nI_ge (b := 289) hc (by decide)) ?_
    rw [tp_iy1, nI_clamp (by omega), tp_nar0]
    exact ⟨vp_in_nI (by omega) (by decide), nm_e (nm_r (nI_1 c) (ih _ (tp_wu hM' rfl)))⟩
theorem tp_pc {b : Nat} {A B : Prop} (hb : b < 2 ^ 31) (f : b = 0 → A) (g : b ≠ 0 → B) : (nI b = 0 → A) ∧ (¬ nI b = 0 → B) := pk_eq b 0 f g rfl rfl hb (by decide)
theorem ty_settle {post : Int32 → SY → Prop} {k : Nat → Nat} {m : Nat → Bool} (hK : ∀ x, K x = nI (k x)) {s : Nat} {g : Nat → Bool} (hM : ∀ x, M x = tp_b (tp_w m s g 289 x)) (hs : s < 12) (h : ∀ K', (∀ x, K' x = nI (tp_v k s (if tp_cnt g 289 = 0 then 0 else k s) x)) → post (nI (tp_cnt g 289)) (K', M, H, A, B, p, q)) : wpY_settle post (K, M, H, A, B, p, q) (nI s) := by
  have e : tp_cnt (tp_sl (tp_w m s g 289) s) 289 = tp_cnt g 289 := tp_cnt_congr 289 (tp_sl_w m s g)
  have hl := tp_cnt_le g 289
  refine ty_count hM hs ?_
  rw [e]
  refine tp_pc (by omega) (fun z => ⟨vp_in_nI hs (by decide), nm_r (congrArg (fun z => upd K z 0) (nI_clamp (by omega))) ?_⟩) (fun z => ?_)
  · refine h _ (fun x => ?_)
    rw [if_pos z]
    exact tp_uK hK s 0 x
  · refine h _ (fun x => ?_)
    rw [if_neg z, tp_v_i]
    exact hK x
theorem ty_cells {post : SY → Prop} {m : Nat → Bool} (hM : ∀ x, M x = tp_b (m x)) {s f t : Nat} (hs : s < 12) (hf : f < 81) (ht : t < 81) {b : Bool} (h : ∀ M', (∀ x, M' x = tp_b (tp_w m s (tp_mk (tp_sl m s) 3 f t b) 289 x)) → post (K, M', H, A, B, p, q)) : wpY_setCells post (K, M, H, A, B, p, q) (nI s) (nI f) (nI t) (tp_b b) := by
  refine loop_0 (fun n c M => wY_setCells_3 post (nI s) (nI f) (nI t) (tp_b b) n (nI c) K M H A B p q) (fun c M => ∀ x, M x = tp_b (tp_w m s (tp_mk (tp_sl m s) 3 f t b) c x)) 289 M (fun x => by rw [tp_w_0]; exact hM x) ?_ ?_
  · intro n M' hM'
    exact br_t (tp_rfl 289) (h _ hM')
  · intro n c M' hc hM' ih
    have no : ¬ (tp_bx f t (c / 17) (c % 17) = true ∧ tp_dm c + 1 = 3) → ∀ x, M' x = tp_b (tp_w m s (tp_mk (tp_sl m s) 3 f t b) (c + 1) x) := by
      intro hn
      refine tp_wk hM' ?_
      unfold tp_mk
      rw [if_neg hn]
      rfl
    refine br_f (nI_ge (b := 289) hc (by decide)) ?_
    rw [tp_r17 (by omega), tp_d17 (by omega), tp_r2 (by omega), tp_r2 (by omega), tp_iy1, nI_clamp (by omega), tp_nar]
    refine ⟨tp_17, tp_2, pk_eq (c / 17 % 2) 1 (fun e1 => ⟨tp_17, tp_2, pk_eq (c % 17 % 2) 1 (fun e2 => ⟨tp_17, tp_17, ty_btw (by omega) (by omega) hf ht (tp_br (fun e => ?_) (fun e => ?_))⟩) (fun e2 => ?_)⟩) (fun e1 => ?_)⟩
    · exact nm_r (nI_1 c) (ih _ (no (fun z => by rw [e] at z; exact nomatch z.1)))
    · refine ⟨vp_in_nI (by omega) (by decide), nm_e (nm_r (nI_1 c) (ih _ (tp_wu hM' ?_)))⟩
      unfold tp_mk
      rw [if_pos ⟨e, by unfold tp_dm; omega⟩]
    · exact nm_r (nI_1 c) (ih _ (no (fun z => by have := z.2; unfold tp_dm at this; omega)))
    · exact nm_r (nI_1 c) (ih _ (no (fun z => by have := z.2; unfold tp_dm at this; omega)))
theorem ty_line91 {post : Int32 → SY → Prop} {m : Nat → Bool} (hM : ∀ x, M x = tp_b (m x)) {s f t : Nat} (hs : s < 12) (hf : f < 81) (ht : t < 81) (h : ∀ M', (∀ x, M' x = tp_b (tp_w m s (tp_mk (tp_sl m s) 2 f t true) 289 x)) → post (nI (tp_cnt (tp_mk (tp_sl m s) 2 f t true) 289)) (K, M', H, A, B, p, q)) : ∃ n, wY_line_91 post (nI s) (nI f) (nI t) n 0 K M H A B p q := by
  refine loop_0 (fun n c M => wY_line_91 post (nI s) (nI f) (nI t) n (nI c) K M H A B p q) (fun c M => ∀ x, M x = tp_b (tp_w m s (tp_mk (tp_sl m s) 2 f t true) c x)) 289 M (fun x => by rw [tp_w_0]; exact hM x) ?_ ?_
  · intro n M' hM'
    refine br_t (tp_rfl 289) (ty_count hM' hs ?_)
    rw [tp_cnt_congr 289 (tp_sl_w m s (tp_mk (tp_sl m s) 2 f t true))]
    exact h _ hM'
  · intro n c M' hc hM' ih
    have no : ¬ (tp_bx f t (c / 17) (c % 17) = true ∧ tp_dm c + 1 = 2) → ∀ x, M' x = tp_b (tp_w m s (tp_mk (tp_sl m s) 2 f t true) (c + 1) x) := by
      intro hn
      refine tp_wk hM' ?_
      unfold tp_mk
      rw [if_neg hn]
      rfl
    refine br_f (nI_ge (b := 289) hc (by decide)) ?_
    rw [tp_r17 (by omega), tp_d17 (by omega), nI_add, tp_r2 (by omega), tp_iy1, nI_clamp (by omega), tp_nar1]
    refine ⟨tp_17, tp_17, tp_2, pk_eq ((c / 17 + c % 17) % 2) 1 (fun e1 => ⟨tp_17, tp_17, ty_btw (by omega) (by omega) hf ht (tp_br (fun e => ?_) (fun e => ?_))⟩) (fun e1 => ?_)⟩
    · exact nm_r (nI_1 c) (ih _ (no (fun z => by rw [e] at z; exact nomatch z.1)))
    · refine ⟨vp_in_nI (by omega) (by decide), nm_e (nm_r (nI_1 c) (ih _ (tp_wu hM' ?_)))⟩
      unfold tp_mk
      rw [if_pos ⟨e, by unfold tp_dm; omega⟩]
    · exact nm_r (nI_1 c) (ih _ (no (fun z => by have := z.2; unfold tp_dm at this; omega)))
end
/-- combining two sets -/
def tp_op2 (a b : Bool) (how : Nat) : Bool := if how = 0 then a || b else if how = 1 then a && b else if how = 2 then a && !b else a != b
theorem tx_chosen {post : Int32 → Prop} {a b : Bool} {w : Nat} (hw : w ≤ 3) (h : post (tp_b (tp_op2 a b w))) : wpX_isChosen post (tp_b a) (tp_b b) (nI w) := by
  have : w = 0 ∨ w = 1 ∨ w = 2 ∨ w = 3 := by omega
  rcases this with rfl | rfl | rfl | rfl <;> cases a <;> cases b
  all_goals first
    | exact br_t rfl (br_t rfl (br_t rfl h))
    | exact br_t rfl (br_t rfl (br_f (by decide) h))
    | exact br_t rfl (br_f (by decide) h)
    | exact br_f (by decide) (br_t rfl (br_t rfl h))
    | exact br_f (by decide) (br_t rfl (br_f (by decide) (br_t rfl h)))
    | exact br_f (by decide) (br_t rfl (br_f (by decide) (br_f (by decide) h)))
    | exact br_f (by decide) (br_f (by decide) (br_t rfl (br_t rfl h)))
    | exact br_f (by decide) (br_f (by decide) (br_t rfl (br_f (by decide) (br_t rfl h))))
    | exact br_f (by decide) (br_f (by decide) (br_t rfl (br_f (by decide) (br_f (by decide) h))))
    | exact br_f (by decide) (br_f (by decide) (br_f (by decide) (br_t rfl h)))
    | exact br_f (by decide) (br_f (by decide) (br_f (by decide) (br_f (by decide) h)))
theorem ty_combined {post : Int32 → Prop} {K M H A B p q : Nat → Int32} {a b : Bool} {w : Nat} (hw : w ≤ 3) (h : post (tp_b (tp_op2 a b w))) : wpY_combined post (K, M, H, A, B, p, q) (tp_b a) (tp_b b) (nI w) := tx_chosen hw h
theorem ty_comb72 {post : Int32 → SY → Prop} {K M H A B p q : Nat → Int32} {k : Nat → Nat} {m : Nat → Bool} (hK : ∀ x, K x = nI (k x)) (hM : ∀ x, M x = tp_b (m x)) {s t w : Nat} (hs : s < 12) (ht : t < 12) (hw : w ≤ 3) {g : Nat → Bool} (hg : g = fun c => tp_op2 (m (289 * s + c)) (m (289 * t + c)) w) (h : ∀ v, tp_Y (tp_v k s (if tp_cnt g 289 = 0 then 0 else k s)) (tp_w m s g 289) v → post (nI (tp_cnt g 289)) v) : ∃ n, wY_combine_72 post (nI s) (nI t) (nI w) n 0 K M H A B p q := by
  refine loop_0 (fun n c M => wY_combine_72 post (nI s) (nI t) (nI w) n (nI c) K M H A B p q) (fun c M => ∀ x, M x = tp_b (tp_w m s g c x)) 289 M (fun x => by rw [tp_w_0]; exact hM x) ?_ ?_
  · intro n M' hM'
    exact br_t (tp_rfl 289) (ty_settle hK hM' hs (fun K' hK' => h _ ⟨hK', hM'⟩))
  · intro n c M' hc hM' ih
    refine br_f (nI_ge (b := 289) hc (by decide)) ?_
    have e1 : M' (289 * s + c) = tp_b (m (289 * s + c)) := by rw [hM', tp_w_ge m s g (Nat.le_refl c)]
    have e2 : M' (289 * t + c) = tp_b (m (289 * t + c)) := by
      by_cases e : t = s
      · subst e
        exact e1
      · rw [hM', tp_w_ne m s g e hc (by omega)]
    rw [tp_iy1, tp_iy1, nI_clamp (by omega), nI_clamp (by omega), e1, e2]
    refine ⟨vp_in_nI (by omega) (by decide), vp_in_nI (by omega) (by decide), ty_combined hw ⟨vp_in_nI (by omega) (by decide), ?_⟩⟩
    rw [tp_nar]
    exact nm_e (nm_r (nI_1 c) (ih _ (tp_wu hM' (by rw [hg]))))
theorem tx_comb49 {post : Int32 → SX → Prop} {f : Int32} {K S M P T U Q : Nat → Int32} {k : Nat → Nat} {m : Nat → Bool} (H : tp_Cr k m S P) (hK : ∀ x, K x = nI (k x)) (hM : ∀ x, M x = tp_b (m x)) {s t w : Nat} (hs : s < 12) (ht : t < 12) (hw : w ≤ 3) (hk : k s = k t) {g : Nat → Bool} (hg : g = fun c => tp_op2 (m (289 * s + c)) (m (289 * t + c)) w) (h : ∀ u, tp_X (tp_v k s (if tp_cnt g 289 = 0 then 0 else k s)) (tp_w m s g 289) u → post (nI (tp_cnt g 289)) u) : ∃ n, wX_combine_49 post (nI s) (nI t) (nI w) f n 0 K S M P T U Q := by
  have hi9 : vp_in (nI s) 12 := vp_in_nI hs (by decide)
  have hq := (H.1 s hs).1
  refine loop_0 (fun n c M => wX_combine_49 post (nI s) (nI t) (nI w) f n (nI c) K S M P T U Q) (fun c M => ∀ x, M x = tp_b (tp_w m s g c x)) 289 M (fun x => by rw [tp_w_0]; exact hM x) ?_ ?_
  · intro n M' hM'
    refine br_t (tp_rfl 289) ⟨hi9, ?_⟩
    rw [nI_clamp (by omega), hK s]
    refine tx_fin H hK hM' hs hq (fun c hc e => ?_) (fun f K S M P T U Q hu hS => ⟨hi9, ?_⟩)
    · have e1 := (H.1 s hs).2.1 c hc
      have e2 := (H.1 t ht).2.1 c hc
      rw [hg] at e
      unfold tp_op2 at e
      unfold tp_sl at e1 e2
      cases a : m (289 * s + c) with
      | true => exact e1 a
      | false =>
        cases b : m (289 * t + c) with
        | true =>
          rw [hk]
          exact e2 b
        | false =>
          simp [a, b] at e
    · rw [hS]
      exact h _ hu
  · intro n c M' hc hM' ih
    refine br_f (nI_ge (b := 289) hc (by decide)) ?_
    have e1 : M' (289 * s + c) = tp_b (m (289 * s + c)) := by rw [hM', tp_w_ge m s g (Nat.le_refl c)]
    have e2 : M' (289 * t + c) = tp_b (m (289 * t + c)) := by
      by_cases e : t = s
      · subst e
        exact e1
      · rw [hM', tp_w_ne m s g e hc (by omega)]
    rw [tp_ix1, tp_ix1, nI_clamp (by omega), nI_clamp (by omega)]
    refine ⟨vp_in_nI (by omega) (by decide), nm_r e1 ⟨vp_in_nI (by omega) (by decide), nm_r e2 (tx_chosen hw ⟨vp_in_nI (by omega) (by decide), ?_⟩)⟩⟩
    rw [tp_nar]
    exact nm_e (nm_r (nI_1 c) (ih _ (tp_wu hM' (by rw [hg]))))
