theorem tp_16 {x : Int32} (h : ¬ 16 < x) (h0 : ¬ x < 0) : ∃ i : Nat, i ≤ 16 ∧ x = nI i := by
  have a1 : ¬ x.toInt < 0 := fun z => h0 (tp_lt0.mpr z)
  have a2 : ¬ ((16 : Nat) : Int) < x.toInt := fun z => h ((tp_ltL (x := x) (n := 16) (by decide)).mpr z)
  exact tp_nat (n := 16) (by omega) (by omega)
theorem i_vc_part {k : Nat} {u : SX} {v : SY} (I : i_Rel k u v) (hk : k + 4 ≤ 2048) (v1 : Int32) (v2 : Int32) (v3 : Int32) : wpX_part (fun r => wpY_part (fun r' => r' = r ∧ i_Rel (k + 4) u v) v v1 v2 v3) u v1 v2 v3 := by
  have R : i_Rel (k + 4) u v := I
  obtain ⟨kk, mm, hX, hY⟩ := I
  obtain ⟨f, K, S, M, P, T, U, Q⟩ := u
  obtain ⟨K2, M2, H, A, B, p, q⟩ := v
  obtain ⟨hK, hM, hC⟩ := hX
  obtain ⟨hK2, hM2⟩ := hY
  unfold wpX_part
  dsimp only
  rcases tp_rg v1 12 (by decide) with ⟨s, hs, rfl⟩ | hx
  · have h3 := (hC.1 s hs).1
    by_cases h0 : kk s = 0
    · refine tx_ras_2 hK hs h0 (br_f (by decide) ?_)
      unfold wpY_part
      dsimp only
      rw [nI_clamp (by omega), hK2 s, h0]
      exact ty_slot_y hs (br_f (by decide) ⟨tp_in12 hs, br_t rfl ⟨rfl, R⟩⟩)
    · refine tx_ras_0 hK hs h3 h0 (br_t rfl ?_)
      refine tx_grid ?_
      refine tp_br (fun g => ?_) (fun g => ?_)
      · have g := tp_g_f.mp g
        unfold wpY_part
        dsimp only
        rw [nI_clamp (by omega), hK2 s]
        refine ty_slot_y hs (br_f (by decide) ⟨tp_in12 hs, br_f (nI_ne0 (by omega) (by omega)) ?_⟩)
        refine br_c (fun _ => ⟨rfl, R⟩) (fun a => br_c (fun _ => ⟨rfl, R⟩) (fun b => br_c (fun _ => ⟨rfl, R⟩) (fun c => br_c (fun d => absurd ?_ g) (fun _ => ⟨rfl, R⟩))))
        have a1 : ¬ v2.toInt < 0 := fun z => a (tp_lt0.mpr z)
        have a2 : ¬ ((16 : Nat) : Int) < v2.toInt := fun z => b ((tp_ltL (x := v2) (n := 16) (by decide)).mpr z)
        have a3 : ¬ v3.toInt < 0 := fun z => c (tp_lt0.mpr z)
        have a4 := (tp_leR (x := v3) (n := 16) (by decide)).mp d
        omega
      · have g := tp_g_t.mp g
        obtain ⟨i, hi, rfl⟩ := tp_nat (n := 16) g.1 (by omega)
        obtain ⟨j, hj, rfl⟩ := tp_nat (n := 16) g.2.2.1 (by omega)
        rw [tp_ix2, nI_clamp (by omega)]
        refine ⟨vp_in_nI (by omega) (by decide), ?_⟩
        rw [hC.2.2 s hs (17 * i + j) (by omega), show (17 * i + j) / 17 = i from by omega, show (17 * i + j) % 17 = j from by omega]
        unfold wpY_part
        dsimp only
        rw [nI_clamp (by omega), hK2 s]
        refine ty_slot_y hs (br_f (by decide) ⟨tp_in12 hs, br_f (nI_ne0 (by omega) (by omega)) ?_⟩)
        refine br_f (nI_pos (by omega)) (br_f (nI_nlt (a := 16) hi (by decide)) (br_f (nI_pos (by omega)) (br_t (nI_le (b := 16) hj (by decide)) ?_)))
        exact ty_part hK2 hM2 hs h3 (by omega) (by omega) ⟨rfl, R⟩
  · refine tx_ras_1 hx (br_f (by decide) ?_)
    unfold wpY_part
    dsimp only
    exact ty_slot_n hx (br_t rfl ⟨rfl, R⟩)
theorem tx_inb {post : Int32 → Prop} {f : Int32} {K S M P T U Q : Nat → Int32} {k : Nat → Nat} {m : Nat → Bool} (hC : tp_Cr k m S P) {s i j : Nat} (hs : s < 12) (hi : i ≤ 16) (hj : j ≤ 16) (h : post (tp_b (decide (tp_pt (k s) (tp_sl m s) i j ≠ 2)))) : wpX_isInBody post (f, K, S, M, P, T, U, Q) (nI s) (nI i) (nI j) := by
  unfold wpX_isInBody
  dsimp only
  rw [tp_ix2, nI_clamp (by omega), hC.2.2 s hs (17 * i + j) (by omega), show (17 * i + j) / 17 = i from by omega, show (17 * i + j) % 17 = j from by omega]
  have h2 := tp_pt_le (k s) (tp_sl m s) i j
  exact ⟨vp_in_nI (by omega) (by decide), pk_eq (tp_pt (k s) (tp_sl m s) i j) 2 (fun e => tp_p0 h (decide_eq_false (fun z => z e))) (fun e => tp_p1 h (decide_eq_true e))⟩
theorem tx_hcb {post : Int32 → Prop} {f : Int32} {K S M P T U Q : Nat → Int32} {k : Nat → Nat} {m : Nat → Bool} (hC : tp_Cr k m S P) {s a b : Nat} (hs : s < 12) (hk : k s = 3) (ha : a + 2 ≤ 16) (hb : b + 2 ≤ 16) (h : post (tp_b (tp_cb (tp_sl m s) a b || tp_cb (tp_sl m s) a (b + 2) || tp_cb (tp_sl m s) (a + 2) b || tp_cb (tp_sl m s) (a + 2) (b + 2)))) : wpX_hasCornerInBody post (f, K, S, M, P, T, U, Q) (nI s) (nI (a + 1)) (nI (b + 1)) := by
  unfold wpX_hasCornerInBody
  dsimp only
  rw [nI_pred, nI_pred, nI_1, nI_1]
  have e : ∀ i j, decide (tp_pt (k s) (tp_sl m s) i j ≠ 2) = tp_cb (tp_sl m s) i j := fun i j => by rw [hk]; rfl
  refine tx_inb hC hs (by omega) (by omega) ?_
  rw [e]
  refine tp_br (fun e1 => ?_) (fun e1 => tp_p1 h (by rw [e1]; simp))
  refine tx_inb hC hs (by omega) (by omega) ?_
  rw [e]
  refine tp_br (fun e2 => ?_) (fun e2 => tp_p1 h (by rw [e2]; simp))
  refine tx_inb hC hs (by omega) (by omega) ?_
  rw [e]
  refine tp_br (fun e3 => ?_) (fun e3 => tp_p1 h (by rw [e3]; simp))
  refine tx_inb hC hs (by omega) (by omega) ?_
  rw [e]
  refine tp_br (fun e4 => ?_) (fun e4 => tp_p1 h (by rw [e4]; simp))
  exact tp_p0 h (by rw [e1, e2, e3, e4]; rfl)
theorem tp_pl2 (a : Nat) : nI (2 * a + 1) + 2 = nI (2 * (a + 1) + 1) := by
  rw [show (2 : Int32) = nI 2 from rfl, nI_add]
  exact congrArg nI (by omega)
/-- an area grown -/
def tp_gr (g : Nat → Bool) : Nat → Bool := fun c => g c || (decide (c / 17 % 2 = 1 ∧ c % 17 % 2 = 1) && tp_nf g (c / 17) (c % 17) 9)
def tp_gh (g : Nat → Bool) : Nat → Bool := fun c => decide (c / 17 % 2 = 1 ∧ c % 17 % 2 = 1) && tp_nf g (c / 17) (c % 17) 9
theorem tp_nf_s {g : Nat → Bool} {i j : Nat} (hi : i ≤ 16) (hj : j ≤ 16) (h : g (17 * i + j) = true) : tp_nf g i j 9 = true := by
  have h5 : tp_nf g i j 5 = true := by
    show (tp_nf g i j 4 || tp_hs g (((i + 2 * (4 / 3) : Nat) : Int) - 2) (((j + 2 * (4 % 3) : Nat) : Int) - 2)) = true
    rw [show (((i + 2 * (4 / 3) : Nat) : Int) - 2) = i from by omega, show (((j + 2 * (4 % 3) : Nat) : Int) - 2) = j from by omega, tp_hs_in g hi hj, h, Bool.or_true]
  show ((((tp_nf g i j 5 || _) || _) || _) || _) = true
  rw [h5]
  rfl
theorem tp_gr_gh {g : Nat → Bool} (H : tp_Ok 3 g) : ∀ c, c < 289 → tp_gr g c = tp_gh g c := by
  intro c hc
  unfold tp_gr tp_gh
  cases e : g c with
  | false => rw [Bool.false_or]
  | true =>
    have hd := H.2.1 c hc e
    unfold tp_dm at hd
    rw [decide_eq_true (by omega), tp_nf_s (by omega) (by omega) (by rw [show 17 * (c / 17) + c % 17 = c from by omega]; exact e)]
    rfl
theorem tx_grow14 {post : Int32 → SX → Prop} {f : Int32} {K S M P T U Q : Nat → Int32} {k : Nat → Nat} {m : Nat → Bool} (hC : tp_Cr k m S P) (hK : ∀ x, K x = nI (k x)) (hM : ∀ x, M x = tp_b (m x)) {s : Nat} (hs : s < 12) (hk : k s = 3) (h : ∀ u, tp_X k (tp_w m s (tp_gh (tp_sl m s)) 289) u → post (nI (tp_cnt (tp_gh (tp_sl m s)) 289)) u) : ∃ n, wX_grow_14 post (nI s) f n 1 K S M P T U Q := by
  have hO : tp_Ok 3 (tp_sl m s) := by
    have := hC.1 s hs
    rw [hk] at this
    exact this
  have no : ∀ c, ¬ (c / 17 % 2 = 1 ∧ c % 17 % 2 = 1) → tp_gr (tp_sl m s) c = m (289 * s + c) := by
    intro c hc
    unfold tp_gr
    rw [decide_eq_false hc, Bool.false_and, Bool.or_false]
    rfl
  refine loop_0 (fun n a M => wX_grow_14 post (nI s) f n (nI (2 * a + 1)) K S M P T U Q) (fun a M => ∀ x, M x = tp_b (tp_w m s (tp_gr (tp_sl m s)) (17 * (2 * a)) x)) 8 M (fun x => by rw [tp_w_0]; exact hM x) ?_ ?_
  · intro n M' hM'
    refine br_t (nI_le (a := 16) (b := 2 * 8 + 1) (by decide) (by decide)) ?_
    have hM2 : ∀ x, M' x = tp_b (tp_w m s (tp_gh (tp_sl m s)) 289 x) := by
      intro x
      rw [hM', ← tp_w_c m s (tp_gr_gh hO), tp_w_j m s (tp_gr (tp_sl m s)) (i := 17 * (2 * 8)) (i' := 289) (by omega) (fun c h1 h2 => no c (by omega))]
    refine tx_fin (q := 3) hC hK hM2 hs (by omega) (fun c hc e => ?_) (fun f K' S M P T U Q hu hS => ⟨tp_in12 hs, ?_⟩)
    · unfold tp_gh at e
      rw [Bool.and_eq_true, decide_eq_true_eq] at e
      unfold tp_dm
      omega
    · rw [nI_clamp (by omega), hS]
      have hp : ∃ c, c < 289 ∧ tp_gh (tp_sl m s) c = true := by
        obtain ⟨c, hc, e⟩ := hO.2.2 (by decide)
        refine ⟨c, hc, ?_⟩
        rw [← tp_gr_gh hO c hc]
        unfold tp_gr
        rw [e, Bool.true_or]
      rw [tp_Ok_p hp, tp_v_q hk] at hu
      exact h _ hu
  · intro n a M' ha hM' ih
    refine br_f (nI_ge (b := 16) (by omega) (by decide)) ?_
    refine loop_0 (fun n b M => wX_grow_23 post _ (nI s) (nI (2 * a + 1)) f n (nI (2 * b + 1)) K S M P T U Q) (fun b M => ∀ x, M x = tp_b (tp_w m s (tp_gr (tp_sl m s)) (17 * (2 * a + 1) + (2 * b + 1)) x)) 8 M' (fun x => ?_) ?_ ?_
    · rw [hM', tp_w_j m s (tp_gr (tp_sl m s)) (i := 17 * (2 * a)) (i' := 17 * (2 * a + 1) + (2 * 0 + 1)) (by omega) (fun c h1 h2 => no c (by omega))]
    · intro n M2 hM2
      exact br_t (nI_le (a := 16) (b := 2 * 8 + 1) (by decide) (by decide)) (nm_r (tp_pl2 a) (ih M2 (fun x => by rw [hM2, show 17 * (2 * a + 1) + (2 * 8 + 1) = 17 * (2 * (a + 1)) from by omega])))
    · intro n b M2 hb hM2 ih2
      refine br_f (nI_ge (b := 16) (by omega) (by decide)) ?_
      refine tx_hcb hC hs hk (by omega) (by omega) ?_
      rw [← tp_grow hO (a := 2 * a) (b := 2 * b) (by omega) (by omega)]
      have hg : tp_gr (tp_sl m s) (17 * (2 * a + 1) + (2 * b + 1)) = (m (289 * s + (17 * (2 * a + 1) + (2 * b + 1))) || tp_nf (tp_sl m s) (2 * a + 1) (2 * b + 1) 9) := by
        unfold tp_gr
        rw [show (17 * (2 * a + 1) + (2 * b + 1)) / 17 = 2 * a + 1 from by omega, show (17 * (2 * a + 1) + (2 * b + 1)) % 17 = 2 * b + 1 from by omega, decide_eq_true (by omega), Bool.true_and]
        rfl
      have fw : ∀ M3 : Nat → Int32, (∀ x, M3 x = tp_b (tp_w m s (tp_gr (tp_sl m s)) (17 * (2 * a + 1) + (2 * b + 1) + 1) x)) → ∀ x, M3 x = tp_b (tp_w m s (tp_gr (tp_sl m s)) (17 * (2 * a + 1) + (2 * (b + 1) + 1)) x) := by
        intro M3 h3 x
        rw [h3, tp_w_j m s (tp_gr (tp_sl m s)) (i := 17 * (2 * a + 1) + (2 * b + 1) + 1) (i' := 17 * (2 * a + 1) + (2 * (b + 1) + 1)) (by omega) (fun c h1 h2 => no c (by omega))]
      refine tp_br (fun e => ?_) (fun e => ?_)
      · rw [e, Bool.or_false] at hg
        exact nm_r (tp_pl2 b) (ih2 _ (fw _ (tp_wk hM2 hg)))
      · rw [e, Bool.or_true] at hg
        rw [tp_ix2, nI_clamp (by omega), tp_nar1]
        exact ⟨vp_in_nI (by omega) (by decide), nm_e (nm_r (tp_pl2 b) (ih2 _ (fw _ (tp_wu hM2 hg))))⟩
theorem ty_near {post : Int32 → Prop} {K M H A B p q : Nat → Int32} {m : Nat → Bool} (hM : ∀ x, M x = tp_b (m x)) {s i j : Nat} (hs : s < 12) (hi : i ≤ 16) (hj : j ≤ 16) (h : post (tp_b (tp_nf (tp_sl m s) i j 9))) : wpY_isNear post (K, M, H, A, B, p, q) (nI s) (nI i) (nI j) := by
  refine loop_0 (fun n d (x : Bool) => wY_isNear_6 post (nI s) (nI i) (nI j) K M H A B p q n (tp_b x) (nI d)) (fun d x => x = tp_nf (tp_sl m s) i j d) 9 false rfl ?_ ?_
  · intro n x hx
    subst hx
    exact br_t (tp_rfl 9) ⟨tp_nab _, h⟩
  · intro n d x hd hx ih
    refine br_f (nI_ge (b := 9) hd (by decide)) ?_
    rw [tp_r3 (by omega), tp_d3 (by omega), tp_t2, tp_t2, nI_add, nI_add]
    refine tp_br (fun e => ⟨tp_3, tp_3, ?_⟩) (fun e => ?_)
    · refine ty_has hM hs ?_
      rw [show (nI (i + 2 * (d / 3)) - 2).toInt = ((i + 2 * (d / 3) : Nat) : Int) - 2 from pk_sub_toInt (b := 2) (by omega) (by decide), show (nI (j + 2 * (d % 3)) - 2).toInt = ((j + 2 * (d % 3) : Nat) : Int) - 2 from pk_sub_toInt (b := 2) (by omega) (by decide)]
      refine tp_br (fun e2 => nm_r (nI_1 d) (ih false ?_)) (fun e2 => nm_r (nI_1 d) (ih true ?_))
      · rw [tp_nf, ← hx, e, e2]
        rfl
      · rw [tp_nf, ← hx, e, e2]
        rfl
    · refine nm_r (nI_1 d) (ih true ?_)
      rw [tp_nf, ← hx, e]
      rfl
theorem ty_grow14 {post : Int32 → SY → Prop} {K M H A B p q : Nat → Int32} {k : Nat → Nat} {m : Nat → Bool} (hK : ∀ x, K x = nI (k x)) (hM : ∀ x, M x = tp_b (m x)) {s : Nat} (hs : s < 12) (h : ∀ v, tp_Y k (tp_w m s (tp_gh (tp_sl m s)) 289) v → post (nI (tp_cnt (tp_gh (tp_sl m s)) 289)) v) : ∃ n, wY_grow_14 post (nI s) n 0 K M H A B p q := by
  refine loop_0 (fun n c H => wY_grow_14 post (nI s) n (nI c) K M H A B p q) (fun c H => ∀ x, x < c → H x = tp_b (tp_gh (tp_sl m s) x)) 289 H (fun x hx => absurd hx (by omega)) ?_ ?_
  · intro n H' hH
    refine br_t (tp_rfl 289) ?_
    refine loop_0 (fun n c M => wY_grow_76 post (nI s) n (nI c) K M H' A B p q) (fun c M => ∀ x, M x = tp_b (tp_w m s (tp_gh (tp_sl m s)) c x)) 289 M (fun x => by rw [tp_w_0]; exact hM x) ?_ ?_
    · intro n M' hM'
      refine br_t (tp_rfl 289) (ty_count hM' hs ?_)
      rw [tp_cnt_congr 289 (tp_sl_w m s _)]
      exact h _ ⟨hK, hM'⟩
    · intro n c M' hc hM' ih
      refine br_f (nI_ge (b := 289) hc (by decide)) ?_
      rw [tp_iy1, nI_clamp (by omega), nI_clamp (by omega), hH c hc, tp_nar]
      exact ⟨vp_in_nI hc (by decide), vp_in_nI (by omega) (by decide), nm_e (nm_r (nI_1 c) (ih _ (tp_wu hM' rfl)))⟩
  · intro n c H' hc hH ih
    refine br_f (nI_ge (b := 289) hc (by decide)) ?_
    have st : ∀ b, tp_gh (tp_sl m s) c = b → ∀ x, x < c + 1 → upd H' c (tp_b b) x = tp_b (tp_gh (tp_sl m s) x) := by
      intro b hb x hx
      by_cases e : x = c
      · subst e
        rw [pk_us, hb]
      · rw [pk_un e]
        exact hH x (by omega)
    rw [tp_r17 (by omega), tp_d17 (by omega), tp_r2 (by omega), tp_r2 (by omega), nI_clamp (by omega), tp_nar0, tp_nar1]
    have hin : vp_in (nI c) 289 := vp_in_nI hc (by decide)
    refine ⟨tp_17, tp_2, pk_eq (c / 17 % 2) 1 (fun e1 => ⟨tp_17, tp_2, pk_eq (c % 17 % 2) 1 (fun e2 => ⟨tp_17, tp_17, ?_⟩) (fun e2 => ⟨hin, nm_e (nm_r (nI_1 c) (ih _ (st false ?_)))⟩)⟩) (fun e1 => ⟨hin, nm_e (nm_r (nI_1 c) (ih _ (st false ?_)))⟩)⟩
    · refine ty_near hM hs (by omega) (by omega) ?_
      have hg : tp_gh (tp_sl m s) c = tp_nf (tp_sl m s) (c / 17) (c % 17) 9 := by
        unfold tp_gh
        rw [decide_eq_true ⟨e1, e2⟩, Bool.true_and]
      exact tp_br (fun e => ⟨hin, nm_e (nm_r (nI_1 c) (ih _ (st false (hg.trans e))))⟩) (fun e => ⟨hin, nm_e (nm_r (nI_1 c) (ih _ (st true (hg.trans e))))⟩)
    · unfold tp_gh
      rw [decide_eq_false (fun z => e2 z.2), Bool.false_and]
    · unfold tp_gh
      rw [decide_eq_false (fun z => e1 z.1), Bool.false_and]
theorem i_vc_grow {k : Nat} {u : SX} {v : SY} (I : i_Rel k u v) (hk : k + 4 ≤ 2048) (v1 : Int32) : wpX_grow (fun r u' => wpY_grow (fun r' v' => r' = r ∧ i_Rel (k + 4) u' v') v v1) u v1 := by
  have R : i_Rel (k + 4) u v := I
  obtain ⟨kk, mm, hX, hY⟩ := I
  obtain ⟨f, K, S, M, P, T, U, Q⟩ := u
  obtain ⟨K2, M2, H, A, B, p, q⟩ := v
  obtain ⟨hK, hM, hC⟩ := hX
  obtain ⟨hK2, hM2⟩ := hY
  unfold wpX_grow wpY_grow
  dsimp only
  rcases tp_rg v1 12 (by decide) with ⟨s, hs, rfl⟩ | hx
  · have h3 := (hC.1 s hs).1
    by_cases h0 : kk s = 0
    · exact tx_raa_2 hK hs h0 (br_f (by decide) (ty_ba_2 hK2 hs h0 (br_f (by decide) ⟨rfl, R⟩)))
    by_cases h1 : kk s = 3
    · refine tx_raa_0 hK hs h1 (br_t rfl ?_)
      refine tx_grow14 hC hK hM hs h1 (fun u hu => ?_)
      refine ty_ba_0 hK2 hs h1 (br_t (by decide) ?_)
      exact ty_grow14 hK2 hM2 hs (fun v hv => ⟨rfl, _, _, hu, hv⟩)
    · exact tx_raa_3 hK hs h3 h0 h1 (br_f (by decide) (ty_ba_3 hK2 hs h3 h0 h1 (br_f (by decide) ⟨rfl, R⟩)))
  · exact tx_raa_1 hx (br_f (by decide) (ty_ba_1 hx (br_f (by decide) ⟨rfl, R⟩)))
