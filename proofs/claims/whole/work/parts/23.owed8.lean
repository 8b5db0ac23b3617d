theorem tx_pcs38 {post : Int32 → SX → Prop} {f : Int32} {K S M P T U Q : Nat → Int32} {g : Nat → Bool} (hU : ∀ c, c < 289 → U c = tp_b (g c)) (h : ∀ f U Q, post (nI (tp_lb g 289).2) (f, K, S, M, P, T, U, Q)) : ∃ n, wX_pieces_38 post n 0 0 f K S M P T U Q := by
  refine loop_0 (fun n e (z : Int32 × Nat × (Nat → Int32) × (Nat → Int32)) => wX_pieces_38 post n (nI z.2.1) (nI e) z.1 K S M P T z.2.2.1 z.2.2.2) (fun e z => z.2.1 = (tp_lb g e).2 ∧ ∀ c, c < 289 → z.2.2.1 c = tp_b (tp_op g e c)) 289 (f, 0, U, Q) ⟨rfl, fun c hc => by rw [tp_op_0]; exact hU c hc⟩ ?_ ?_
  · rintro n ⟨f, x, U, Q⟩ ⟨hx, hU⟩
    have hx : x = _ := hx
    subst hx
    exact br_t (tp_rfl 289) (h f U Q)
  · rintro n e ⟨f, x, U, Q⟩ he ⟨hx, hU⟩ ih
    have hx : x = (tp_lb g e).2 := hx
    have hU : ∀ c, c < 289 → U c = tp_b (tp_op g e c) := hU
    refine br_f (nI_ge (b := 289) he (by decide)) ⟨vp_in_nI he (by decide), ?_⟩
    dsimp only
    rw [nI_clamp (by omega), hU e he]
    refine tp_br (fun z => nm_r (nI_1 e) (ih (f, x, U, Q) ⟨?_, fun c hc => ?_⟩)) (fun ht => ?_)
    · show x = _
      rw [tp_lb_n (by rw [z]; decide)]
      exact hx
    · show U c = _
      rw [tp_op_n (by rw [z]; decide)]
      exact hU c hc
    · refine tx_walk hU he ht (fun u q L U Q hQ hC hs hA => ?_)
      dsimp only
      refine nm_r (nI_1 x) (nm_r (nI_1 e) (ih (nI L, x + 1, U, Q) ⟨?_, fun c hc => ?_⟩))
      · show x + 1 = _
        rw [tp_lb_2 ht, hx]
      · show U c = _
        rw [hA.1 c hc]
        refine congrArg tp_b ?_
        rw [Bool.eq_iff_iff, tp_Q_u hQ hC hs hc, tp_op_s ht]
theorem i_vc_pieces {k : Nat} {u : SX} {v : SY} (I : i_Rel k u v) (hk : k + 4 ≤ 2048) (v1 : Int32) : wpX_pieces (fun r u' => wpY_pieces (fun r' v' => r' = r ∧ i_Rel (k + 4) u' v') v v1) u v1 := by
  have R : i_Rel (k + 4) u v := I
  obtain ⟨kk, mm, hX, hY⟩ := I
  obtain ⟨f, K, S, M, P, T, U, Q⟩ := u
  obtain ⟨K2, M2, H, A, B, p, q⟩ := v
  obtain ⟨hK, hM, hC⟩ := hX
  obtain ⟨hK2, hM2⟩ := hY
  unfold wpX_pieces
  dsimp only
  rcases tp_rg v1 12 (by decide) with ⟨s, hs, rfl⟩ | hx
  · have h3 := (hC.1 s hs).1
    by_cases h0 : kk s = 0
    · refine tx_ras_2 hK hs h0 (br_f (by decide) ?_)
      unfold wpY_pieces
      dsimp only
      rw [nI_clamp (by omega), hK2 s, h0]
      exact ty_slot_y hs (br_f (by decide) ⟨tp_in12 hs, br_t rfl ⟨rfl, R⟩⟩)
    · refine tx_ras_0 hK hs h3 h0 (br_t rfl ⟨tp_in12 hs, ?_⟩)
      rw [nI_clamp (by omega), hK s]
      have yy : ∀ (post : Int32 → SY → Prop) (g : Nat → Bool), (g = fun c => decide (0 ≤ tp_ps kk mm s c ∧ tp_ps kk mm s c ≤ (if kk s = 3 then 0 else 1))) → (∀ H A p q, post (nI (tp_lb g 289).2) (K2, M2, H, A, B, p, q)) → wpY_pieces post (K2, M2, H, A, B, p, q) (nI s) := by
        intro post g hg hp
        unfold wpY_pieces
        dsimp only
        rw [nI_clamp (by omega), hK2 s]
        refine ty_slot_y hs (br_f (by decide) ⟨tp_in12 hs, br_f (nI_ne0 (by omega) (by omega)) ?_⟩)
        refine ty_parts1 hK2 hM2 hs h3 (fun A' hA => ?_)
        dsimp only
        refine loop_0 (fun n c H => wY_pieces_30 post (nI s) n (nI c) K2 M2 H A' B p q) (fun c H => ∀ x, x < c → H x = tp_b (g x)) 289 H (fun x hx => absurd hx (by omega)) ?_ ?_
        · intro n H' hH
          refine br_t (tp_rfl 289) ?_
          exact ty_fpieces (h := g) hH (fun p q _ => hp H' A' p q)
        · intro n c H' hc hH ih
          refine br_f (nI_ge (b := 289) hc (by decide)) ⟨tp_in12 hs, ?_⟩
          have hl := tp_ps_2 kk mm s c
          have hA' : A' c = nI (tp_ps kk mm s c) := hA c hc
          have st : ∀ b, g c = b → ∀ x, x < c + 1 → upd H' c (tp_b b) x = tp_b (g x) := by
            intro b hb x hx
            by_cases e : x = c
            · subst e
              rw [pk_us, hb]
            · rw [pk_un e]
              exact hH x (by omega)
          have hin : vp_in (nI c) 289 := vp_in_nI hc (by decide)
          rw [nI_clamp (n := c) (by omega), nI_clamp (n := s) (by omega), hK2 s, hA', tp_nar0, tp_nar1]
          refine pk_eq (kk s) 3 (fun e3 => ⟨hin, pk_eq (tp_ps kk mm s c) 0 (fun e => ⟨hin, nm_e (nm_r (nI_1 c) (ih _ (st true ?_)))⟩) (fun e => ⟨hin, nm_e (nm_r (nI_1 c) (ih _ (st false ?_)))⟩)⟩) (fun e3 => ⟨hin, pk_le 2 (tp_ps kk mm s c) (fun e => ⟨hin, nm_e (nm_r (nI_1 c) (ih _ (st false ?_)))⟩) (fun e => ⟨hin, nm_e (nm_r (nI_1 c) (ih _ (st true ?_)))⟩)⟩)
          · rw [hg, if_pos e3]
            exact decide_eq_true (by omega)
          · rw [hg, if_pos e3]
            exact decide_eq_false (by omega)
          · rw [hg, if_neg e3]
            exact decide_eq_false (by omega)
          · rw [hg, if_neg e3]
            exact decide_eq_true (by omega)
      refine pk_eq (kk s) 3 (fun e3 => ?_) (fun e3 => ?_)
      · unfold wX_pieces_30
        refine tx_prep (a := 0) (b := 0) hC hs (by omega) (by omega) (fun U' hU => ?_)
        dsimp only
        refine tx_pcs38 (g := fun c => decide (0 ≤ tp_ps kk mm s c ∧ tp_ps kk mm s c ≤ 0)) hU (fun f U Q => ?_)
        exact yy _ _ (by rw [if_pos e3]) (fun H A p q => ⟨rfl, kk, mm, ⟨hK, hM, hC⟩, hK2, hM2⟩)
      · unfold wX_pieces_30
        refine tx_prep (a := 0) (b := 1) hC hs (by omega) (by omega) (fun U' hU => ?_)
        dsimp only
        refine tx_pcs38 (g := fun c => decide (0 ≤ tp_ps kk mm s c ∧ tp_ps kk mm s c ≤ 1)) hU (fun f U Q => ?_)
        exact yy _ _ (by rw [if_neg e3]) (fun H A p q => ⟨rfl, kk, mm, ⟨hK, hM, hC⟩, hK2, hM2⟩)
  · refine tx_ras_1 hx (br_f (by decide) ?_)
    unfold wpY_pieces
    dsimp only
    exact ty_slot_n hx (br_t rfl ⟨rfl, R⟩)
/-- the members while the holes are walked -/
noncomputable def tp_ma (ad : Bool) (m : Nat → Bool) (s : Nat) (g : Nat → Bool) (e : Nat) : Nat → Bool := if ad = true then tp_w m s (tp_fl (tp_sl m s) (tp_lb g e).1 (tp_lb g e).2) 289 else m
theorem tp_ma_0 (ad : Bool) (m : Nat → Bool) (s : Nat) (g : Nat → Bool) : tp_ma ad m s g 0 = m := by
  unfold tp_ma
  split
  · rw [tp_w_c m s (g := tp_fl (tp_sl m s) (tp_lb g 0).1 (tp_lb g 0).2) (g' := tp_sl m s) (i := 289) (fun c _ => tp_fl_0 c), tp_w_i]
  · rfl
theorem tx_holes12 {post : Int32 → SX → Prop} {f : Int32} {K S M P T U Q : Nat → Int32} {m : Nat → Bool} (hM : ∀ x, M x = tp_b (m x)) {s : Nat} (hs : s < 12) {g : Nat → Bool} (hU : ∀ c, c < 289 → U c = tp_b (g c)) (ad : Bool) (h : ∀ f M U Q, (∀ x, M x = tp_b (tp_ma ad m s g 289 x)) → post (nI (tp_hc (tp_lb g 289).1 (tp_lb g 289).2)) (f, K, S, M, P, T, U, Q)) : ∃ n, wX_walkHoles_12 post (nI s) (tp_b ad) n 0 0 f K S M P T U Q := by
  refine loop_0 (fun n e (z : Int32 × Nat × (Nat → Int32) × (Nat → Int32) × (Nat → Int32)) => wX_walkHoles_12 post (nI s) (tp_b ad) n (nI z.2.1) (nI e) z.1 K S z.2.2.1 P T z.2.2.2.1 z.2.2.2.2) (fun e z => z.2.1 = tp_hc (tp_lb g e).1 (tp_lb g e).2 ∧ (∀ x, z.2.2.1 x = tp_b (tp_ma ad m s g e x)) ∧ ∀ c, c < 289 → z.2.2.2.1 c = tp_b (tp_op g e c)) 289 (f, 0, M, U, Q) ⟨rfl, fun x => by rw [tp_ma_0]; exact hM x, fun c hc => by rw [tp_op_0]; exact hU c hc⟩ ?_ ?_
  · rintro n ⟨f, x, M, U, Q⟩ ⟨hx, hM, hU⟩
    have hx : x = _ := hx
    subst hx
    exact br_t (tp_rfl 289) (h f M U Q hM)
  · rintro n e ⟨f, x, M, U, Q⟩ he ⟨hx, hM, hU⟩ ih
    have hx : x = tp_hc (tp_lb g e).1 (tp_lb g e).2 := hx
    have hM : ∀ x, M x = tp_b (tp_ma ad m s g e x) := hM
    have hU : ∀ c, c < 289 → U c = tp_b (tp_op g e c) := hU
    refine br_f (nI_ge (b := 289) he (by decide)) ⟨vp_in_nI he (by decide), ?_⟩
    dsimp only
    rw [nI_clamp (by omega), hU e he]
    refine tp_br (fun z => nm_r (nI_1 e) (ih (f, x, M, U, Q) ⟨?_, fun y => ?_, fun c hc => ?_⟩)) (fun ht => ?_)
    · show x = _
      rw [tp_lb_n (by rw [z]; decide)]
      exact hx
    · show M y = _
      unfold tp_ma
      rw [tp_lb_n (by rw [z]; decide)]
      exact hM y
    · show U c = _
      rw [tp_op_n (by rw [z]; decide)]
      exact hU c hc
    · refine tx_walk hU he ht (fun u q L U Q hQ hC hst hA => ?_)
      dsimp only
      have hL := tp_Q_l hQ
      have hq : ∀ p, p < L → q p < 289 := fun p hp => (hQ.1 p hp).1
      have hE := tp_Q_e hQ hC hst
      have hU2 : ∀ c, c < 289 → U c = tp_b (tp_op g (e + 1) c) := by
        intro c hc
        rw [hA.1 c hc]
        refine congrArg tp_b ?_
        rw [Bool.eq_iff_iff, tp_Q_u hQ hC hst hc, tp_op_s ht]
      have hbh := tp_bd_h he ht
      have hhc := tp_hc_s he ht
      refine tx_brd hL hA.2 hq (fun ⟨p, hp, hb⟩ => ?_) (fun hno => ?_)
      · have hf : tp_hl (tp_lb g (e + 1)).1 ((tp_lb g e).2 + 1) 289 = false := hbh.mpr ⟨q p, (hE _).mp ⟨p, hp, rfl⟩, hb⟩
        refine br_f (by decide) (nm_r (nI_1 e) (ih (nI L, x, M, U, Q) ⟨?_, fun y => ?_, hU2⟩))
        · show x = _
          rw [hhc, hf]
          exact hx
        · show M y = _
          rw [hM y]
          unfold tp_ma
          rw [tp_lb_2 ht, tp_w_c m s (g' := tp_fl (tp_sl m s) (tp_lb g (e + 1)).1 ((tp_lb g e).2 + 1)) (fun c _ => (tp_fl_x he ht hf).symm)]
      · have hf : tp_hl (tp_lb g (e + 1)).1 ((tp_lb g e).2 + 1) 289 = true := by
          rw [← Bool.not_eq_false, hbh]
          rintro ⟨c, hr, hb⟩
          obtain ⟨p, hp, e2⟩ := (hE c).mpr hr
          exact hno ⟨p, hp, by rw [e2]; exact hb⟩
        have hx2 : x + 1 = tp_hc (tp_lb g (e + 1)).1 (tp_lb g (e + 1)).2 := by
          rw [hhc, if_pos hf, hx]
        refine br_t rfl (nm_r (nI_1 x) (tp_br (fun e1 => nm_r (nI_1 e) (ih (nI L, x + 1, M, U, Q) ⟨hx2, fun y => ?_, hU2⟩)) (fun e1 => ?_)))
        · show M y = _
          rw [hM y]
          unfold tp_ma
          rw [if_neg (by rw [e1]; decide), if_neg (by rw [e1]; decide)]
        · refine tx_add hM hs hL hA.2 hq (fun M' m' h1 h2 => ?_)
          dsimp only
          refine nm_r (nI_1 e) (ih (nI L, x + 1, M', U, Q) ⟨hx2, fun y => ?_, hU2⟩)
          show M' y = _
          rw [h1 y]
          refine congrArg tp_b ?_
          rw [Bool.eq_iff_iff, h2 y]
          unfold tp_ma
          rw [if_pos e1, if_pos e1, tp_lb_2 ht]
          by_cases hy : 289 * s ≤ y ∧ y < 289 * s + 289
          · obtain ⟨c, hc, rfl⟩ : ∃ c, c < 289 ∧ y = 289 * s + c := ⟨y - 289 * s, by omega, by omega⟩
            rw [tp_w_at m s _ hc, tp_w_at m s _ hc, tp_fl_y he ht hf]
            constructor
            · rintro (z | ⟨p, hp, z1, z2⟩)
              · exact Or.inl z
              · have ec : c = q p := by omega
                rw [ec]
                exact Or.inr ⟨(hE _).mp ⟨p, hp, rfl⟩, z2⟩
            · rintro (z | ⟨z1, z2⟩)
              · exact Or.inl z
              · obtain ⟨p, hp, ep⟩ := (hE c).mpr z1
                exact Or.inr ⟨p, hp, by rw [ep], by rw [ep]; exact z2⟩
          · unfold tp_w
            rw [if_neg hy, if_neg hy]
            constructor
            · rintro (z | ⟨p, hp, z1, z2⟩)
              · exact z
              · have := hq p hp
                omega
            · exact Or.inl
theorem tx_holes {post : Int32 → SX → Prop} {f : Int32} {K S M P T U Q : Nat → Int32} {k : Nat → Nat} {m : Nat → Bool} (hC : tp_Cr k m S P) (hM : ∀ x, M x = tp_b (m x)) {s : Nat} (hs : s < 12) {g : Nat → Bool} (hg : g = fun c => decide (2 ≤ tp_ps k m s c ∧ tp_ps k m s c ≤ 2)) (ad : Bool) (h : ∀ f M U Q, (∀ x, M x = tp_b (tp_ma ad m s g 289 x)) → post (nI (tp_hc (tp_lb g 289).1 (tp_lb g 289).2)) (f, K, S, M, P, T, U, Q)) : wpX_walkHoles post (f, K, S, M, P, T, U, Q) (nI s) (tp_b ad) := by
  unfold wpX_walkHoles
  dsimp only
  refine tx_prep (a := 2) (b := 2) hC hs (by omega) (by omega) (fun U' hU => ?_)
  dsimp only
  refine tx_holes12 hM hs (g := g) (fun c hc => ?_) ad h
  rw [hU c hc, hg]
theorem ty_holes24 {post : Int32 → SY → Prop} {K M H A B p q : Nat → Int32} {l : Nat → Nat} {N : Nat} (hN : N ≤ 289) (hl : ∀ c, l c ≤ 289) (hp : ∀ c, c < 289 → p c = nI (l c)) (h : post (nI (tp_hc l N)) (K, M, H, A, B, p, q)) : ∃ n, wY_holes_24 post (nI N) K M H A B p q n 0 1 := by
  refine loop_0 (fun n i (x : Nat) => wY_holes_24 post (nI N) K M H A B p q n (nI x) (nI (i + 1))) (fun i x => x = tp_hc l i) N 0 rfl ?_ ?_
  · intro n x hx
    subst hx
    exact br_t (nI_lt (by omega) (by omega)) h
  · intro n i x hi hx ih
    refine br_f (nI_nlt (by omega) (by omega)) ?_
    refine ty_hole (l := l) (by omega) hl hp ?_
    refine tp_br (fun e => nm_r (nI_1 (i + 1)) (ih x ?_)) (fun e => nm_r (nI_1 x) (nm_r (nI_1 (i + 1)) (ih (x + 1) ?_)))
    · rw [hx]
      unfold tp_hc
      rw [tp_cnt, e]
      rfl
    · rw [hx]
      unfold tp_hc
      rw [tp_cnt, e]
      rfl
theorem i_vc_holes {k : Nat} {u : SX} {v : SY} (I : i_Rel k u v) (hk : k + 4 ≤ 2048) (v1 : Int32) : wpX_holes (fun r u' => wpY_holes (fun r' v' => r' = r ∧ i_Rel (k + 4) u' v') v v1) u v1 := by
  have R : i_Rel (k + 4) u v := I
  obtain ⟨kk, mm, hX, hY⟩ := I
  obtain ⟨f, K, S, M, P, T, U, Q⟩ := u
  obtain ⟨K2, M2, H, A, B, p, q⟩ := v
  obtain ⟨hK, hM, hC⟩ := hX
  obtain ⟨hK2, hM2⟩ := hY
  unfold wpX_holes
  dsimp only
  rcases tp_rg v1 12 (by decide) with ⟨s, hs, rfl⟩ | hx
  · have h3 := (hC.1 s hs).1
    by_cases h0 : kk s = 0
    · refine tx_raa_2 hK hs h0 (br_f (by decide) ?_)
      unfold wpY_holes
      dsimp only
      exact ty_ba_2 hK2 hs h0 (br_f (by decide) ⟨rfl, R⟩)
    by_cases h1 : kk s = 3
    · refine tx_raa_0 hK hs h1 (br_t rfl ?_)
      refine tx_holes hC hM hs rfl false (fun f M' U Q hM' => ?_)
      have R2 : tp_X kk mm (f, K, S, M', P, T, U, Q) := ⟨hK, hM', hC⟩
      dsimp only
      unfold wpY_holes
      dsimp only
      refine ty_ba_0 hK2 hs h1 (br_t (by decide) ?_)
      refine ty_outer hK2 hM2 hs h3 rfl (fun H A p q hp => ?_)
      dsimp only
      have hn := tp_lb_n9 (fun c => decide (2 ≤ tp_ps kk mm s c ∧ tp_ps kk mm s c ≤ 2)) 289
      exact ty_holes24 hn (fun c => Nat.le_trans (tp_lb_le _ 289 c) hn) hp ⟨rfl, kk, mm, R2, hK2, hM2⟩
    · refine tx_raa_3 hK hs h3 h0 h1 (br_f (by decide) ?_)
      unfold wpY_holes
      dsimp only
      exact ty_ba_3 hK2 hs h3 h0 h1 (br_f (by decide) ⟨rfl, R⟩)
  · refine tx_raa_1 hx (br_f (by decide) ?_)
    unfold wpY_holes
    dsimp only
    exact ty_ba_1 hx (br_f (by decide) ⟨rfl, R⟩)
theorem ty_fill21 {post : Int32 → SY → Prop} {K M H A B p q : Nat → Int32} {m : Nat → Bool} (hM : ∀ x, M x = tp_b (m x)) {s : Nat} (hs : s < 12) {l : Nat → Nat} {N : Nat} (hN : N ≤ 289) (hl : ∀ c, l c ≤ 289) (hp : ∀ c, c < 289 → p c = nI (l c)) (h : ∀ M', (∀ x, M' x = tp_b (tp_w m s (tp_fl (tp_sl m s) l N) 289 x)) → post (nI (tp_cnt (tp_fl (tp_sl m s) l N) 289)) (K, M', H, A, B, p, q)) : ∃ n, wY_fill_21 post (nI s) (nI N) n 1 K M H A B p q := by
  refine loop_0 (fun n i M => wY_fill_21 post (nI s) (nI N) n (nI (i + 1)) K M H A B p q) (fun i M => ∀ x, M x = tp_b (tp_w m s (tp_fl (tp_sl m s) l i) 289 x)) N M (fun x => ?_) ?_ ?_
  · rw [tp_w_c m s (g' := tp_sl m s) (fun c _ => tp_fl_0 c), tp_w_i]
    exact hM x
  · intro n M' hM'
    refine br_t (nI_lt (by omega) (by omega)) ?_
    refine ty_count hM' hs ?_
    rw [tp_cnt_congr 289 (tp_sl_w m s _)]
    exact h M' hM'
  · intro n i M' hi hM' ih
    refine br_f (nI_nlt (by omega) (by omega)) ?_
    refine ty_hole (l := l) (by omega) hl hp ?_
    refine loop_0 (fun n c M => wY_fill_38 post _ (nI s) (nI N) (nI (i + 1)) (tp_b (tp_hl l (i + 1) 289)) n (nI c) K M H A B p q) (fun c M => ∀ x, M x = tp_b (tp_w (tp_w m s (tp_fl (tp_sl m s) l i) 289) s (tp_fl (tp_sl m s) l (i + 1)) c x)) 289 M' (fun x => by rw [tp_w_0]; exact hM' x) ?_ ?_
    · intro n M2 hM2
      refine br_t (tp_rfl 289) (nm_r (nI_1 (i + 1)) (ih M2 (fun x => ?_)))
      rw [hM2 x, tp_w_w]
    · intro n c M2 hc hM2 ih2
      refine br_f (nI_ge (b := 289) hc (by decide)) ?_
      have e0 : M2 (289 * s + c) = tp_b (tp_fl (tp_sl m s) l i c) := by
        rw [hM2, tp_w_ge _ s _ (Nat.le_refl c), tp_w_at m s _ hc]
      have hin : vp_in (nI (289 * s + c)) 3468 := vp_in_nI (by omega) (by decide)
      have hlc := hl c
      have hs2 := @tp_fl_s (tp_sl m s) l i c
      have fa : (¬ (tp_fl (tp_sl m s) l i c = true ∨ (tp_hl l (i + 1) 289 = true ∧ l c = i + 1 ∧ tp_dm c = 2))) → tp_fl (tp_sl m s) l (i + 1) c = false := by
        intro z
        rw [← Bool.not_eq_true, hs2]
        exact z
      rw [tp_iy1, nI_clamp (n := 289 * s + c) (by omega), nI_clamp (n := c) (by omega), e0, hp c hc, tp_nar0, tp_nar1]
      refine ⟨hin, tp_br (fun e1 => tp_br (fun e2 => ⟨hin, nm_e (nm_r (nI_1 c) (ih2 _ (tp_wu hM2 (fa ?_))))⟩) (fun e2 => ⟨vp_in_nI hc (by decide), pk_eq (l c) (i + 1) (fun e3 => ?_) (fun e3 => ⟨hin, nm_e (nm_r (nI_1 c) (ih2 _ (tp_wu hM2 (fa ?_))))⟩)⟩)) (fun e1 => ⟨hin, nm_e (nm_r (nI_1 c) (ih2 _ (tp_wu hM2 (hs2.mpr (Or.inl e1)))))⟩)⟩
      · rw [e1, e2]
        rintro (z | z)
        · exact nomatch z
        · exact nomatch z.1
      · refine ty_dim hc ?_
        have hd := tp_dm_le c
        refine pk_eq (tp_dm c) 2 (fun e4 => ⟨hin, nm_e (nm_r (nI_1 c) (ih2 _ (tp_wu hM2 (hs2.mpr (Or.inr ⟨e2, e3, e4⟩)))))⟩) (fun e4 => ⟨hin, nm_e (nm_r (nI_1 c) (ih2 _ (tp_wu hM2 (fa ?_))))⟩)
        rw [e1]
        rintro (z | z)
        · exact nomatch z
        · exact e4 z.2.2
      · rw [e1]
        rintro (z | z)
        · exact nomatch z
        · exact e3 z.2.1
theorem i_vc_fill {k : Nat} {u : SX} {v : SY} (I : i_Rel k u v) (hk : k + 4 ≤ 2048) (v1 : Int32) : wpX_fill (fun r u' => wpY_fill (fun r' v' => r' = r ∧ i_Rel (k + 4) u' v') v v1) u v1 := by
  have R : i_Rel (k + 4) u v := I
  obtain ⟨kk, mm, hX, hY⟩ := I
  obtain ⟨f, K, S, M, P, T, U, Q⟩ := u
  obtain ⟨K2, M2, H, A, B, p, q⟩ := v
  obtain ⟨hK, hM, hC⟩ := hX
  obtain ⟨hK2, hM2⟩ := hY
  unfold wpX_fill
  dsimp only
  rcases tp_rg v1 12 (by decide) with ⟨s, hs, rfl⟩ | hx
  · have h3 := (hC.1 s hs).1
    by_cases h0 : kk s = 0
    · refine tx_raa_2 hK hs h0 (br_f (by decide) ?_)
      unfold wpY_fill
      dsimp only
      exact ty_ba_2 hK2 hs h0 (br_f (by decide) ⟨rfl, R⟩)
    by_cases h1 : kk s = 3
    · refine tx_raa_0 hK hs h1 (br_t rfl ?_)
      have hO : tp_Ok 3 (tp_sl mm s) := by
        have := hC.1 s hs
        rw [h1] at this
        exact this
      refine tx_holes hC hM hs rfl true (fun f M' U Q hM' => ?_)
      dsimp only
      have hM2' : ∀ x, M' x = tp_b (tp_w mm s (tp_fl (tp_sl mm s) (tp_lb (fun c => decide (2 ≤ tp_ps kk mm s c ∧ tp_ps kk mm s c ≤ 2)) 289).1 (tp_lb (fun c => decide (2 ≤ tp_ps kk mm s c ∧ tp_ps kk mm s c ≤ 2)) 289).2) 289 x) := hM'
      refine tx_fin (q := 3) hC hK hM2' hs (by omega) (fun c hc e => ?_) (fun f K' S M P T U Q hu hS => ⟨tp_in12 hs, ?_⟩)
      · rcases tp_fl_t.mp e with z | z
        · exact hO.2.1 c hc z
        · omega
      · dsimp only
        rw [nI_clamp (by omega), hS]
        have hpos : ∃ c, c < 289 ∧ tp_fl (tp_sl mm s) (tp_lb (fun c => decide (2 ≤ tp_ps kk mm s c ∧ tp_ps kk mm s c ≤ 2)) 289).1 (tp_lb (fun c => decide (2 ≤ tp_ps kk mm s c ∧ tp_ps kk mm s c ≤ 2)) 289).2 c = true := by
          obtain ⟨c, hc, e⟩ := hO.2.2 (by decide)
          exact ⟨c, hc, tp_fl_t.mpr (Or.inl e)⟩
        rw [tp_Ok_p hpos, tp_v_q h1] at hu
        unfold wpY_fill
        dsimp only
        refine ty_ba_0 hK2 hs h1 (br_t (by decide) ?_)
        refine ty_outer hK2 hM2 hs h3 rfl (fun H A p q hp => ?_)
        dsimp only
        have hn := tp_lb_n9 (fun c => decide (2 ≤ tp_ps kk mm s c ∧ tp_ps kk mm s c ≤ 2)) 289
        exact ty_fill21 hM2 hs hn (fun c => Nat.le_trans (tp_lb_le _ 289 c) hn) hp (fun M3 hM3 => ⟨rfl, kk, _, hu, hK2, hM3⟩)
    · refine tx_raa_3 hK hs h3 h0 h1 (br_f (by decide) ?_)
      unfold wpY_fill
      dsimp only
      exact ty_ba_3 hK2 hs h3 h0 h1 (br_f (by decide) ⟨rfl, R⟩)
  · refine tx_raa_1 hx (br_f (by decide) ?_)
    unfold wpY_fill
    dsimp only
    exact ty_ba_1 hx (br_f (by decide) ⟨rfl, R⟩)
