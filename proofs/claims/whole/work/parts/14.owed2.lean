theorem i_vc_line {k : Nat} {u : SX} {v : SY} (I : i_Rel k u v) (hk : k + 4 ≤ 2048) (v1 : Int32) (v2 : Int32) (v3 : Int32) : wpX_line (fun r u' => wpY_line (fun r' v' => r' = r ∧ i_Rel (k + 4) u' v') v v1 v2 v3) u v1 v2 v3 := by
  have R : i_Rel (k + 4) u v := I
  obtain ⟨kk, mm, hX, hY⟩ := I
  obtain ⟨f, K, S, M, P, T, U, Q⟩ := u
  obtain ⟨K2, M2, H, A, B, p, q⟩ := v
  obtain ⟨hK, hM, hC⟩ := hX
  obtain ⟨hK2, hM2⟩ := hY
  unfold wpX_line
  dsimp only
  rcases tp_rg v1 12 (by decide) with ⟨s, hs, rfl⟩ | hx
  · have h3 := (hC.1 s hs).1
    by_cases h1 : kk s = 0 ∨ kk s = 2
    · have yb : ∀ post : Int32 → SY → Prop, wY_line_32 post (nI s) v2 v3 K2 M2 H A B p q → wpY_line post (K2, M2, H, A, B, p, q) (nI s) v2 v3 := by
        intro post h
        unfold wpY_line
        dsimp only
        rw [nI_clamp (by omega), hK2 s]
        exact ty_slot_y hs (br_f (by decide) ⟨tp_in12 hs, pk_eq (kk s) 0 (fun _ => h) (fun e => ⟨tp_in12 hs, pk_eq (kk s) 2 (fun _ => h) (fun e2 => absurd (h1.resolve_left e) e2)⟩)⟩)
      rcases tp_rg2 v2 v3 81 (by decide) with ⟨a, b, ha, hb, rfl, rfl⟩ | hx
      · refine tx_rta_x (q := 2) hK hs h3 (by omega) h1 (tx_rta_0 ha hb (br_t rfl ?_))
        refine tx_shc ha hb ?_
        refine tx_shr ha hb ?_
        have key : (¬ ((a / 9 = b / 9) ↔ (a % 9 = b % 9))) → wpX_mark (fun u => match u with | (f, K, S, M, P, T, U, Q) => (wpX_settle (fun u => match u with | (f, K, S, M, P, T, U, Q) => (vp_in (nI s) 12 ∧ (wpY_line (fun r' v' => r' = S (nI s).toNatClampNeg ∧ i_Rel (k + 4) (f, K, S, M, P, T, U, Q) v') (K2, M2, H, A, B, p, q) (nI s) (nI a) (nI b)))) (f, K, S, M, P, T, U, Q) (nI s) 2)) (f, K, S, M, P, T, U, Q) (nI s) 2 (nI a) (nI b) 1 := by
          intro hne
          refine tx_mark (q := 2) (b := true) hM hs (by omega) (by omega) ha hb (fun M' hM' => ?_)
          refine tx_fin (q := 2) hC hK hM' hs (by omega) (tp_mk_t (hC.1 s hs) h1 true) (fun f K' S M P T U Q hu hS => ⟨tp_in12 hs, ?_⟩)
          rw [nI_clamp (by omega), hS]
          rw [tp_Ok_p (tp_mk_2 ha hb hne _)] at hu
          refine yb _ ?_
          unfold wY_line_32
          rw [tp_r9 (by omega), tp_r9 (by omega), tp_d9 (by omega), tp_d9 (by omega), nI_clamp (by omega)]
          refine ty_vert_y ha (br_f (by decide) ?_)
          refine ty_vert_y hb (br_f (by decide) ?_)
          have fin : ∃ n, wY_line_91 (fun r' v' => r' = nI (tp_cnt (tp_mk (tp_sl mm s) 2 a b true) 289) ∧ i_Rel (k + 4) (f, K', S, M, P, T, U, Q) v') (nI s) (nI a) (nI b) n 0 (upd K2 s 2) M2 H A B p q := ty_line91 hM2 hs ha hb (fun M3 hM3 => ⟨rfl, _, _, hu, fun x => tp_uK hK2 s 2 x, hM3⟩)
          refine pk_eq a b (fun e => absurd ?_ hne) (fun e => ⟨tp_9, tp_9, pk_eq (a / 9) (b / 9) (fun e1 => ⟨tp_in12 hs, nm_e fin⟩) (fun e1 => ⟨tp_9, tp_9, pk_eq (a % 9) (b % 9) (fun e2 => ⟨tp_in12 hs, nm_e fin⟩) (fun e2 => absurd ?_ hne)⟩)⟩)
          · rw [e]
            exact ⟨fun _ => rfl, fun _ => rfl⟩
          · exact ⟨fun z => absurd z e1, fun z => absurd z e2⟩
        have bad : ((a / 9 = b / 9) ↔ (a % 9 = b % 9)) → wpY_line (fun r' v' => r' = -5 ∧ i_Rel (k + 4) (f, K, S, M, P, T, U, Q) v') (K2, M2, H, A, B, p, q) (nI s) (nI a) (nI b) := by
          intro he
          refine yb _ ?_
          unfold wY_line_32
          rw [tp_r9 (by omega), tp_r9 (by omega), tp_d9 (by omega), tp_d9 (by omega)]
          refine ty_vert_y ha (br_f (by decide) ?_)
          refine ty_vert_y hb (br_f (by decide) ?_)
          refine pk_eq a b (fun e => ⟨rfl, R⟩) (fun e => ⟨tp_9, tp_9, pk_eq (a / 9) (b / 9) (fun e1 => absurd (he.mp e1) ?_) (fun e1 => ⟨tp_9, tp_9, pk_eq (a % 9) (b % 9) (fun e2 => absurd (he.mpr e2) e1) (fun e2 => ⟨rfl, R⟩)⟩)⟩)
          omega
        by_cases e1 : a / 9 = b / 9 <;> by_cases e2 : a % 9 = b % 9
        · rw [decide_eq_true e1, decide_eq_true e2]
          exact br_t rfl (bad ⟨fun _ => e2, fun _ => e1⟩)
        · rw [decide_eq_true e1, decide_eq_false e2]
          exact br_f (by decide) (key (fun z => e2 (z.mp e1)))
        · rw [decide_eq_false e1, decide_eq_true e2]
          exact br_f (by decide) (key (fun z => e1 (z.mpr e2)))
        · rw [decide_eq_false e1, decide_eq_false e2]
          exact br_t rfl (bad ⟨fun z => absurd z e1, fun z => absurd z e2⟩)
      · refine tx_rta_x (q := 2) hK hs h3 (by omega) h1 (tx_rta_4 hx (br_f (by decide) ?_))
        refine yb _ ?_
        unfold wY_line_32
        rcases hx with hx | ⟨⟨a, ha, rfl⟩, hy⟩
        · exact ty_vert_n hx (br_t rfl ⟨rfl, R⟩)
        · exact ty_vert_y ha (br_f (by decide) (ty_vert_n hy (br_t rfl ⟨rfl, R⟩)))
    · refine tx_rta_3 (q := 2) hK hs h3 (by omega) (by omega) (by omega) (br_f (by decide) ?_)
      unfold wpY_line
      dsimp only
      rw [nI_clamp (by omega), hK2 s]
      exact ty_slot_y hs (br_f (by decide) ⟨tp_in12 hs, pk_eq (kk s) 0 (fun e => absurd (Or.inl e) h1) (fun e => ⟨tp_in12 hs, pk_eq (kk s) 2 (fun e => absurd (Or.inr e) h1) (fun e2 => ⟨rfl, R⟩)⟩)⟩)
  · refine tx_rta_1 hx (br_f (by decide) ?_)
    unfold wpY_line
    dsimp only
    exact ty_slot_n hx (br_t rfl ⟨rfl, R⟩)
theorem i_vc_rectangle {k : Nat} {u : SX} {v : SY} (I : i_Rel k u v) (hk : k + 4 ≤ 2048) (v1 : Int32) (v2 : Int32) (v3 : Int32) : wpX_rectangle (fun r u' => wpY_rectangle (fun r' v' => r' = r ∧ i_Rel (k + 4) u' v') v v1 v2 v3) u v1 v2 v3 := by
  have R : i_Rel (k + 4) u v := I
  obtain ⟨kk, mm, hX, hY⟩ := I
  obtain ⟨f, K, S, M, P, T, U, Q⟩ := u
  obtain ⟨K2, M2, H, A, B, p, q⟩ := v
  obtain ⟨hK, hM, hC⟩ := hX
  obtain ⟨hK2, hM2⟩ := hY
  unfold wpX_rectangle
  dsimp only
  rcases tp_rg v1 12 (by decide) with ⟨s, hs, rfl⟩ | hx
  · have h3 := (hC.1 s hs).1
    by_cases h1 : kk s = 0 ∨ kk s = 3
    · have yb : ∀ post : Int32 → SY → Prop, wY_rectangle_32 post (nI s) v2 v3 K2 M2 H A B p q → wpY_rectangle post (K2, M2, H, A, B, p, q) (nI s) v2 v3 := by
        intro post h
        unfold wpY_rectangle
        dsimp only
        rw [nI_clamp (by omega), hK2 s]
        exact ty_slot_y hs (br_f (by decide) ⟨tp_in12 hs, pk_eq (kk s) 0 (fun _ => h) (fun e => ⟨tp_in12 hs, pk_eq (kk s) 3 (fun _ => h) (fun e2 => absurd (h1.resolve_left e) e2)⟩)⟩)
      rcases tp_rg2 v2 v3 81 (by decide) with ⟨a, b, ha, hb, rfl, rfl⟩ | hx
      · refine tx_rta_x (q := 3) hK hs h3 (by omega) h1 (tx_rta_0 ha hb (br_t rfl ?_))
        refine tx_shc ha hb ?_
        have bad : (a / 9 = b / 9 ∨ a % 9 = b % 9) → wpY_rectangle (fun r' v' => r' = -5 ∧ i_Rel (k + 4) (f, K, S, M, P, T, U, Q) v') (K2, M2, H, A, B, p, q) (nI s) (nI a) (nI b) := by
          intro he
          refine yb _ ?_
          unfold wY_rectangle_32
          refine ty_bc_5 ha hb ?_
          rw [if_pos he]
          exact br_f (by decide) ⟨rfl, R⟩
        refine tp_br (fun e1 => ?_) (fun e1 => bad (Or.inl (of_decide_eq_true e1)))
        have e1 := of_decide_eq_false e1
        refine tx_shr ha hb ?_
        refine tp_br (fun e2 => ?_) (fun e2 => bad (Or.inr (of_decide_eq_true e2)))
        have e2 := of_decide_eq_false e2
        refine tx_mark (q := 3) (b := true) hM hs (by omega) (by omega) ha hb (fun M' hM' => ?_)
        refine tx_fin (q := 3) hC hK hM' hs (by omega) (tp_mk_t (hC.1 s hs) h1 true) (fun f K' S M P T U Q hu hS => ⟨tp_in12 hs, ?_⟩)
        dsimp only
        rw [nI_clamp (by omega), hS]
        rw [tp_Ok_p (tp_mk_3 ha hb e1 e2 _)] at hu
        refine yb _ ?_
        unfold wY_rectangle_32
        refine ty_bc_5 ha hb ?_
        rw [if_neg (fun z => z.elim e1 e2), nI_clamp (by omega)]
        refine br_t (by decide) ⟨tp_in12 hs, nm_e ?_⟩
        refine ty_cells (b := true) hM2 hs ha hb (fun M3 hM3 => ?_)
        refine ty_count hM3 hs ⟨?_, _, _, hu, fun x => tp_uK hK2 s 3 x, hM3⟩
        rw [tp_cnt_congr 289 (tp_sl_w mm s _)]
      · refine tx_rta_x (q := 3) hK hs h3 (by omega) h1 (tx_rta_4 hx (br_f (by decide) ?_))
        refine yb _ ?_
        unfold wY_rectangle_32
        exact ty_bc_4 hx (br_f (by decide) ⟨rfl, R⟩)
    · refine tx_rta_3 (q := 3) hK hs h3 (by omega) (by omega) (by omega) (br_f (by decide) ?_)
      unfold wpY_rectangle
      dsimp only
      rw [nI_clamp (by omega), hK2 s]
      exact ty_slot_y hs (br_f (by decide) ⟨tp_in12 hs, pk_eq (kk s) 0 (fun e => absurd (Or.inl e) h1) (fun e => ⟨tp_in12 hs, pk_eq (kk s) 3 (fun e => absurd (Or.inr e) h1) (fun e2 => ⟨rfl, R⟩)⟩)⟩)
  · refine tx_rta_1 hx (br_f (by decide) ?_)
    unfold wpY_rectangle
    dsimp only
    exact ty_slot_n hx (br_t rfl ⟨rfl, R⟩)
theorem i_vc_cut {k : Nat} {u : SX} {v : SY} (I : i_Rel k u v) (hk : k + 4 ≤ 2048) (v1 : Int32) (v2 : Int32) (v3 : Int32) : wpX_cut (fun r u' => wpY_cut (fun r' v' => r' = r ∧ i_Rel (k + 4) u' v') v v1 v2 v3) u v1 v2 v3 := by
  have R : i_Rel (k + 4) u v := I
  obtain ⟨kk, mm, hX, hY⟩ := I
  obtain ⟨f, K, S, M, P, T, U, Q⟩ := u
  obtain ⟨K2, M2, H, A, B, p, q⟩ := v
  obtain ⟨hK, hM, hC⟩ := hX
  obtain ⟨hK2, hM2⟩ := hY
  unfold wpX_cut wpY_cut
  dsimp only
  rcases tp_rg v1 12 (by decide) with ⟨s, hs, rfl⟩ | hx
  · have h3 := (hC.1 s hs).1
    by_cases h0 : kk s = 0
    · exact tx_raa_2 hK hs h0 (br_f (by decide) (ty_ba_2 hK2 hs h0 (br_f (by decide) ⟨rfl, R⟩)))
    by_cases h1 : kk s = 3
    · refine tx_raa_0 hK hs h1 (br_t rfl ?_)
      rcases tp_rg2 v2 v3 81 (by decide) with ⟨a, b, ha, hb, rfl, rfl⟩ | hx
      · refine tx_vert_y ha (br_f (by decide) ?_)
        refine tx_vert_y hb (br_f (by decide) ?_)
        refine tx_shc ha hb ?_
        refine tp_br (fun e1 => ?_) (fun e1 => ?_)
        · have e1 := of_decide_eq_false e1
          refine tx_shr ha hb ?_
          refine tp_br (fun e2 => ?_) (fun e2 => ?_)
          · have e2 := of_decide_eq_false e2
            refine tx_mark (q := 3) (b := false) hM hs (by omega) (by omega) ha hb (fun M' hM' => ?_)
            refine tx_fin (q := 3) hC hK hM' hs (by omega) (tp_mk_t (hC.1 s hs) (Or.inr h1) false) (fun f K' S M P T U Q hu hS => ⟨tp_in12 hs, ?_⟩)
            dsimp only
            rw [nI_clamp (by omega), hS]
            refine ty_ba_0 hK2 hs h1 (br_t (by decide) ?_)
            refine ty_bc_5 ha hb ?_
            rw [if_neg (fun z => z.elim e1 e2)]
            refine br_t (by decide) ?_
            refine ty_cells (b := false) hM2 hs ha hb (fun M3 hM3 => ?_)
            refine ty_settle hK2 hM3 hs (fun K3 hK3 => ⟨rfl, _, _, hu, ?_, hM3⟩)
            rw [h1] at hK3
            exact hK3
          · refine ty_ba_0 hK2 hs h1 (br_t (by decide) ?_)
            refine ty_bc_5 ha hb ?_
            rw [if_pos (Or.inr (of_decide_eq_true e2))]
            exact br_f (by decide) ⟨rfl, R⟩
        · refine ty_ba_0 hK2 hs h1 (br_t (by decide) ?_)
          refine ty_bc_5 ha hb ?_
          rw [if_pos (Or.inl (of_decide_eq_true e1))]
          exact br_f (by decide) ⟨rfl, R⟩
      · have fin : wpY_badArea (fun r_1 => (((0 ≤ r_1 → (wpY_badCorners (fun r_10 => (((0 ≤ r_10 → (wpY_setCells (fun u => match u with | (a_kinds_20, a_member_21, a_held_22, a_first_23, a_second_24, a_piece_25, a_queue_26) => (wpY_settle (fun r_27 u => match u with | (a_kinds_28, a_member_29, a_held_30, a_first_31, a_second_32, a_piece_33, a_queue_34) => (r_27 = -4 ∧ i_Rel (k + 4) (f, K, S, M, P, T, U, Q) (a_kinds_28, a_member_29, a_held_30, a_first_31, a_second_32, a_piece_33, a_queue_34))) (a_kinds_20, a_member_21, a_held_22, a_first_23, a_second_24, a_piece_25, a_queue_26) (nI s))) (K2, M2, H, A, B, p, q) (nI s) v2 v3 0)) ∧ (¬ 0 ≤ r_10 → (r_10 = -4 ∧ i_Rel (k + 4) (f, K, S, M, P, T, U, Q) (K2, M2, H, A, B, p, q)))))) (K2, M2, H, A, B, p, q) v2 v3)) ∧ (¬ 0 ≤ r_1 → (r_1 = -4 ∧ i_Rel (k + 4) (f, K, S, M, P, T, U, Q) (K2, M2, H, A, B, p, q)))))) (K2, M2, H, A, B, p, q) (nI s) := ty_ba_0 hK2 hs h1 (br_t (by decide) (ty_bc_4 hx (br_f (by decide) ⟨rfl, R⟩)))
        rcases hx with hx | ⟨⟨a, ha, rfl⟩, hy⟩
        · exact tx_vert_n hx (br_t rfl fin)
        · exact tx_vert_y ha (br_f (by decide) (tx_vert_n hy (br_t rfl fin)))
    · exact tx_raa_3 hK hs h3 h0 h1 (br_f (by decide) (ty_ba_3 hK2 hs h3 h0 h1 (br_f (by decide) ⟨rfl, R⟩)))
  · exact tx_raa_1 hx (br_f (by decide) (ty_ba_1 hx (br_f (by decide) ⟨rfl, R⟩)))
theorem i_vc_combine {k : Nat} {u : SX} {v : SY} (I : i_Rel k u v) (hk : k + 4 ≤ 2048) (v1 : Int32) (v2 : Int32) (v3 : Int32) : wpX_combine (fun r u' => wpY_combine (fun r' v' => r' = r ∧ i_Rel (k + 4) u' v') v v1 v2 v3) u v1 v2 v3 := by
  have R : i_Rel (k + 4) u v := I
  obtain ⟨kk, mm, hX, hY⟩ := I
  obtain ⟨f, K, S, M, P, T, U, Q⟩ := u
  obtain ⟨K2, M2, H, A, B, p, q⟩ := v
  obtain ⟨hK, hM, hC⟩ := hX
  obtain ⟨hK2, hM2⟩ := hY
  unfold wpX_combine
  dsimp only
  rcases tp_rg2 v1 v2 12 (by decide) with ⟨s, t, hs, ht, rfl, rfl⟩ | hx
  · have h3 := (hC.1 s hs).1
    have h3t := (hC.1 t ht).1
    rw [nI_clamp (by omega), nI_clamp (by omega), hK s, hK t]
    by_cases h0 : kk s = 0 ∨ kk t = 0
    · refine tx_rss_2 hK hs ht h3 h0 (br_f (by decide) ?_)
      unfold wpY_combine
      dsimp only
      rw [nI_clamp (by omega), nI_clamp (by omega), hK2 s, hK2 t]
      refine ty_slot_y hs (br_f (by decide) (ty_slot_y ht (br_f (by decide) ⟨tp_in12 hs, ?_⟩)))
      exact pk_eq (kk s) 0 (fun _ => ⟨rfl, R⟩) (fun e => ⟨tp_in12 ht, pk_eq (kk t) 0 (fun _ => ⟨rfl, R⟩) (fun e2 => absurd (h0.resolve_left e) e2)⟩)
    · refine tx_rss_0 hK hs ht h3 h3t (fun z => h0 (Or.inl z)) (fun z => h0 (Or.inr z)) (br_t rfl ⟨tp_in12 hs, tp_in12 ht, ?_⟩)
      have yb : ∀ post : Int32 → SY → Prop, (kk s ≠ kk t → post (-3) (K2, M2, H, A, B, p, q)) → (kk s = kk t → (((v3 < 0 → (post (-6) (K2, M2, H, A, B, p, q))) ∧ (¬ v3 < 0 → (((v3 ≤ 3 → (∃ n72 : Nat, wY_combine_72 post (nI s) (nI t) v3 n72 0 K2 M2 H A B p q)) ∧ (¬ v3 ≤ 3 → (post (-6) (K2, M2, H, A, B, p, q)))))))))
 → wpY_combine post (K2, M2, H, A, B, p, q) (nI s) (nI t) v3 := by
        intro post ha hb
        unfold wpY_combine
        dsimp only
        rw [nI_clamp (by omega), nI_clamp (by omega), hK2 s, hK2 t]
        exact ty_slot_y hs (br_f (by decide) (ty_slot_y ht (br_f (by decide) ⟨tp_in12 hs, br_f (nI_ne0 (by omega) (by omega)) ⟨tp_in12 ht, br_f (nI_ne0 (by omega) (by omega)) ⟨tp_in12 hs, tp_in12 ht, pk_eq (kk s) (kk t) hb ha⟩⟩⟩)))
      refine pk_eq (kk s) (kk t) (fun e => ?_) (fun e => yb _ (fun _ => ⟨rfl, R⟩) (fun z => absurd z e))
      rcases tp_rg v3 4 (by decide) with ⟨w, hw, rfl⟩ | hx
      · refine br_f (nI_pos (by omega)) (br_t (nI_le (b := 3) (by omega) (by decide)) ?_)
        refine tx_comb49 hC hK hM hs ht (by omega) e rfl (fun u hu => ?_)
        refine yb _ (fun z => absurd e z) (fun _ => ?_)
        refine br_f (nI_pos (by omega)) (br_t (nI_le (b := 3) (by omega) (by decide)) ?_)
        exact ty_comb72 hK2 hM2 hs ht (by omega) rfl (fun v hv => ⟨rfl, _, _, hu, hv⟩)
      · by_cases hn : v3 < 0
        · exact br_t hn (yb _ (fun z => absurd e z) (fun _ => br_t hn ⟨rfl, R⟩))
        · have hm : ¬ v3 ≤ 3 := by
            intro z
            have z1 := (tp_leR (x := v3) (n := 3) (by decide)).mp z
            have z2 := (tp_leL (x := v3) (n := 4) (by decide)).mp (hx.resolve_left hn)
            omega
          exact br_f hn (br_f hm (yb _ (fun z => absurd e z) (fun _ => br_f hn (br_f hm ⟨rfl, R⟩))))
  · refine tx_rss_1 hx (br_f (by decide) ?_)
    unfold wpY_combine
    dsimp only
    rcases hx with hx | ⟨⟨s, hs, rfl⟩, hy⟩
    · exact ty_slot_n hx (br_t rfl ⟨rfl, R⟩)
    · exact ty_slot_y hs (br_f (by decide) (ty_slot_n hy (br_t rfl ⟨rfl, R⟩)))
