/-- the rim's edges -/
def tp_re (k : Nat) (g : Nat → Bool) : Nat → Bool := fun c => decide (tp_dm c = 1) && decide (tp_pt k g (c / 17) (c % 17) = 1)
theorem tp_re_f1 {k : Nat} {g : Nat → Bool} {c : Nat} (h : ¬ tp_dm c = 1) : tp_re k g c = false := by
  unfold tp_re
  rw [decide_eq_false h, Bool.false_and]
theorem tp_re_f2 {k : Nat} {g : Nat → Bool} {c : Nat} (h : ¬ tp_pt k g (c / 17) (c % 17) = 1) : tp_re k g c = false := by
  unfold tp_re
  rw [decide_eq_false h, Bool.and_false]
theorem tp_re_t {k : Nat} {g : Nat → Bool} {c : Nat} (h : tp_dm c = 1) (h2 : tp_pt k g (c / 17) (c % 17) = 1) : tp_re k g c = true := by
  unfold tp_re
  rw [decide_eq_true h, decide_eq_true h2]
  rfl
theorem tp_dm_le (c : Nat) : tp_dm c ≤ 2 := by
  unfold tp_dm
  omega
theorem tx_rime {post : Int32 → Prop} {f : Int32} {K S M P T U Q : Nat → Int32} {k : Nat → Nat} {m : Nat → Bool} (hC : tp_Cr k m S P) {s c : Nat} (hs : s < 12) (hc : c < 289) (h : post (tp_b (tp_re (k s) (tp_sl m s) c))) : wpX_isRimEdge post (f, K, S, M, P, T, U, Q) (nI s) (nI c) := by
  unfold wpX_isRimEdge
  dsimp only
  rw [tp_r17 (by omega), tp_d17 (by omega), tp_ix1, nI_clamp (by omega), hC.2.2 s hs c hc]
  refine ⟨tp_17, tp_17, tx_dim (by omega) (by omega) ?_⟩
  have h2 := tp_pt_le (k s) (tp_sl m s) (c / 17) (c % 17)
  exact pk_eq (c / 17 % 2 + c % 17 % 2) 1 (fun e => ⟨vp_in_nI (by omega) (by decide), pk_eq (tp_pt (k s) (tp_sl m s) (c / 17) (c % 17)) 1 (fun e2 => tp_p1 h (tp_re_t e e2)) (fun e2 => tp_p0 h (tp_re_f2 e2))⟩) (fun e => tp_p0 h (tp_re_f1 e))
theorem i_vc_outline {k : Nat} {u : SX} {v : SY} (I : i_Rel k u v) (hk : k + 4 ≤ 2048) (v1 : Int32) (v2 : Int32) : wpX_outline (fun r u' => wpY_outline (fun r' v' => r' = r ∧ i_Rel (k + 4) u' v') v v1 v2) u v1 v2 := by
  have R : i_Rel (k + 4) u v := I
  obtain ⟨kk, mm, hX, hY⟩ := I
  obtain ⟨f, K, S, M, P, T, U, Q⟩ := u
  obtain ⟨K2, M2, H, A, B, p, q⟩ := v
  obtain ⟨hK, hM, hC⟩ := hX
  obtain ⟨hK2, hM2⟩ := hY
  unfold wpX_outline wpY_outline
  dsimp only
  rcases tp_rg v1 12 (by decide) with ⟨s, hs, rfl⟩ | hx
  · refine tx_slot_y hs (br_f (by decide) ?_)
    rcases tp_rg v2 12 (by decide) with ⟨t, ht, rfl⟩ | hy
    · refine tx_slot_y ht (br_f (by decide) ?_)
      have h3 := (hC.1 s hs).1
      by_cases h0 : kk s = 0
      · refine tx_raa_2 hK hs h0 (br_f (by decide) ?_)
        exact ty_slot_y ht (br_f (by decide) (ty_ba_2 hK2 hs h0 (br_f (by decide) ⟨rfl, R⟩)))
      by_cases h1 : kk s = 3
      · refine tx_raa_0 hK hs h1 (br_t rfl ?_)
        refine loop_0 (fun n c M => wX_outline_31 _ (nI s) (nI t) f n (nI c) K S M P T U Q) (fun c M => ∀ x, M x = tp_b (tp_w mm t (tp_re (kk s) (tp_sl mm s)) c x)) 289 M (fun x => by rw [tp_w_0]; exact hM x) ?_ ?_
        · intro n M' hM'
          refine br_t (tp_rfl 289) ?_
          refine tx_fin (q := 2) hC hK hM' ht (by omega) (fun c hc e => ?_) (fun f K' S M P T U Q hu hS => ⟨tp_in12 ht, ?_⟩)
          · unfold tp_re at e
            rw [Bool.and_eq_true, decide_eq_true_eq] at e
            omega
          · dsimp only
            rw [nI_clamp (by omega), hS]
            have hp : ∃ c, c < 289 ∧ tp_re (kk s) (tp_sl mm s) c = true := by
              have hO := hC.1 s hs
              rw [h1] at hO ⊢
              obtain ⟨c, hc, e1, e2⟩ := tp_rim_e hO
              exact ⟨c, hc, tp_re_t e1 e2⟩
            rw [tp_Ok_p hp] at hu
            refine ty_slot_y ht (br_f (by decide) ?_)
            refine ty_ba_0 hK2 hs h1 (br_t (by decide) ?_)
            refine ty_parts1 hK2 hM2 hs h3 (fun A' hA => ⟨tp_in12 ht, nm_e ?_⟩)
            refine loop_0 (fun n c M => wY_outline_38 _ (nI t) n (nI c) _ M H A' B p q) (fun c M => ∀ x, M x = tp_b (tp_w mm t (tp_re (kk s) (tp_sl mm s)) c x)) 289 M2 (fun x => by rw [tp_w_0]; exact hM2 x) ?_ ?_
            · intro n M3 hM3
              refine br_t (tp_rfl 289) (ty_count hM3 ht ⟨?_, _, _, hu, fun x => tp_uK hK2 t 2 x, hM3⟩)
              rw [tp_cnt_congr 289 (tp_sl_w mm t _)]
            · intro n c M3 hc hM3 ih
              refine br_f (nI_ge (b := 289) hc (by decide)) (ty_edge hc ?_)
              have hl := tp_pt_le (kk s) (tp_sl mm s) (c / 17) (c % 17)
              rw [tp_iy1, nI_clamp (by omega), nI_clamp (by omega), hA c hc, tp_nar0, tp_nar1]
              refine tp_br (fun e => ⟨vp_in_nI (by omega) (by decide), nm_e (nm_r (nI_1 c) (ih _ (tp_wu hM3 (tp_re_f1 (of_decide_eq_false e)))))⟩) (fun e => ⟨vp_in_nI hc (by decide), pk_eq (tp_pt (kk s) (tp_sl mm s) (c / 17) (c % 17)) 1 (fun e2 => ⟨vp_in_nI (by omega) (by decide), nm_e (nm_r (nI_1 c) (ih _ (tp_wu hM3 (tp_re_t (of_decide_eq_true e) e2))))⟩) (fun e2 => ⟨vp_in_nI (by omega) (by decide), nm_e (nm_r (nI_1 c) (ih _ (tp_wu hM3 (tp_re_f2 e2))))⟩)⟩)
        · intro n c M' hc hM' ih
          refine br_f (nI_ge (b := 289) hc (by decide)) ?_
          refine tx_rime hC hs hc ⟨by rw [tp_ix1]; exact vp_in_nI (by omega) (by decide), ?_⟩
          rw [tp_ix1, nI_clamp (by omega), tp_nar]
          exact nm_e (nm_r (nI_1 c) (ih _ (tp_wu hM' rfl)))
      · refine tx_raa_3 hK hs h3 h0 h1 (br_f (by decide) ?_)
        exact ty_slot_y ht (br_f (by decide) (ty_ba_3 hK2 hs h3 h0 h1 (br_f (by decide) ⟨rfl, R⟩)))
    · exact tx_slot_n hy (br_t rfl (ty_slot_n hy (br_t rfl ⟨rfl, R⟩)))
  · refine tx_slot_n hx (br_t rfl ?_)
    rcases tp_rg v2 12 (by decide) with ⟨t, ht, rfl⟩ | hy
    · exact ty_slot_y ht (br_f (by decide) (ty_ba_1 hx (br_f (by decide) ⟨rfl, R⟩)))
    · exact ty_slot_n hy (br_t rfl ⟨rfl, R⟩)
theorem i_vc_rim {k : Nat} {u : SX} {v : SY} (I : i_Rel k u v) (hk : k + 4 ≤ 2048) (v1 : Int32) : wpX_rim (fun r => wpY_rim (fun r' v' => r' = r ∧ i_Rel (k + 4) u v') v v1) u v1 := by
  have R : i_Rel (k + 4) u v := I
  obtain ⟨kk, mm, hX, hY⟩ := I
  obtain ⟨f, K, S, M, P, T, U, Q⟩ := u
  obtain ⟨K2, M2, H, A, B, p, q⟩ := v
  have hX0 := hX
  obtain ⟨hK, hM, hC⟩ := hX
  obtain ⟨hK2, hM2⟩ := hY
  unfold wpX_rim wpY_rim
  dsimp only
  rcases tp_rg v1 12 (by decide) with ⟨s, hs, rfl⟩ | hx
  · have h3 := (hC.1 s hs).1
    by_cases h0 : kk s = 0
    · exact tx_raa_2 hK hs h0 (br_f (by decide) (ty_ba_2 hK2 hs h0 (br_f (by decide) ⟨rfl, R⟩)))
    by_cases h1 : kk s = 3
    · refine tx_raa_0 hK hs h1 (br_t rfl ?_)
      refine loop_0 (fun n c (x : Nat) => wX_rim_17 _ (nI s) f K S M P T U Q n (nI x) (nI c)) (fun c x => x = tp_cnt (tp_re (kk s) (tp_sl mm s)) c) 289 0 rfl ?_ ?_
      · intro n x hx
        refine br_t (tp_rfl 289) ?_
        refine ty_ba_0 hK2 hs h1 (br_t (by decide) ?_)
        refine ty_parts1 hK2 hM2 hs h3 (fun A' hA => ?_)
        dsimp only
        refine loop_0 (fun n c (x : Nat) => wY_rimEdges_4 _ K2 M2 H A' B p q n (nI x) (nI c)) (fun c x => x = tp_cnt (tp_re (kk s) (tp_sl mm s)) c) 289 0 rfl ?_ ?_
        · intro n y hy
          subst hx hy
          exact br_t (tp_rfl 289) ⟨rfl, _, _, hX0, hK2, hM2⟩
        · intro n c y hc hy ih
          refine br_f (nI_ge (b := 289) hc (by decide)) (ty_edge hc ?_)
          have hl := tp_pt_le (kk s) (tp_sl mm s) (c / 17) (c % 17)
          rw [nI_clamp (by omega), hA c hc]
          have zf : tp_re (kk s) (tp_sl mm s) c = false → y = tp_cnt (tp_re (kk s) (tp_sl mm s)) (c + 1) := fun e => by rw [hy, tp_cnt, e]; rfl
          have zt : tp_re (kk s) (tp_sl mm s) c = true → y + 1 = tp_cnt (tp_re (kk s) (tp_sl mm s)) (c + 1) := fun e => by rw [hy, tp_cnt, e]; rfl
          refine tp_br (fun e => nm_r (nI_1 c) (ih _ (zf (tp_re_f1 (of_decide_eq_false e))))) (fun e => ⟨vp_in_nI hc (by decide), pk_eq (tp_pt (kk s) (tp_sl mm s) (c / 17) (c % 17)) 1 (fun e2 => nm_r (nI_1 y) (nm_r (nI_1 c) (ih _ (zt (tp_re_t (of_decide_eq_true e) e2))))) (fun e2 => nm_r (nI_1 c) (ih _ (zf (tp_re_f2 e2))))⟩)
      · intro n c x hc hx ih
        refine br_f (nI_ge (b := 289) hc (by decide)) ?_
        refine tx_rime hC hs hc ?_
        refine tp_br (fun e => nm_r (nI_1 c) (ih _ ?_)) (fun e => nm_r (nI_1 x) (nm_r (nI_1 c) (ih _ ?_)))
        · rw [hx, tp_cnt, e]
          rfl
        · rw [hx, tp_cnt, e]
          rfl
    · exact tx_raa_3 hK hs h3 h0 h1 (br_f (by decide) (ty_ba_3 hK2 hs h3 h0 h1 (br_f (by decide) ⟨rfl, R⟩)))
  · exact tx_raa_1 hx (br_f (by decide) (ty_ba_1 hx (br_f (by decide) ⟨rfl, R⟩)))
