def i_Rel (k : Nat) (u : SX) (v : SY) : Prop := ∃ (kk : Nat → Nat) (mm : Nat → Bool), tp_X kk mm u ∧ tp_Y kk mm v
theorem i_up {k : Nat} {u : SX} {v : SY} (h : i_Rel k u v) : i_Rel (k + 4) u v := h
theorem tp_Ok0 : tp_Ok 0 (fun _ => false) := ⟨by omega, (fun c hc e => nomatch e), fun h => absurd rfl h⟩
theorem tp_Cr0 {S P : Nat → Int32} (h1 : ∀ s, s < 12 → S s = nI 0) (h2 : ∀ s, s < 12 → ∀ c, c < 289 → P (289 * s + c) = nI 2) : tp_Cr (fun _ => 0) (fun _ => false) S P := by
  refine ⟨fun s hs => tp_Ok0, fun s hs => ?_, fun s hs c hc => ?_⟩
  · rw [h1 s hs, tp_cnt_y (f := tp_sl (fun _ => false) s) 289 (fun c _ => rfl)]
  · rw [h2 s hs c hc]
    exact congrArg nI (tp_pt_0 tp_Ok0 _ _).symm
theorem i_vc0 : wpX_init (fun u => wpY_init (fun v => i_Rel 0 u v)) := by
  refine loop_0 (fun n s (u : SX) => match u with | (f, K, S, M, P, T, U, Q) => wX_init_66 (fun u => wpY_init (fun v => i_Rel 0 u v)) n (nI s) f K S M P T U Q) (fun s (u : SX) => match u with | (_, K, S, M, P, _, _, _) => (∀ x, K x = nI 0) ∧ (∀ x, M x = tp_b false) ∧ (∀ s', s' < s → S s' = nI 0) ∧ (∀ s', s' < s → ∀ c, c < 289 → P (289 * s' + c) = nI 2)) 12 (0, (fun _ => 0), (fun _ => 0), (fun _ => 0), (fun _ => 0), (fun _ => 0), (fun _ => 0), (fun _ => 0)) ⟨fun _ => rfl, fun _ => rfl, fun s' h => absurd h (by omega), fun s' h => absurd h (by omega)⟩ ?_ ?_
  · rintro n ⟨f, K, S, M, P, T, U, Q⟩ ⟨hK, hM, hS, hP⟩
    refine br_t (tp_rfl 12) ?_
    exact ⟨fun _ => 0, fun _ => false, ⟨hK, hM, tp_Cr0 hS hP⟩, fun _ => rfl, fun _ => rfl⟩
  · rintro n s ⟨f, K, S, M, P, T, U, Q⟩ hs ⟨hK, hM, hS, hP⟩ ih
    refine br_f (nI_ge (b := 12) hs (by decide)) ?_
    refine tx_settle (k := fun _ => 0) (m := fun _ => false) (q := 0) hK hM hs (by omega) (fun K' P' a b o => nm_r (nI_1 s) (ih (_, _, _, _, _, _, _, _) ⟨fun x => ?_, hM, fun s' hs' => ?_, fun s' hs' c hc => ?_⟩))
    · rw [a x]
      refine congrArg nI ?_
      unfold tp_v
      split
      · split <;> rfl
      · rfl
    · by_cases e : s' = s
      · subst e
        rw [pk_us, tp_cnt_y (f := tp_sl (fun _ => false) s') 289 (fun c _ => rfl)]
      · rw [pk_un e]
        exact hS s' (by omega)
    · by_cases e : s' = s
      · subst e
        rw [b c hc]
        refine congrArg nI ?_
        rw [show (if tp_cnt (tp_sl (fun _ => false) s') 289 = 0 then 0 else 0) = 0 from by split <;> rfl]
        rw [tp_px_pt (g := tp_sl (fun _ => false) s') tp_Ok0, tp_pt_0 (g := tp_sl (fun _ => false) s') tp_Ok0]
      · rw [o _ (by omega)]
        exact hP s' (by omega) c hc
theorem i_vc_kind {k : Nat} {u : SX} {v : SY} (I : i_Rel k u v) (hk : k + 4 ≤ 2048) (v1 : Int32) : wpX_kind (fun r => wpY_kind (fun r' => r' = r ∧ i_Rel (k + 4) u v) v v1) u v1 := by
  have R : i_Rel (k + 4) u v := I
  obtain ⟨kk, mm, hX, hY⟩ := I
  obtain ⟨f, K, S, M, P, T, U, Q⟩ := u
  obtain ⟨K2, M2, H, A, B, p, q⟩ := v
  obtain ⟨hK, hM, hC⟩ := hX
  obtain ⟨hK2, hM2⟩ := hY
  unfold wpX_kind wpY_kind
  dsimp only
  rcases tp_rg v1 12 (by decide) with ⟨s, hs, rfl⟩ | hx
  · refine tx_slot_y hs (br_f (by decide) ⟨tp_in12 hs, ?_⟩)
    refine ty_slot_y hs (br_f (by decide) ⟨tp_in12 hs, ?_⟩)
    exact ⟨by rw [hK, hK2], R⟩
  · exact tx_slot_n hx (br_t rfl (ty_slot_n hx (br_t rfl ⟨rfl, R⟩)))
theorem i_vc_size {k : Nat} {u : SX} {v : SY} (I : i_Rel k u v) (hk : k + 4 ≤ 2048) (v1 : Int32) : wpX_size (fun r => wpY_size (fun r' => r' = r ∧ i_Rel (k + 4) u v) v v1) u v1 := by
  have R : i_Rel (k + 4) u v := I
  obtain ⟨kk, mm, hX, hY⟩ := I
  obtain ⟨f, K, S, M, P, T, U, Q⟩ := u
  obtain ⟨K2, M2, H, A, B, p, q⟩ := v
  obtain ⟨hK, hM, hC⟩ := hX
  obtain ⟨hK2, hM2⟩ := hY
  unfold wpX_size wpY_size
  dsimp only
  rcases tp_rg v1 12 (by decide) with ⟨s, hs, rfl⟩ | hx
  · refine tx_slot_y hs (br_f (by decide) ⟨tp_in12 hs, ?_⟩)
    refine ty_slot_y hs (br_f (by decide) ?_)
    refine ty_count hM2 hs ⟨?_, R⟩
    rw [nI_clamp (by omega), hC.2.1 s hs]
  · exact tx_slot_n hx (br_t rfl (ty_slot_n hx (br_t rfl ⟨rfl, R⟩)))
theorem i_vc_clear {k : Nat} {u : SX} {v : SY} (I : i_Rel k u v) (hk : k + 4 ≤ 2048) (v1 : Int32) : wpX_clear (fun r u' => wpY_clear (fun r' v' => r' = r ∧ i_Rel (k + 4) u' v') v v1) u v1 := by
  have R : i_Rel (k + 4) u v := I
  obtain ⟨kk, mm, hX, hY⟩ := I
  obtain ⟨f, K, S, M, P, T, U, Q⟩ := u
  obtain ⟨K2, M2, H, A, B, p, q⟩ := v
  obtain ⟨hK, hM, hC⟩ := hX
  obtain ⟨hK2, hM2⟩ := hY
  unfold wpX_clear wpY_clear
  dsimp only
  rcases tp_rg v1 12 (by decide) with ⟨s, hs, rfl⟩ | hx
  · refine tx_slot_y hs (br_f (by decide) ⟨tp_in12 hs, nm_e ?_⟩)
    refine loop_0 (fun n c M => wX_clear_18 _ (nI s) _ f n (nI c) K S M P T U Q) (fun c M => ∀ x, M x = tp_b (tp_w mm s (fun _ => false) c x)) 289 M (fun x => by rw [tp_w_0]; exact hM x) ?_ ?_
    · intro n M' hM'
      refine br_t (tp_rfl 289) ?_
      refine tx_fin (q := 0) hC hK hM' hs (by omega) (fun c hc e => nomatch e) (fun f K' S M P T U Q hu hS => ?_)
      refine ty_slot_y hs (br_f (by decide) ⟨tp_in12 hs, nm_e ?_⟩)
      refine ty_empty hK2 hM2 hs (fun v hv => ?_)
      obtain ⟨K3, M3, H, A, B, p, q⟩ := v
      refine ⟨by rw [hK, hK2], _, _, hu, ?_⟩
      rw [show (if tp_cnt (fun _ => false) 289 = 0 then 0 else 0) = 0 from by split <;> rfl]
      exact hv
    · intro n c M' hc hM' ih
      refine br_f (nI_ge (b := 289) hc (by decide)) ?_
      rw [tp_ix1, nI_clamp (by omega), tp_nar0]
      exact ⟨vp_in_nI (by omega) (by decide), nm_e (nm_r (nI_1 c) (ih _ (tp_wu hM' rfl)))⟩
  · exact tx_slot_n hx (br_t rfl (ty_slot_n hx (br_t rfl ⟨rfl, R⟩)))
theorem i_vc_point {k : Nat} {u : SX} {v : SY} (I : i_Rel k u v) (hk : k + 4 ≤ 2048) (v1 : Int32) (v2 : Int32) : wpX_point (fun r u' => wpY_point (fun r' v' => r' = r ∧ i_Rel (k + 4) u' v') v v1 v2) u v1 v2 := by
  have R : i_Rel (k + 4) u v := I
  obtain ⟨kk, mm, hX, hY⟩ := I
  obtain ⟨f, K, S, M, P, T, U, Q⟩ := u
  obtain ⟨K2, M2, H, A, B, p, q⟩ := v
  obtain ⟨hK, hM, hC⟩ := hX
  obtain ⟨hK2, hM2⟩ := hY
  unfold wpX_point
  dsimp only
  rcases tp_rg v1 12 (by decide) with ⟨s, hs, rfl⟩ | hx
  · have h3 := (hC.1 s hs).1
    by_cases h1 : kk s ≤ 1
    · rcases tp_rg v2 81 (by decide) with ⟨a, ha, rfl⟩ | hx
      · refine tx_rta_x (q := 1) hK hs h3 (by omega) (by omega) (tx_rta_0 ha ha (br_t rfl ?_))
        refine tx_mark (q := 1) (b := true) hM hs (by omega) (by omega) ha ha (fun M' hM' => ?_)
        refine tx_fin (q := 1) hC hK hM' hs (by omega) (tp_mk_t (hC.1 s hs) (by omega) true) (fun f K' S M P T U Q hu hS => ⟨tp_in12 hs, ?_⟩)
        dsimp only
        rw [nI_clamp (by omega), hS]
        have hp : ∃ c, c < 289 ∧ tp_mk (tp_sl mm s) 1 a a true c = true := ⟨17 * (2 * (a / 9)) + 2 * (a % 9), by omega, by rw [tp_mk_1 ha _ _ (by omega), tp_u_s]⟩
        rw [tp_Ok_p hp] at hu
        have em : tp_u mm (289 * s + (17 * (2 * (a / 9)) + 2 * (a % 9))) true = tp_w mm s (tp_mk (tp_sl mm s) 1 a a true) 289 := by
          rw [tp_w_u mm s _ true (by omega)]
          exact tp_w_c mm s (fun c hc => (tp_mk_1 ha _ c hc).symm)
        unfold wpY_point
        dsimp only
        refine ty_slot_y hs (br_f (by decide) ⟨tp_in12 hs, ?_⟩)
        rw [nI_clamp (by omega), hK2 s, tp_r9 (by omega), tp_d9 (by omega)]
        have ei : 289 * nI s + 34 * nI (a / 9) + 2 * nI (a % 9) = nI (289 * s + (17 * (2 * (a / 9)) + 2 * (a % 9))) := by
          rw [show (289 : Int32) = nI 289 from rfl, show (34 : Int32) = nI 34 from rfl, show (2 : Int32) = nI 2 from rfl, pk_mul, pk_mul, pk_mul, nI_add, nI_add]
          exact congrArg nI (by omega)
        rw [ei, nI_clamp (by omega), tp_nar1]
        refine br_t (nI_le (b := 1) h1 (by decide)) ?_
        refine ty_vert_y ha (br_f (by decide) ⟨tp_in12 hs, nm_e ⟨tp_9, tp_9, vp_in_nI (by omega) (by decide), nm_e ?_⟩⟩)
        have hM3 : ∀ x, upd M2 (289 * s + (17 * (2 * (a / 9)) + 2 * (a % 9))) (tp_b true) x = tp_b (tp_w mm s (tp_mk (tp_sl mm s) 1 a a true) 289 x) := by
          intro x
          rw [tp_uM hM2, em]
        refine ty_count hM3 hs ⟨?_, _, _, hu, fun x => tp_uK hK2 s 1 x, hM3⟩
        rw [tp_cnt_congr 289 (tp_sl_w mm s _)]
      · refine tx_rta_x (q := 1) hK hs h3 (by omega) (by omega) (tx_rta_4 (Or.inl hx) (br_f (by decide) ?_))
        unfold wpY_point
        dsimp only
        refine ty_slot_y hs (br_f (by decide) ⟨tp_in12 hs, ?_⟩)
        rw [nI_clamp (by omega), hK2 s]
        exact br_t (nI_le (b := 1) h1 (by decide)) (ty_vert_n hx (br_t rfl ⟨rfl, R⟩))
    · refine tx_rta_3 (q := 1) hK hs h3 (by omega) (by omega) (by omega) (br_f (by decide) ?_)
      unfold wpY_point
      dsimp only
      refine ty_slot_y hs (br_f (by decide) ⟨tp_in12 hs, ?_⟩)
      rw [nI_clamp (by omega), hK2 s]
      exact br_f (fun z => h1 ((nI_leI (b := 1) (by omega) (by decide)).mp z)) ⟨rfl, R⟩
  · refine tx_rta_1 hx (br_f (by decide) ?_)
    unfold wpY_point
    dsimp only
    exact ty_slot_n hx (br_t rfl ⟨rfl, R⟩)
