theorem i_vc_apart {k : Nat} {u : SX} {v : SY} (I : i_Rel k u v) (hk : k + 4 ≤ 2048) (v1 : Int32) (v2 : Int32) : wpX_apart (fun r => wpY_apart (fun r' => r' = r ∧ i_Rel (k + 4) u v) v v1 v2) u v1 v2 := by
  have R : i_Rel (k + 4) u v := I
  obtain ⟨kk, mm, hX, hY⟩ := I
  obtain ⟨f, K, S, M, P, T, U, Q⟩ := u
  obtain ⟨K2, M2, H, A, B, p, q⟩ := v
  obtain ⟨hK, hM, hC⟩ := hX
  obtain ⟨hK2, hM2⟩ := hY
  unfold wpX_apart wpY_apart
  dsimp only
  rcases tp_rg2 v1 v2 12 (by decide) with ⟨s, t, hs, ht, rfl, rfl⟩ | hx
  · have h3 := (hC.1 s hs).1
    have h3t := (hC.1 t ht).1
    by_cases h0 : kk s = 0 ∨ kk t = 0
    · exact tx_rss_2 hK hs ht h3 h0 (br_f (by decide) (ty_bp_2 hK2 hs ht h3 h0 (br_f (by decide) ⟨rfl, R⟩)))
    · have h01 : kk s ≠ 0 := fun z => h0 (Or.inl z)
      have h02 : kk t ≠ 0 := fun z => h0 (Or.inr z)
      refine tx_rss_0 hK hs ht h3 h3t h01 h02 (br_t rfl ?_)
      refine tx_ls hC hs ht h01 h02 (fun _ => ?_)
      refine ty_bp_0 hK2 hs ht h3 h3t h01 h02 (br_t (by decide) ?_)
      exact ty_dist hK2 hM2 hs ht (hC.1 s hs) (hC.1 t ht) h01 h02 (fun _ => ⟨rfl, R⟩)
  · exact tx_rss_1 hx (br_f (by decide) (ty_bp_1 hx (br_f (by decide) ⟨rfl, R⟩)))
def tp_fn (a : Nat) : Int32 := if a = 12 then -7 else nI a
theorem tp_n7 : ∀ a, a < 12 → ¬ nI a = -7 := by decide
theorem tp_ns_i {ok : Nat → Bool} {D : Nat → Nat} (hD : ∀ e, ok e = true → D e ≤ 128) : ∀ e, ((tp_ns ok D e).1 = 12 ∧ (tp_ns ok D e).2 = 1000) ∨ ((tp_ns ok D e).1 < e ∧ (tp_ns ok D e).2 ≤ 128)
  | 0 => Or.inl ⟨rfl, rfl⟩
  | e + 1 => by
    rw [tp_ns]
    split
    · rename_i h
      exact Or.inr ⟨Nat.lt_succ_self e, hD e h.1⟩
    · rcases tp_ns_i hD e with z | z
      · exact Or.inl z
      · exact Or.inr ⟨by omega, z.2⟩
/-- the slots that nearest looks at, with their distances -/
noncomputable def tp_nD (k : Nat → Nat) (m : Nat → Bool) (s t : Nat) : Nat := @ite Nat (tp_D (tp_vp k m s t) ≤ 128) (Classical.propDecidable _) (tp_D (tp_vp k m s t)) 0
theorem tp_nD_e {k : Nat → Nat} {m : Nat → Bool} {s t : Nat} (h : tp_D (tp_vp k m s t) ≤ 128) : tp_D (tp_vp k m s t) = tp_nD k m s t := by
  unfold tp_nD
  rw [if_pos h]
theorem tp_nD_l (k : Nat → Nat) (m : Nat → Bool) (s t : Nat) : tp_nD k m s t ≤ 128 := by
  unfold tp_nD
  split
  · assumption
  · omega
def tp_nk (k : Nat → Nat) (s t : Nat) : Bool := decide (s ≠ t ∧ k s ≠ 0 ∧ k t ≠ 0)
theorem tx_near21 {post : Int32 → Prop} {f : Int32} {K S M P T U Q : Nat → Int32} {k : Nat → Nat} {m : Nat → Bool} (hK : ∀ x, K x = nI (k x)) (hC : tp_Cr k m S P) {s : Nat} (hs : s < 12) (h : post (tp_fn (tp_ns (tp_nk k s) (tp_nD k m s) 12).1)) : ∃ n, wX_nearest_21 post (nI s) f K S M P T U Q n (-7) 0 0 := by
  refine loop_0 (fun n t (z : Int32 × Int32) => wX_nearest_21 post (nI s) f K S M P T U Q n z.1 z.2 (nI t)) (fun t z => z.1 = tp_fn (tp_ns (tp_nk k s) (tp_nD k m s) t).1 ∧ ((tp_ns (tp_nk k s) (tp_nD k m s) t).1 ≠ 12 → z.2 = nI (tp_ns (tp_nk k s) (tp_nD k m s) t).2)) 12 ((-7 : Int32), (0 : Int32)) ⟨rfl, fun z => absurd rfl z⟩ ?_ ?_
  · rintro n ⟨x, y⟩ ⟨hx, hy⟩
    have hx : x = _ := hx
    refine br_t (tp_rfl 12) ?_
    dsimp only
    rw [hx]
    exact h
  · rintro n t ⟨x, y⟩ ht ⟨hx, hy⟩ ih
    have hx : x = tp_fn (tp_ns (tp_nk k s) (tp_nD k m s) t).1 := hx
    have hy : (tp_ns (tp_nk k s) (tp_nD k m s) t).1 ≠ 12 → y = nI (tp_ns (tp_nk k s) (tp_nD k m s) t).2 := hy
    have hi := tp_ns_i (ok := tp_nk k s) (D := tp_nD k m s) (fun e _ => tp_nD_l k m s e) t
    refine br_f (nI_ge (b := 12) ht (by decide)) ?_
    refine tx_two hK hs ht (hC.1 s hs).1 (hC.1 t ht).1 ?_
    refine tp_br (fun e => nm_r (nI_1 t) (ih (x, y) ?_)) (fun e => ?_)
    · have hk : ¬ (tp_nk k s t = true ∧ tp_nD k m s t < (tp_ns (tp_nk k s) (tp_nD k m s) t).2) := by
        intro z
        have z1 : tp_nk k s t = false := e
        rw [z1] at z
        exact nomatch z.1
      dsimp only
      rw [tp_ns, if_neg hk]
      exact ⟨hx, hy⟩
    · have hk1 : tp_nk k s t = true := e
      have e := of_decide_eq_true e
      refine tx_ls hC hs ht e.2.1 e.2.2 (fun hd => ?_)
      rw [tp_nD_e hd]
      have hl := tp_nD_l k m s t
      have take : tp_nD k m s t < (tp_ns (tp_nk k s) (tp_nD k m s) t).2 → ∀ w : Int32, w = nI (tp_nD k m s t) → (nI t = tp_fn (tp_ns (tp_nk k s) (tp_nD k m s) (t + 1)).1 ∧ ((tp_ns (tp_nk k s) (tp_nD k m s) (t + 1)).1 ≠ 12 → w = nI (tp_ns (tp_nk k s) (tp_nD k m s) (t + 1)).2)) := by
        intro z w hw
        rw [tp_ns, if_pos ⟨hk1, z⟩]
        refine ⟨?_, fun _ => hw⟩
        unfold tp_fn
        rw [if_neg (by show ¬ t = 12; omega)]
      by_cases h12 : (tp_ns (tp_nk k s) (tp_nD k m s) t).1 = 12
      · have hx7 : x = -7 := by
          rw [hx, h12]
          rfl
        exact br_t hx7 (nm_r (nI_1 t) (ih (_, _) (take (by omega) _ rfl)))
      · have hx7 : ¬ x = -7 := by
          rw [hx]
          unfold tp_fn
          rw [if_neg h12]
          exact tp_n7 _ (by omega)
        refine br_f hx7 ?_
        dsimp only
        rw [hy h12]
        refine pk_le (tp_ns (tp_nk k s) (tp_nD k m s) t).2 (tp_nD k m s t) (fun e3 => nm_r (nI_1 t) (ih (_, _) ?_)) (fun e3 => nm_r (nI_1 t) (ih (_, _) (take e3 _ rfl)))
        dsimp only
        rw [tp_ns, if_neg (fun z => by omega)]
        exact ⟨hx, fun _ => rfl⟩
theorem ty_near32 {post : Int32 → Prop} {K M H A B p q : Nat → Int32} {k : Nat → Nat} {m : Nat → Bool} (hK : ∀ x, K x = nI (k x)) (hM : ∀ x, M x = tp_b (m x)) (hO : ∀ s, s < 12 → tp_Ok (k s) (tp_sl m s)) {s : Nat} (hs : s < 12) (h1 : k s ≠ 0) (h : post (tp_fn (tp_ns (tp_nk k s) (tp_nD k m s) 12).1)) : ∃ n, wY_nearest_32 post (nI s) K M H A B p q n (-7) 1000 0 := by
  refine loop_0 (fun n t (z : Nat × Nat) => wY_nearest_32 post (nI s) K M H A B p q n (tp_fn z.1) (nI z.2) (nI t)) (fun t z => z = tp_ns (tp_nk k s) (tp_nD k m s) t) 12 (12, 1000) rfl ?_ ?_
  · intro n z hz
    subst hz
    exact br_t (tp_rfl 12) h
  · intro n t z ht hz ih
    have hi := tp_ns_i (ok := tp_nk k s) (D := tp_nD k m s) (fun e _ => tp_nD_l k m s e) t
    rw [← hz] at hi
    have h3 := (hO t ht).1
    have no : (¬ (s ≠ t ∧ k s ≠ 0 ∧ k t ≠ 0)) → z = tp_ns (tp_nk k s) (tp_nD k m s) (t + 1) := by
      intro e
      have e1 : tp_nk k s t = false := decide_eq_false e
      rw [tp_ns, if_neg (fun y => by rw [e1] at y; exact nomatch y.1)]
      exact hz
    refine br_f (nI_ge (b := 12) ht (by decide)) ?_
    rw [nI_clamp (by omega), hK t]
    refine pk_eq t s (fun e => nm_r (nI_1 t) (ih z (no (fun y => y.1 e.symm)))) (fun e => ⟨tp_in12 ht, pk_le (k t) 0 (fun e1 => nm_r (nI_1 t) (ih z (no (fun y => y.2.2 (by omega))))) (fun e1 => ?_)⟩)
    refine ty_dist hK hM hs ht (hO s hs) (hO t ht) h1 (by omega) (fun hd => ?_)
    rw [tp_nD_e hd]
    have hl := tp_nD_l k m s t
    have hk1 : tp_nk k s t = true := decide_eq_true ⟨fun y => e y.symm, h1, by omega⟩
    refine pk_le z.2 (tp_nD k m s t) (fun e3 => ?_) (fun e3 => ?_)
    · refine br_t (nI_le e3 (by omega)) (nm_r (nI_1 t) (ih z ?_))
      rw [tp_ns, if_neg (fun y => by rw [← hz] at y; omega)]
      exact hz
    · refine br_f (fun y => ?_) (nm_r (nI_1 t) ?_)
      · have := (nI_leI (by omega) (by omega)).mp y
        omega
      · have hr := ih (t, tp_nD k m s t) (by rw [tp_ns, if_pos ⟨hk1, by rw [← hz]; exact e3⟩])
        have et : tp_fn t = nI t := by
          unfold tp_fn
          rw [if_neg (by omega)]
        dsimp only at hr
        rw [et] at hr
        exact hr
theorem i_vc_nearest {k : Nat} {u : SX} {v : SY} (I : i_Rel k u v) (hk : k + 4 ≤ 2048) (v1 : Int32) : wpX_nearest (fun r => wpY_nearest (fun r' => r' = r ∧ i_Rel (k + 4) u v) v v1) u v1 := by
  have R : i_Rel (k + 4) u v := I
  obtain ⟨kk, mm, hX, hY⟩ := I
  obtain ⟨f, K, S, M, P, T, U, Q⟩ := u
  obtain ⟨K2, M2, H, A, B, p, q⟩ := v
  obtain ⟨hK, hM, hC⟩ := hX
  obtain ⟨hK2, hM2⟩ := hY
  unfold wpX_nearest
  dsimp only
  rcases tp_rg v1 12 (by decide) with ⟨s, hs, rfl⟩ | hx
  · have h3 := (hC.1 s hs).1
    by_cases h0 : kk s = 0
    · refine tx_ras_2 hK hs h0 (br_f (by decide) ?_)
      unfold wpY_nearest
      dsimp only
      rw [nI_clamp (by omega), hK2 s, h0]
      exact ty_slot_y hs (br_f (by decide) ⟨tp_in12 hs, br_t rfl ⟨rfl, R⟩⟩)
    · refine tx_ras_0 hK hs h3 h0 (br_t rfl ?_)
      refine tx_near21 hK hC hs ?_
      unfold wpY_nearest
      dsimp only
      rw [nI_clamp (by omega), hK2 s]
      refine ty_slot_y hs (br_f (by decide) ⟨tp_in12 hs, br_f (nI_ne0 (by omega) (by omega)) ?_⟩)
      exact ty_near32 hK2 hM2 hC.1 hs h0 ⟨rfl, R⟩
  · refine tx_ras_1 hx (br_f (by decide) ?_)
    unfold wpY_nearest
    dsimp only
    exact ty_slot_n hx (br_t rfl ⟨rfl, R⟩)
/-- a slot's body reaches into the window -/
def tp_wd (k : Nat → Nat) (m : Nat → Bool) (f t s : Nat) : Bool := tp_an (fun v => tp_bx f t (2 * (v / 9)) (2 * (v % 9)) && tp_vb k m s v) 81
theorem tp_wd_t {k : Nat → Nat} {m : Nat → Bool} {f t s : Nat} (H : tp_Ok (k s) (tp_sl m s)) (hf : f < 81) (ht : t < 81) : tp_wd k m f t s = true ↔ ∃ i j, tp_bx f t i j = true ∧ tp_pt (k s) (tp_sl m s) i j ≠ 2 := by
  rw [← tp_win H hf ht]
  unfold tp_wd
  rw [tp_an_t]
  constructor
  · rintro ⟨v, hv, e⟩
    rw [Bool.and_eq_true] at e
    exact ⟨v, hv, e.1, of_decide_eq_true e.2⟩
  · rintro ⟨v, hv, e1, e2⟩
    refine ⟨v, hv, ?_⟩
    rw [e1, Bool.true_and]
    exact decide_eq_true e2
theorem ty_inw {post : Int32 → Prop} {K M H A B p q : Nat → Int32} {k : Nat → Nat} {m : Nat → Bool} (hK : ∀ x, K x = nI (k x)) (hM : ∀ x, M x = tp_b (m x)) {s f t : Nat} (hs : s < 12) (h3 : k s ≤ 3) (hf : f < 81) (ht : t < 81) (h : post (tp_b (tp_wd k m f t s))) : wpY_isInWindow post (K, M, H, A, B, p, q) (nI s) (nI f) (nI t) := by
  refine loop_0 (fun n v (x : Bool) => wY_isInWindow_6 post (nI s) (nI f) (nI t) K M H A B p q n (tp_b x) (nI v)) (fun v x => x = tp_an (fun v => tp_bx f t (2 * (v / 9)) (2 * (v % 9)) && tp_vb k m s v) v) 81 false rfl ?_ ?_
  · intro n x hx
    subst hx
    exact br_t (tp_rfl 81) ⟨tp_nab _, h⟩
  · intro n v x hv hx ih
    refine br_f (nI_ge (b := 81) hv (by decide)) ?_
    rw [tp_r9 (by omega), tp_d9 (by omega), tp_t2, tp_t2]
    refine tp_br (fun e => ⟨tp_9, tp_9, ?_⟩) (fun e => nm_r (nI_1 v) (ih true ?_))
    · refine ty_btw (by omega) (by omega) hf ht ?_
      refine tp_br (fun e1 => nm_r (nI_1 v) (ih false ?_)) (fun e1 => ?_)
      · rw [tp_an, ← hx, e, e1]
        rfl
      · refine ty_body hK hM hs h3 hv ?_
        refine tp_br (fun e2 => nm_r (nI_1 v) (ih false ?_)) (fun e2 => nm_r (nI_1 v) (ih true ?_))
        · rw [tp_an, ← hx, e, e1, e2]
          rfl
        · rw [tp_an, ← hx, e, e1, e2]
          rfl
    · rw [tp_an, ← hx, e]
      rfl
theorem tx_rin {post : Int32 → Prop} {fl : Int32} {K S M P T U Q : Nat → Int32} {k : Nat → Nat} {m : Nat → Bool} (hC : tp_Cr k m S P) {s f t : Nat} (hs : s < 12) (hf : f < 81) (ht : t < 81) (h : post (tp_b (tp_wd k m f t s))) : wpX_reachesInto post (fl, K, S, M, P, T, U, Q) (nI s) (nI f) (nI t) := by
  have hw := tp_wd_t (hC.1 s hs) hf ht
  unfold wpX_reachesInto
  dsimp only
  refine tx_highI hf ht ?_
  refine tx_highJ hf ht ?_
  refine tx_lowI hf ht ?_
  have b1 : tp_mn (f / 9) (t / 9) ≤ tp_mx (f / 9) (t / 9) := by unfold tp_mn tp_mx; split <;> split <;> omega
  have b2 : tp_mx (f / 9) (t / 9) ≤ 8 := tp_mx_l (by omega) (by omega)
  have b3 : tp_mn (f % 9) (t % 9) ≤ tp_mx (f % 9) (t % 9) := by unfold tp_mn tp_mx; split <;> split <;> omega
  have b4 : tp_mx (f % 9) (t % 9) ≤ 8 := tp_mx_l (by omega) (by omega)
  refine pk_loop (fun n i (_ : Unit) => wX_reachesInto_21 post (nI s) (nI f) (nI t) (nI (2 * tp_mx (f / 9) (t / 9))) (nI (2 * tp_mx (f % 9) (t % 9))) fl K S M P T U Q n (nI i)) (fun i _ => 2 * tp_mn (f / 9) (t / 9) ≤ i ∧ ∀ a b, a < i → tp_bx f t a b = true → tp_pt (k s) (tp_sl m s) a b = 2) (2 * tp_mx (f / 9) (t / 9) + 1) (2 * tp_mn (f / 9) (t / 9)) () (by omega) ⟨Nat.le_refl _, fun a b ha e => ?_⟩ ?_ ?_
  · rw [tp_bx_t] at e
    omega
  · rintro n _ ⟨_, hI⟩
    refine br_t (nI_lt (by omega) (by omega)) (tp_p0 h ?_)
    rw [← Bool.not_eq_true, hw]
    rintro ⟨i, j, e1, e2⟩
    refine e2 (hI i j ?_ e1)
    rw [tp_bx_t] at e1
    omega
  · rintro n i _ hi ⟨hi0, hI⟩ ih
    refine br_f (nI_nlt (by omega) (by omega)) ?_
    refine tx_lowJ hf ht ?_
    refine pk_loop (fun n j (_ : Unit) => wX_reachesInto_35 post _ (nI s) (nI f) (nI t) (nI (2 * tp_mx (f / 9) (t / 9))) (nI (2 * tp_mx (f % 9) (t % 9))) (nI i) fl K S M P T U Q n (nI j)) (fun j _ => 2 * tp_mn (f % 9) (t % 9) ≤ j ∧ ∀ b, b < j → tp_bx f t i b = true → tp_pt (k s) (tp_sl m s) i b = 2) (2 * tp_mx (f % 9) (t % 9) + 1) (2 * tp_mn (f % 9) (t % 9)) () (by omega) ⟨Nat.le_refl _, fun b hb e => ?_⟩ ?_ ?_
    · rw [tp_bx_t] at e
      omega
    · rintro n _ ⟨_, hJ⟩
      refine br_t (nI_lt (by omega) (by omega)) (nm_r (nI_1 i) (ih () ⟨by omega, fun a b ha e => ?_⟩))
      by_cases z : a = i
      · subst z
        refine hJ b ?_ e
        rw [tp_bx_t] at e
        omega
      · exact hI a b (by omega) e
    · rintro n j _ hj ⟨hj0, hJ⟩ ih2
      refine br_f (nI_nlt (by omega) (by omega)) ?_
      refine tx_inb hC hs (by omega) (by omega) ?_
      refine tp_br (fun e => nm_r (nI_1 j) (ih2 () ⟨by omega, fun b hb e2 => ?_⟩)) (fun e => tp_p1 h ?_)
      · by_cases z : b = j
        · subst z
          exact Decidable.not_not.mp (of_decide_eq_false e)
        · exact hJ b (by omega) e2
      · rw [hw]
        refine ⟨i, j, ?_, of_decide_eq_true e⟩
        rw [tp_bx_t]
        omega
def tp_wk2 (k : Nat → Nat) (m : Nat → Bool) (f t s : Nat) : Bool := decide (k s ≠ 0) && tp_wd k m f t s
theorem tp_sub0 (a b : Int32) : a - b = 0 ↔ b = a := by
  constructor
  · intro h
    have h2 : a - b + b = 0 + b := by rw [h]
    rw [Int32.sub_add_cancel, Int32.zero_add] at h2
    exact h2.symm
  · intro h
    rw [h]
    exact Int32.sub_self _
theorem tp_subs (a : Int32) (c : Nat) : a - nI c + (-1) = a - nI (c + 1) := by
  rw [← nI_1]
  generalize nI c = b
  grind
theorem tx_inw23 {post : Int32 → Prop} {fl : Int32} {K S M P T U Q : Nat → Int32} {k : Nat → Nat} {m : Nat → Bool} (hK : ∀ x, K x = nI (k x)) (hC : tp_Cr k m S P) {f t : Nat} (hf : f < 81) (ht : t < 81) (v3 : Int32) (h : post (tp_iw (tp_wk2 k m f t) v3 12 0 0)) : ∃ n, wX_inWindow_23 post (nI f) (nI t) v3 fl K S M P T U Q n 0 0 := by
  refine loop_0 (fun n s (c : Nat) => wX_inWindow_23 post (nI f) (nI t) v3 fl K S M P T U Q n (nI c) (nI s)) (fun s c => post (tp_iw (tp_wk2 k m f t) v3 (12 - s) s c)) 12 0 h ?_ ?_
  · intro n c hc
    exact br_t (tp_rfl 12) hc
  · intro n s c hs hc ih
    have h3 := (hC.1 s hs).1
    rw [show 12 - s = (12 - (s + 1)) + 1 from by omega, tp_iw] at hc
    refine br_f (nI_ge (b := 12) hs (by decide)) ⟨tp_in12 hs, ?_⟩
    rw [nI_clamp (by omega), hK s]
    have no : tp_wk2 k m f t s = false → post (tp_iw (tp_wk2 k m f t) v3 (12 - (s + 1)) (s + 1) c) := by
      intro e
      rw [e] at hc
      exact hc
    refine pk_eq (k s) 0 (fun e => nm_r (nI_1 s) (ih c (no ?_))) (fun e => ?_)
    · unfold tp_wk2
      rw [decide_eq_false (fun z => z e), Bool.false_and]
    · refine tx_rin hC hs hf ht ?_
      refine tp_br (fun e1 => nm_r (nI_1 s) (ih c (no ?_))) (fun e1 => ?_)
      · unfold tp_wk2
        rw [e1, Bool.and_false]
      · have e2 : tp_wk2 k m f t s = true := by
          unfold tp_wk2
          rw [e1, decide_eq_true e]
          rfl
        rw [if_pos e2] at hc
        refine br_c (fun z => ?_) (fun z => nm_r (nI_1 c) (nm_r (nI_1 s) (ih (c + 1) ?_)))
        · rw [if_pos z] at hc
          exact hc
        · rw [if_neg z] at hc
          exact hc
theorem ty_inw25 {post : Int32 → Prop} {K M H A B p q : Nat → Int32} {k : Nat → Nat} {m : Nat → Bool} (hK : ∀ x, K x = nI (k x)) (hM : ∀ x, M x = tp_b (m x)) (hO : ∀ s, s < 12 → tp_Ok (k s) (tp_sl m s)) {f t : Nat} (hf : f < 81) (ht : t < 81) (v3 : Int32) (h : post (tp_iw (tp_wk2 k m f t) v3 12 0 0)) : ∃ n, wY_inWindow_25 post (nI f) (nI t) K M H A B p q n v3 0 := by
  have key : ∃ n, wY_inWindow_25 post (nI f) (nI t) K M H A B p q n (v3 - nI 0) 0 := by
    refine loop_0 (fun n s (c : Nat) => wY_inWindow_25 post (nI f) (nI t) K M H A B p q n (v3 - nI c) (nI s)) (fun s c => post (tp_iw (tp_wk2 k m f t) v3 (12 - s) s c)) 12 0 h ?_ ?_
    · intro n c hc
      exact br_t (tp_rfl 12) hc
    · intro n s c hs hc ih
      have h3 := (hO s hs).1
      rw [show 12 - s = (12 - (s + 1)) + 1 from by omega, tp_iw] at hc
      refine br_f (nI_ge (b := 12) hs (by decide)) ⟨tp_in12 hs, ?_⟩
      rw [nI_clamp (by omega), hK s]
      have no : tp_wk2 k m f t s = false → post (tp_iw (tp_wk2 k m f t) v3 (12 - (s + 1)) (s + 1) c) := by
        intro e
        rw [e] at hc
        exact hc
      refine pk_le (k s) 0 (fun e => nm_r (nI_1 s) (ih c (no ?_))) (fun e => ?_)
      · unfold tp_wk2
        rw [decide_eq_false (fun z => z (by omega)), Bool.false_and]
      · refine ty_inw hK hM hs h3 hf ht ?_
        refine tp_br (fun e1 => nm_r (nI_1 s) (ih c (no ?_))) (fun e1 => ?_)
        · unfold tp_wk2
          rw [e1, Bool.and_false]
        · have e2 : tp_wk2 k m f t s = true := by
            unfold tp_wk2
            rw [e1, decide_eq_true (by omega)]
            rfl
          rw [if_pos e2] at hc
          refine br_c (fun z => ?_) (fun z => nm_r (tp_subs v3 c) (nm_r (nI_1 s) (ih (c + 1) ?_)))
          · rw [if_pos ((tp_sub0 _ _).mp z)] at hc
            exact hc
          · rw [if_neg (fun y => z ((tp_sub0 _ _).mpr y))] at hc
            exact hc
  rw [show v3 - nI 0 = v3 from Int32.sub_zero _] at key
  exact key
theorem i_vc_inWindow {k : Nat} {u : SX} {v : SY} (I : i_Rel k u v) (hk : k + 4 ≤ 2048) (v1 : Int32) (v2 : Int32) (v3 : Int32) : wpX_inWindow (fun r => wpY_inWindow (fun r' => r' = r ∧ i_Rel (k + 4) u v) v v1 v2 v3) u v1 v2 v3 := by
  have R : i_Rel (k + 4) u v := I
  obtain ⟨kk, mm, hX, hY⟩ := I
  obtain ⟨f, K, S, M, P, T, U, Q⟩ := u
  obtain ⟨K2, M2, H, A, B, p, q⟩ := v
  obtain ⟨hK, hM, hC⟩ := hX
  obtain ⟨hK2, hM2⟩ := hY
  unfold wpX_inWindow wpY_inWindow
  dsimp only
  rcases tp_rg v1 81 (by decide) with ⟨a, ha, rfl⟩ | hx
  · refine tx_vert_y ha (br_f (by decide) ?_)
    rcases tp_rg v2 81 (by decide) with ⟨b, hb, rfl⟩ | hy
    · refine tx_vert_y hb (br_f (by decide) ?_)
      refine tx_inw23 hK hC ha hb v3 ?_
      refine ty_vert_y ha (br_f (by decide) ?_)
      refine ty_vert_y hb (br_f (by decide) ?_)
      exact ty_inw25 hK2 hM2 hC.1 ha hb v3 ⟨rfl, R⟩
    · refine tx_vert_n hy (br_t rfl ?_)
      exact ty_vert_y ha (br_f (by decide) (ty_vert_n hy (br_t rfl ⟨rfl, R⟩)))
  · exact tx_vert_n hx (br_t rfl (ty_vert_n hx (br_t rfl ⟨rfl, R⟩)))
