/-- a pair of slots counted by pairs -/
def tp_pr (k : Nat → Nat) (m : Nat → Bool) (w : Nat) : Nat → Bool := fun x => decide (x / 12 ≠ x % 12 ∧ k (x / 12) ≠ 0 ∧ k (x % 12) ≠ 0) && tp_so (k (x / 12)) (k (x % 12)) (tp_ps k m (x / 12)) (tp_ps k m (x % 12)) w
theorem tx_two {post : Int32 → Prop} {f : Int32} {K S M P T U Q : Nat → Int32} {k : Nat → Nat} (hK : ∀ x, K x = nI (k x)) {s t : Nat} (hs : s < 12) (ht : t < 12) (h3 : k s ≤ 3) (h3t : k t ≤ 3) (h : post (tp_b (decide (s ≠ t ∧ k s ≠ 0 ∧ k t ≠ 0)))) : wpX_areTwoShapes post (f, K, S, M, P, T, U, Q) (nI s) (nI t) := by
  unfold wpX_areTwoShapes
  dsimp only
  rw [nI_clamp (by omega), nI_clamp (by omega), hK s, hK t]
  exact pk_eq s t (fun e => tp_p0 h (decide_eq_false (fun z => z.1 e))) (fun e => ⟨tp_in12 hs, pk_eq (k s) 0 (fun e1 => tp_p0 h (decide_eq_false (fun z => z.2.1 e1))) (fun e1 => ⟨tp_in12 ht, pk_eq (k t) 0 (fun e2 => tp_p0 h (decide_eq_false (fun z => z.2.2 e2))) (fun e2 => tp_p1 h (decide_eq_true ⟨e, e1, e2⟩))⟩)⟩)
theorem tx_pairs14 {post : Int32 → SX → Prop} {f : Int32} {K S M P T U Q : Nat → Int32} {k : Nat → Nat} {m : Nat → Bool} (hK : ∀ x, K x = nI (k x)) (hC : tp_Cr k m S P) {w : Nat} (hw : w < 7) (h : ∀ T', post (nI (tp_cnt (tp_pr k m w) 144)) (f, K, S, M, P, T', U, Q)) : ∃ n, wX_pairs_14 post (nI w) n 0 0 f K S M P T U Q := by
  refine loop_0 (fun n s (z : Nat × (Nat → Int32)) => wX_pairs_14 post (nI w) n (nI z.1) (nI s) f K S M P z.2 U Q) (fun s z => z.1 = tp_cnt (tp_pr k m w) (12 * s)) 12 (0, T) rfl ?_ ?_
  · rintro n ⟨x, T'⟩ hx
    have hx : x = _ := hx
    subst hx
    exact br_t (tp_rfl 12) (h T')
  · rintro n s ⟨x, T'⟩ hs hx ih
    have hx : x = tp_cnt (tp_pr k m w) (12 * s) := hx
    refine br_f (nI_ge (b := 12) hs (by decide)) ?_
    refine loop_0 (fun n t (z : Nat × (Nat → Int32)) => wX_pairs_23 post _ (nI w) (nI s) n (nI z.1) (nI t) f K S M P z.2 U Q) (fun t z => z.1 = tp_cnt (tp_pr k m w) (12 * s + t)) 12 (x, T') hx ?_ ?_
    · rintro n ⟨y, T2⟩ hy
      exact br_t (tp_rfl 12) (nm_r (nI_1 s) (ih (y, T2) hy))
    · rintro n t ⟨y, T2⟩ ht hy ih2
      have hy : y = tp_cnt (tp_pr k m w) (12 * s + t) := hy
      refine br_f (nI_ge (b := 12) ht (by decide)) ?_
      refine tx_two hK hs ht (hC.1 s hs).1 (hC.1 t ht).1 ?_
      have e1 : (12 * s + t) / 12 = s := by omega
      have e2 : (12 * s + t) % 12 = t := by omega
      have hp : tp_pr k m w (12 * s + t) = (decide (s ≠ t ∧ k s ≠ 0 ∧ k t ≠ 0) && tp_so (k s) (k t) (tp_ps k m s) (tp_ps k m t) w) := by
        unfold tp_pr
        rw [e1, e2]
      have cf : tp_pr k m w (12 * s + t) = false → y = tp_cnt (tp_pr k m w) (12 * s + (t + 1)) := by
        intro e
        rw [hy, ← Nat.add_assoc, tp_cnt, e]
        rfl
      have ct : tp_pr k m w (12 * s + t) = true → y + 1 = tp_cnt (tp_pr k m w) (12 * s + (t + 1)) := by
        intro e
        rw [hy, ← Nat.add_assoc, tp_cnt, e]
        rfl
      refine tp_br (fun e => nm_r (nI_1 t) (ih2 (y, T2) (cf ?_))) (fun e => ?_)
      · rw [hp, e, Bool.false_and]
      · refine tx_so hK hC hs ht hw (fun T3 => ?_)
        dsimp only
        refine tp_br (fun e3 => nm_r (nI_1 t) (ih2 (y, T3) (cf ?_))) (fun e3 => nm_r (nI_1 y) (nm_r (nI_1 t) (ih2 (y + 1, T3) (ct ?_))))
        · rw [hp, e3, Bool.and_false]
        · rw [hp, e, e3]
          rfl
theorem ty_pairs17 {post : Int32 → SY → Prop} {K M H A B p q : Nat → Int32} {k : Nat → Nat} {m : Nat → Bool} (hK : ∀ x, K x = nI (k x)) (hM : ∀ x, M x = tp_b (m x)) (hO : ∀ s, s < 12 → tp_Ok (k s) (tp_sl m s)) {w : Nat} (hw : w < 7) (h : ∀ A' B', post (nI (tp_cnt (tp_pr k m w) 144)) (K, M, H, A', B', p, q)) : ∃ n, wY_pairs_17 post (nI w) n 0 0 K M H A B p q := by
  refine loop_0 (fun n x (z : Nat × (Nat → Int32) × (Nat → Int32)) => wY_pairs_17 post (nI w) n (nI z.1) (nI x) K M H z.2.1 z.2.2 p q) (fun x z => z.1 = tp_cnt (tp_pr k m w) x) 144 (0, A, B) rfl ?_ ?_
  · rintro n ⟨y, A', B'⟩ hy
    have hy : y = _ := hy
    subst hy
    exact br_t (tp_rfl 144) (h A' B')
  · rintro n x ⟨y, A', B'⟩ hx hy ih
    have hy : y = tp_cnt (tp_pr k m w) x := hy
    have hs : x / 12 < 12 := by omega
    have ht : x % 12 < 12 := by omega
    have h3 := (hO _ hs).1
    have h3t := (hO _ ht).1
    refine br_f (nI_ge (b := 144) hx (by decide)) ⟨tp_12, nm_r (tp_d12 (by omega)) ⟨tp_12, nm_r (tp_r12 (by omega)) ?_⟩⟩
    rw [nI_clamp (by omega), nI_clamp (by omega), hK (x / 12), hK (x % 12)]
    have cf : tp_pr k m w x = false → y = tp_cnt (tp_pr k m w) (x + 1) := by
      intro e
      rw [hy, tp_cnt, e]
      rfl
    have ct : tp_pr k m w x = true → y + 1 = tp_cnt (tp_pr k m w) (x + 1) := by
      intro e
      rw [hy, tp_cnt, e]
      rfl
    have no : ¬ (x / 12 ≠ x % 12 ∧ k (x / 12) ≠ 0 ∧ k (x % 12) ≠ 0) → tp_pr k m w x = false := by
      intro e
      unfold tp_pr
      rw [decide_eq_false e, Bool.false_and]
    refine pk_eq (x / 12) (x % 12) (fun e => nm_r (nI_1 x) (ih (y, A', B') (cf (no (fun z => z.1 e))))) (fun e => ⟨tp_in12 hs, pk_le (k (x / 12)) 0 (fun e1 => nm_r (nI_1 x) (ih (y, A', B') (cf (no (fun z => z.2.1 (by omega)))))) (fun e1 => ⟨tp_in12 ht, pk_le (k (x % 12)) 0 (fun e2 => nm_r (nI_1 x) (ih (y, A', B') (cf (no (fun z => z.2.2 (by omega)))))) (fun e2 => ?_)⟩)⟩)
    refine ty_so hK hM hs ht hw (hO _ hs) (hO _ ht) (fun A2 B2 => ?_)
    dsimp only
    refine tp_br (fun e3 => nm_r (nI_1 x) (ih (y, A2, B2) (cf ?_))) (fun e3 => nm_r (nI_1 y) (nm_r (nI_1 x) (ih (y + 1, A2, B2) (ct ?_))))
    · unfold tp_pr
      rw [e3, Bool.and_false]
    · unfold tp_pr
      rw [e3, decide_eq_true ⟨e, by omega, by omega⟩]
      rfl
theorem i_vc_pairs {k : Nat} {u : SX} {v : SY} (I : i_Rel k u v) (hk : k + 4 ≤ 2048) (v1 : Int32) : wpX_pairs (fun r u' => wpY_pairs (fun r' v' => r' = r ∧ i_Rel (k + 4) u' v') v v1) u v1 := by
  have R : i_Rel (k + 4) u v := I
  obtain ⟨kk, mm, hX, hY⟩ := I
  obtain ⟨f, K, S, M, P, T, U, Q⟩ := u
  obtain ⟨K2, M2, H, A, B, p, q⟩ := v
  obtain ⟨hK, hM, hC⟩ := hX
  obtain ⟨hK2, hM2⟩ := hY
  unfold wpX_pairs wpY_pairs
  dsimp only
  rcases tp_rg v1 7 (by decide) with ⟨w, hw, rfl⟩ | hx
  · refine tx_name_y hw (br_f (by decide) ?_)
    refine tx_pairs14 hK hC hw (fun T' => ?_)
    refine br_f (nI_pos (by omega)) (br_t (nI_le (b := 6) (by omega) (by decide)) ?_)
    exact ty_pairs17 hK2 hM2 hC.1 hw (fun A' B' => ⟨rfl, kk, mm, ⟨hK, hM, hC⟩, hK2, hM2⟩)
  · exact tx_name_n hx (br_t rfl (tp_name v1 hx ⟨rfl, R⟩ ⟨rfl, R⟩))
/-- a vertex of the body -/
def tp_vb (k : Nat → Nat) (m : Nat → Bool) (s v : Nat) : Bool := decide (tp_pt (k s) (tp_sl m s) (2 * (v / 9)) (2 * (v % 9)) ≠ 2)
theorem tx_vib {post : Int32 → Prop} {f : Int32} {K S M P T U Q : Nat → Int32} {k : Nat → Nat} {m : Nat → Bool} (hC : tp_Cr k m S P) {s v : Nat} (hs : s < 12) (hv : v < 81) (h : post (tp_b (tp_vb k m s v))) : wpX_isVertexInBody post (f, K, S, M, P, T, U, Q) (nI s) (nI v) := by
  unfold wpX_isVertexInBody
  dsimp only
  refine tx_col (by omega) ?_
  refine nm_r (tp_t2 _) ?_
  refine tx_row (by omega) ?_
  refine nm_r (tp_t2 _) ?_
  exact tx_inb hC hs (by omega) (by omega) ⟨tp_nab _, h⟩
theorem ty_body {post : Int32 → Prop} {K M H A B p q : Nat → Int32} {k : Nat → Nat} {m : Nat → Bool} (hK : ∀ x, K x = nI (k x)) (hM : ∀ x, M x = tp_b (m x)) {s v : Nat} (hs : s < 12) (h3 : k s ≤ 3) (hv : v < 81) (h : post (tp_b (tp_vb k m s v))) : wpY_isBody post (K, M, H, A, B, p, q) (nI s) (nI v) := by
  unfold wpY_isBody
  dsimp only
  rw [tp_r9 (by omega), tp_d9 (by omega), tp_t2, tp_t2]
  refine ⟨tp_9, tp_9, ty_part hK hM hs h3 (by omega) (by omega) ?_⟩
  have h2 := tp_pt_le (k s) (tp_sl m s) (2 * (v / 9)) (2 * (v % 9))
  exact pk_le 2 (tp_pt (k s) (tp_sl m s) (2 * (v / 9)) (2 * (v % 9))) (fun e => tp_p0 h (decide_eq_false (fun z => z (by omega)))) (fun e => tp_p1 h (decide_eq_true (by omega)))
/-- the pairs of vertices of two bodies -/
def tp_vp (k : Nat → Nat) (m : Nat → Bool) (s t a b : Nat) : Prop := a < 81 ∧ b < 81 ∧ tp_vb k m s a = true ∧ tp_vb k m t b = true
theorem tp_Mn_k {P : Nat → Nat → Prop} {a r : Nat} (ha : 1000 ≤ a) (hP : ∃ v w, P v w) (h81 : ∀ v w, P v w → v < 81 ∧ w < 81) (h : tp_Mn P a r) : tp_Mn P 1000 r ∧ r ≤ 128 := by
  have hr := (tp_Mn_u ha ha hP h81 h h).2
  refine ⟨⟨by omega, h.2.1, ?_⟩, hr⟩
  rcases h.2.2 with e | e
  · omega
  · exact Or.inr e
noncomputable def tp_D (P : Nat → Nat → Prop) : Nat := Classical.epsilon (fun r => tp_Mn P 1000 r)
theorem tp_D_e {P : Nat → Nat → Prop} {a r : Nat} (ha : 1000 ≤ a) (hP : ∃ v w, P v w) (h81 : ∀ v w, P v w → v < 81 ∧ w < 81) (h : tp_Mn P a r) : r = tp_D P ∧ r ≤ 128 := by
  have h' := tp_Mn_k ha hP h81 h
  have hs : tp_Mn P 1000 (tp_D P) := Classical.epsilon_spec (p := fun r => tp_Mn P 1000 r) ⟨r, h'.1⟩
  exact ⟨(tp_Mn_u (by omega) (by omega) hP h81 h'.1 hs).1, h'.2⟩
theorem tp_vp_e {k : Nat → Nat} {m : Nat → Bool} {s t : Nat} (O1 : tp_Ok (k s) (tp_sl m s)) (O2 : tp_Ok (k t) (tp_sl m t)) (h1 : k s ≠ 0) (h2 : k t ≠ 0) : ∃ v w, tp_vp k m s t v w := by
  obtain ⟨v, hv, e⟩ := tp_vtx_e O1 h1
  obtain ⟨w, hw, e'⟩ := tp_vtx_e O2 h2
  exact ⟨v, w, hv, hw, decide_eq_true e, decide_eq_true e'⟩
theorem tp_mn_c (r d : Nat) : tp_mn r d = if d < r then d else r := by
  unfold tp_mn
  split <;> split <;> omega
theorem tx_lsf {post : Int32 → Prop} {f : Int32} {K S M P T U Q : Nat → Int32} {k : Nat → Nat} {m : Nat → Bool} (hC : tp_Cr k m S P) {t v : Nat} (ht : t < 12) (hv : v < 81) (h : ∀ r, tp_Mn (fun a b => a = v ∧ b < 81 ∧ tp_vb k m t b = true) 6561 r → post (nI r)) : wpX_leastSquareFrom post (f, K, S, M, P, T, U, Q) (nI v) (nI t) := by
  refine loop_0 (fun n w (r : Nat) => wX_leastSquareFrom_7 post (nI v) (nI t) f K S M P T U Q n (nI r) (nI w)) (fun w r => tp_Mn (fun a b => a = v ∧ b < w ∧ tp_vb k m t b = true) 6561 r) 81 6561 (tp_Mn_0 (fun a b z => absurd z.2.1 (by omega))) ?_ ?_
  · intro n r hr
    exact br_t (tp_rfl 81) (h r hr)
  · intro n w r hw hr ih
    refine br_f (nI_ge (b := 81) hw (by decide)) ?_
    refine tx_vib hC ht hw ?_
    refine tp_br (fun e => nm_r (nI_1 w) (ih r (tp_Mn_c hr (fun a b => ?_)))) (fun e => ?_)
    · constructor
      · rintro ⟨z1, z2, z3⟩
        exact ⟨z1, by omega, z3⟩
      · rintro ⟨z1, z2, z3⟩
        refine ⟨z1, ?_, z3⟩
        by_cases z : b = w
        · subst z
          rw [e] at z3
          exact nomatch z3
        · omega
    · refine tx_col (by omega) ?_
      refine tx_col (by omega) ?_
      refine nm_e ?_
      refine tx_row (by omega) ?_
      refine tx_row (by omega) ?_
      refine nm_e ?_
      rw [tp_d_i _ (by omega) _ (by omega), tp_d_i _ (by omega) _ (by omega), nI_add]
      have h1 := hr.1
      have h2 := tp_sq_le hv hw
      refine tx_less (b := tp_sq v w) (by omega) (by omega) ?_
      refine nm_r (nI_1 w) (ih _ ?_)
      rw [tp_mn_c]
      refine tp_Mn_s hr (fun x y => ?_)
      constructor
      · rintro ⟨z1, z2, z3⟩
        by_cases z : y = w
        · exact Or.inr ⟨z1, z⟩
        · exact Or.inl ⟨z1, by omega, z3⟩
      · rintro (⟨z1, z2, z3⟩ | ⟨z1, z2⟩)
        · exact ⟨z1, by omega, z3⟩
        · subst z2
          exact ⟨z1, by omega, e⟩
theorem tx_ls {post : Int32 → Prop} {f : Int32} {K S M P T U Q : Nat → Int32} {k : Nat → Nat} {m : Nat → Bool} (hC : tp_Cr k m S P) {s t : Nat} (hs : s < 12) (ht : t < 12) (h1 : k s ≠ 0) (h2 : k t ≠ 0) (h : tp_D (tp_vp k m s t) ≤ 128 → post (nI (tp_D (tp_vp k m s t)))) : wpX_leastSquare post (f, K, S, M, P, T, U, Q) (nI s) (nI t) := by
  refine loop_0 (fun n v (r : Nat) => wX_leastSquare_7 post (nI s) (nI t) f K S M P T U Q n (nI r) (nI v)) (fun v r => tp_Mn (fun a b => a < v ∧ b < 81 ∧ tp_vb k m s a = true ∧ tp_vb k m t b = true) 6561 r) 81 6561 (tp_Mn_0 (fun a b z => absurd z.1 (by omega))) ?_ ?_
  · intro n r hr
    have hd := tp_D_e (P := tp_vp k m s t) (a := 6561) (by omega) (tp_vp_e (hC.1 s hs) (hC.1 t ht) h1 h2) (fun v w z => ⟨z.1, z.2.1⟩) hr
    refine br_t (tp_rfl 81) ?_
    rw [hd.1]
    exact h (by omega)
  · intro n v r hv hr ih
    refine br_f (nI_ge (b := 81) hv (by decide)) ?_
    refine tx_vib hC hs hv ?_
    refine tp_br (fun e => nm_r (nI_1 v) (ih r (tp_Mn_c hr (fun a b => ?_)))) (fun e => ?_)
    · constructor
      · rintro ⟨z1, z2, z3, z4⟩
        exact ⟨by omega, z2, z3, z4⟩
      · rintro ⟨z1, z2, z3, z4⟩
        refine ⟨?_, z2, z3, z4⟩
        by_cases z : a = v
        · subst z
          rw [e] at z3
          exact nomatch z3
        · omega
    · refine tx_lsf hC ht hv (fun r2 hr2 => ?_)
      have g1 := hr.1
      have g2 := hr2.1
      refine tx_less (by omega) (by omega) ?_
      refine nm_r (nI_1 v) (ih _ ?_)
      refine tp_Mn_m (by omega) hr hr2 (fun x y => ?_)
      constructor
      · rintro ⟨z1, z2, z3, z4⟩
        by_cases z : x = v
        · exact Or.inr ⟨z, z2, z4⟩
        · exact Or.inl ⟨by omega, z2, z3, z4⟩
      · rintro (⟨z1, z2, z3, z4⟩ | ⟨z1, z2, z3⟩)
        · exact ⟨by omega, z2, z3, z4⟩
        · subst z1
          exact ⟨by omega, z2, e, z3⟩
theorem ty_sq {post : Int32 → Prop} {K M H A B p q : Nat → Int32} {v w : Nat} (hv : v < 81) (hw : w < 81) (h : post (nI (tp_sq v w))) : wpY_square post (K, M, H, A, B, p, q) (nI v) (nI w) := by
  unfold wpY_square
  dsimp only
  rw [tp_r9 (by omega), tp_r9 (by omega), tp_d9 (by omega), tp_d9 (by omega)]
  refine ⟨tp_9, tp_9, nm_e ⟨tp_9, tp_9, nm_e ?_⟩⟩
  rw [tp_d_i _ (by omega) _ (by omega), tp_d_i _ (by omega) _ (by omega), nI_add]
  exact h
theorem ty_dist {post : Int32 → Prop} {K M H A B p q : Nat → Int32} {k : Nat → Nat} {m : Nat → Bool} (hK : ∀ x, K x = nI (k x)) (hM : ∀ x, M x = tp_b (m x)) {s t : Nat} (hs : s < 12) (ht : t < 12) (O1 : tp_Ok (k s) (tp_sl m s)) (O2 : tp_Ok (k t) (tp_sl m t)) (h1 : k s ≠ 0) (h2 : k t ≠ 0) (h : tp_D (tp_vp k m s t) ≤ 128 → post (nI (tp_D (tp_vp k m s t)))) : wpY_distance post (K, M, H, A, B, p, q) (nI s) (nI t) := by
  refine loop_0 (fun n v (r : Nat) => wY_distance_7 post (nI s) (nI t) K M H A B p q n (nI r) (nI v)) (fun v r => tp_Mn (fun a b => a < v ∧ b < 81 ∧ tp_vb k m s a = true ∧ tp_vb k m t b = true) 1000 r) 81 1000 (tp_Mn_0 (fun a b z => absurd z.1 (by omega))) ?_ ?_
  · intro n r hr
    have hd := tp_D_e (P := tp_vp k m s t) (a := 1000) (by omega) (tp_vp_e O1 O2 h1 h2) (fun v w z => ⟨z.1, z.2.1⟩) hr
    refine br_t (tp_rfl 81) ?_
    rw [hd.1]
    exact h (by omega)
  · intro n v r hv hr ih
    refine br_f (nI_ge (b := 81) hv (by decide)) ?_
    refine ty_body hK hM hs O1.1 hv ?_
    cases e : tp_vb k m s v with
    | false =>
      refine ⟨1, br_f (by decide) (br_t rfl (nm_r (nI_1 v) (ih r (tp_Mn_c hr (fun a b => ?_)))))⟩
      constructor
      · rintro ⟨z1, z2, z3, z4⟩
        exact ⟨by omega, z2, z3, z4⟩
      · rintro ⟨z1, z2, z3, z4⟩
        refine ⟨?_, z2, z3, z4⟩
        by_cases z : a = v
        · subst z
          rw [e] at z3
          exact nomatch z3
        · omega
    | true =>
      refine loop_0 (fun n w (r : Nat) => wY_distance_26 post _ (nI s) (nI t) (nI v) _ K M H A B p q n (nI r) (nI w)) (fun w r => tp_Mn (fun a b => (a < v ∧ b < 81 ∧ tp_vb k m s a = true ∧ tp_vb k m t b = true) ∨ (a = v ∧ b < w ∧ tp_vb k m t b = true)) 1000 r) 81 r (tp_Mn_c hr (fun a b => ⟨Or.inl, fun z => z.resolve_right (fun z => absurd z.2.1 (by omega))⟩)) ?_ ?_
      · intro n r hr
        refine br_t (tp_rfl 81) (nm_r (nI_1 v) (ih r (tp_Mn_c hr (fun a b => ?_))))
        constructor
        · rintro (⟨z1, z2, z3, z4⟩ | ⟨z1, z2, z3⟩)
          · exact ⟨by omega, z2, z3, z4⟩
          · subst z1
            exact ⟨by omega, z2, e, z3⟩
        · rintro ⟨z1, z2, z3, z4⟩
          by_cases z : a = v
          · exact Or.inr ⟨z, z2, z4⟩
          · exact Or.inl ⟨by omega, z2, z3, z4⟩
      · intro n w r hw hr ih2
        refine br_f (nI_ge (b := 81) hw (by decide)) (br_f (by decide) ?_)
        refine ty_sq hv hw ?_
        have g1 := hr.1
        have g2 := tp_sq_le hv hw
        have no : tp_vb k m t w = false → tp_Mn (fun a b => (a < v ∧ b < 81 ∧ tp_vb k m s a = true ∧ tp_vb k m t b = true) ∨ (a = v ∧ b < w + 1 ∧ tp_vb k m t b = true)) 1000 r := by
          intro e2
          refine tp_Mn_c hr (fun a b => ?_)
          constructor
          · rintro (z | ⟨z1, z2, z3⟩)
            · exact Or.inl z
            · exact Or.inr ⟨z1, by omega, z3⟩
          · rintro (z | ⟨z1, z2, z3⟩)
            · exact Or.inl z
            · refine Or.inr ⟨z1, ?_, z3⟩
              by_cases z : b = w
              · subst z
                rw [e2] at z3
                exact nomatch z3
              · omega
        have ye : tp_vb k m t w = true → tp_Mn (fun a b => (a < v ∧ b < 81 ∧ tp_vb k m s a = true ∧ tp_vb k m t b = true) ∨ (a = v ∧ b < w + 1 ∧ tp_vb k m t b = true)) 1000 (if tp_sq v w < r then tp_sq v w else r) := by
          intro e2
          refine tp_Mn_s hr (fun x y => ?_)
          constructor
          · rintro (z | ⟨z1, z2, z3⟩)
            · exact Or.inl (Or.inl z)
            · by_cases z : y = w
              · exact Or.inr ⟨z1, z⟩
              · exact Or.inl (Or.inr ⟨z1, by omega, z3⟩)
          · rintro ((z | ⟨z1, z2, z3⟩) | ⟨z1, z2⟩)
            · exact Or.inl z
            · exact Or.inr ⟨z1, by omega, z3⟩
            · subst z2
              exact Or.inr ⟨z1, by omega, e2⟩
        refine pk_le r (tp_sq v w) (fun e3 => nm_r (nI_1 w) (ih2 r ?_)) (fun e3 => ?_)
        · cases e2 : tp_vb k m t w with
          | false => exact no e2
          | true =>
            have := ye e2
            rw [if_neg (by omega)] at this
            exact this
        · refine ty_body hK hM ht O2.1 hw ?_
          refine tp_br (fun e2 => nm_r (nI_1 w) (ih2 r (no e2))) (fun e2 => nm_r (nI_1 w) (ih2 _ ?_))
          have := ye e2
          rw [if_pos e3] at this
          exact this
