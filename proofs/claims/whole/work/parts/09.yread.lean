theorem tp_ry {A B C : Prop} {s n : Nat} (hs : s < n) (hn : n < 2 ^ 31) (h : B) : (nI s < 0 → A) ∧ (¬ nI s < 0 → ((nI n ≤ nI s → C) ∧ (¬ nI n ≤ nI s → B))) := br_f (nI_pos (by omega)) (br_f (nI_ge hs hn) h)
theorem tp_rn {A B C : Prop} {x : Int32} {n : Nat} (hx : x < 0 ∨ nI n ≤ x) (a : A) (c : C) : (x < 0 → A) ∧ (¬ x < 0 → ((nI n ≤ x → C) ∧ (¬ nI n ≤ x → B))) := by
  by_cases h : x < 0
  · exact br_t h a
  · exact br_f h (br_t (hx.resolve_left h) c)
theorem tp_ryl {A B C : Prop} {s n : Nat} (hs : s ≤ n) (hn : n < 2 ^ 31) (h : B) : (nI s < 0 → A) ∧ (¬ nI s < 0 → ((nI n < nI s → C) ∧ (¬ nI n < nI s → B))) := br_f (nI_pos (by omega)) (br_f (nI_nlt hs hn) h)
theorem tp_rnl {A B C : Prop} {x : Int32} {n : Nat} (hx : x < 0 ∨ nI (n + 1) ≤ x) (hn : n + 1 < 2 ^ 31) (a : A) (c : C) : (x < 0 → A) ∧ (¬ x < 0 → ((nI n < x → C) ∧ (¬ nI n < x → B))) := by
  by_cases h : x < 0
  · exact br_t h a
  · refine br_f h (br_t ?_ c)
    have := (tp_leL hn).mp (hx.resolve_left h)
    rw [tp_ltL (by omega)]
    omega
theorem tx_slot_y {post : Int32 → Prop} {s : Nat} (hs : s < 12) (h : post 1) : wpX_isSlot post (nI s) := tp_ry (n := 12) hs (by decide) h
theorem tx_slot_n {post : Int32 → Prop} {x : Int32} (hx : x < 0 ∨ nI 12 ≤ x) (h : post 0) : wpX_isSlot post x := tp_rn (n := 12) hx h h
theorem tx_vert_y {post : Int32 → Prop} {s : Nat} (hs : s < 81) (h : post 1) : wpX_isVertex post (nI s) := tp_ry (n := 81) hs (by decide) h
theorem tx_vert_n {post : Int32 → Prop} {x : Int32} (hx : x < 0 ∨ nI 81 ≤ x) (h : post 0) : wpX_isVertex post x := tp_rn (n := 81) hx h h
theorem tx_name_y {post : Int32 → Prop} {s : Nat} (hs : s < 7) (h : post 1) : wpX_isName post (nI s) := tp_ry (n := 7) hs (by decide) h
theorem tx_name_n {post : Int32 → Prop} {x : Int32} (hx : x < 0 ∨ nI 7 ≤ x) (h : post 0) : wpX_isName post x := tp_rn (n := 7) hx h h
section
variable {post : Int32 → Prop} {K M H A B p q : Nat → Int32}
theorem ty_slot_y {s : Nat} (hs : s < 12) (h : post 1) : wpY_isSlot post (K, M, H, A, B, p, q) (nI s) := tp_ryl (n := 11) (by omega) (by decide) h
theorem ty_slot_n {x : Int32} (hx : x < 0 ∨ nI 12 ≤ x) (h : post 0) : wpY_isSlot post (K, M, H, A, B, p, q) x := tp_rnl (n := 11) hx (by decide) h h
theorem ty_vert_y {s : Nat} (hs : s < 81) (h : post 1) : wpY_isVertex post (K, M, H, A, B, p, q) (nI s) := tp_ryl (n := 80) (by omega) (by decide) h
theorem ty_vert_n {x : Int32} (hx : x < 0 ∨ nI 81 ≤ x) (h : post 0) : wpY_isVertex post (K, M, H, A, B, p, q) x := tp_rnl (n := 80) hx (by decide) h h
theorem ty_has {m : Nat → Bool} (hM : ∀ x, M x = tp_b (m x)) {s : Nat} (hs : s < 12) {x y : Int32} (h : post (tp_b (tp_hs (tp_sl m s) x.toInt y.toInt))) : wpY_has post (K, M, H, A, B, p, q) (nI s) x y := by
  have a1 := @tp_lt0 x
  have a2 := @tp_ltL x 16 (by decide)
  have a3 := @tp_lt0 y
  have a4 := @tp_ltL y 16 (by decide)
  refine br_c (fun a => tp_p0 h (tp_hs_out _ ?_)) (fun a => br_c (fun b => tp_p0 h (tp_hs_out _ ?_)) (fun b => br_c (fun c => tp_p0 h (tp_hs_out _ ?_)) (fun c => br_c (fun d => tp_p0 h (tp_hs_out _ ?_)) (fun d => ?_))))
  · rw [a1] at a
    omega
  · have b := a2.mp b
    omega
  · rw [a3] at c
    omega
  · have d := a4.mp d
    omega
  · rw [a1] at a
    rw [a3] at c
    have b : ¬ ((16 : Nat) : Int) < x.toInt := fun z => b (a2.mpr z)
    have d : ¬ ((16 : Nat) : Int) < y.toInt := fun z => d (a4.mpr z)
    obtain ⟨i, hi, rfl⟩ := tp_nat (x := x) (n := 16) (by omega) (by omega)
    obtain ⟨j, hj, rfl⟩ := tp_nat (x := y) (n := 16) (by omega) (by omega)
    rw [tp_0i (by omega), tp_0i (by omega), tp_hs_in _ hi hj] at h
    rw [tp_iy2, nI_clamp (by omega), hM]
    exact ⟨vp_in_nI (by omega) (by decide), tp_br (fun e => tp_p0 h e) (fun e => tp_p1 h e)⟩
theorem tp_z0 {b : Bool} {n : Nat} {P : Int32 → Prop} (h : P (nI (n + b.toNat))) (e : b = false) : P (nI n) := by
  rw [e] at h
  exact h
theorem tp_z1 {b : Bool} {n : Nat} {P : Int32 → Prop} (h : P (nI (n + b.toNat))) (e : b = true) : P (nI n + 1) := by
  rw [e] at h
  rw [nI_1]
  exact h
theorem ty_bes63 {m : Nat → Bool} (hM : ∀ x, M x = tp_b (m x)) {s i j n : Nat} (hs : s < 12) (hi : i < 2 ^ 30) (hj : j < 2 ^ 30) (h : post (nI (n + (tp_hs (tp_sl m s) i (j + 1)).toNat))) : wY_besides_63 post (nI s) (nI i) (nI j) (nI n) K M H A B p q := by
  unfold wY_besides_63
  refine ty_has hM hs ?_
  rw [tp_0i hi, tp_q1 hj]
  exact tp_br (tp_z0 h) (tp_z1 h)
theorem ty_bes40 {m : Nat → Bool} (hM : ∀ x, M x = tp_b (m x)) {s i j n : Nat} (hs : s < 12) (hi : i < 2 ^ 30) (hj : j < 2 ^ 30) (h : post (nI (n + (tp_hs (tp_sl m s) i (j - 1)).toNat + (tp_hs (tp_sl m s) i (j + 1)).toNat))) : wY_besides_40 post (nI s) (nI i) (nI j) (nI n) K M H A B p q := by
  unfold wY_besides_40
  refine ty_has hM hs ?_
  rw [tp_0i hi, tp_m1 hj]
  have h' := ty_bes63 (post := post) (K := K) (H := H) (A := A) (B := B) (p := p) (q := q) hM hs hi hj h
  exact tp_br (tp_z0 (P := fun z => wY_besides_63 post (nI s) (nI i) (nI j) z K M H A B p q) h') (tp_z1 (P := fun z => wY_besides_63 post (nI s) (nI i) (nI j) z K M H A B p q) h')
theorem ty_bes17 {m : Nat → Bool} (hM : ∀ x, M x = tp_b (m x)) {s i j n : Nat} (hs : s < 12) (hi : i < 2 ^ 30) (hj : j < 2 ^ 30) (h : post (nI (n + (tp_hs (tp_sl m s) (i + 1) j).toNat + (tp_hs (tp_sl m s) i (j - 1)).toNat + (tp_hs (tp_sl m s) i (j + 1)).toNat))) : wY_besides_17 post (nI s) (nI i) (nI j) (nI n) K M H A B p q := by
  unfold wY_besides_17
  refine ty_has hM hs ?_
  rw [tp_0i hj, tp_q1 hi]
  have h' := ty_bes40 (post := post) (K := K) (H := H) (A := A) (B := B) (p := p) (q := q) hM hs hi hj h
  exact tp_br (tp_z0 (P := fun z => wY_besides_40 post (nI s) (nI i) (nI j) z K M H A B p q) h') (tp_z1 (P := fun z => wY_besides_40 post (nI s) (nI i) (nI j) z K M H A B p q) h')
theorem ty_bes {m : Nat → Bool} (hM : ∀ x, M x = tp_b (m x)) {s i j : Nat} (hs : s < 12) (hi : i < 2 ^ 30) (hj : j < 2 ^ 30) (h : post (nI (tp_bs (tp_sl m s) i j))) : wpY_besides post (K, M, H, A, B, p, q) (nI s) (nI i) (nI j) := by
  unfold wpY_besides
  dsimp only
  refine ty_has hM hs ?_
  rw [tp_0i hj, tp_m1 hi]
  have h' := ty_bes17 (post := post) (K := K) (H := H) (A := A) (B := B) (p := p) (q := q) hM hs hi hj (n := 0 + (tp_hs (tp_sl m s) (i - 1) j).toNat) (by rw [Nat.zero_add]; exact h)
  exact tp_br (tp_z0 (n := 0) (P := fun z => wY_besides_17 post (nI s) (nI i) (nI j) z K M H A B p q) h') (tp_z1 (n := 0) (P := fun z => wY_besides_17 post (nI s) (nI i) (nI j) z K M H A B p q) h')
theorem ty_cr69 {m : Nat → Bool} (hM : ∀ x, M x = tp_b (m x)) {s i j n : Nat} (hs : s < 12) (hi : i < 2 ^ 30) (hj : j < 2 ^ 30) (h : post (nI (n + (tp_hs (tp_sl m s) (i + 1) (j + 1)).toNat))) : wY_corners_69 post (nI s) (nI i) (nI j) (nI n) K M H A B p q := by
  unfold wY_corners_69
  refine ty_has hM hs ?_
  rw [tp_q1 hi, tp_q1 hj]
  exact tp_br (tp_z0 h) (tp_z1 h)
theorem ty_cr44 {m : Nat → Bool} (hM : ∀ x, M x = tp_b (m x)) {s i j n : Nat} (hs : s < 12) (hi : i < 2 ^ 30) (hj : j < 2 ^ 30) (h : post (nI (n + (tp_hs (tp_sl m s) (i - 1) (j + 1)).toNat + (tp_hs (tp_sl m s) (i + 1) (j + 1)).toNat))) : wY_corners_44 post (nI s) (nI i) (nI j) (nI n) K M H A B p q := by
  unfold wY_corners_44
  refine ty_has hM hs ?_
  rw [tp_m1 hi, tp_q1 hj]
  have h' := ty_cr69 (post := post) (K := K) (H := H) (A := A) (B := B) (p := p) (q := q) hM hs hi hj h
  exact tp_br (tp_z0 (P := fun z => wY_corners_69 post (nI s) (nI i) (nI j) z K M H A B p q) h') (tp_z1 (P := fun z => wY_corners_69 post (nI s) (nI i) (nI j) z K M H A B p q) h')
theorem ty_cr19 {m : Nat → Bool} (hM : ∀ x, M x = tp_b (m x)) {s i j n : Nat} (hs : s < 12) (hi : i < 2 ^ 30) (hj : j < 2 ^ 30) (h : post (nI (n + (tp_hs (tp_sl m s) (i + 1) (j - 1)).toNat + (tp_hs (tp_sl m s) (i - 1) (j + 1)).toNat + (tp_hs (tp_sl m s) (i + 1) (j + 1)).toNat))) : wY_corners_19 post (nI s) (nI i) (nI j) (nI n) K M H A B p q := by
  unfold wY_corners_19
  refine ty_has hM hs ?_
  rw [tp_q1 hi, tp_m1 hj]
  have h' := ty_cr44 (post := post) (K := K) (H := H) (A := A) (B := B) (p := p) (q := q) hM hs hi hj h
  exact tp_br (tp_z0 (P := fun z => wY_corners_44 post (nI s) (nI i) (nI j) z K M H A B p q) h') (tp_z1 (P := fun z => wY_corners_44 post (nI s) (nI i) (nI j) z K M H A B p q) h')
theorem ty_cr {m : Nat → Bool} (hM : ∀ x, M x = tp_b (m x)) {s i j : Nat} (hs : s < 12) (hi : i < 2 ^ 30) (hj : j < 2 ^ 30) (h : post (nI (tp_cr (tp_sl m s) i j))) : wpY_corners post (K, M, H, A, B, p, q) (nI s) (nI i) (nI j) := by
  unfold wpY_corners
  dsimp only
  refine ty_has hM hs ?_
  rw [tp_m1 hj, tp_m1 hi]
  have h' := ty_cr19 (post := post) (K := K) (H := H) (A := A) (B := B) (p := p) (q := q) hM hs hi hj (n := 0 + (tp_hs (tp_sl m s) (i - 1) (j - 1)).toNat) (by rw [Nat.zero_add]; exact h)
  exact tp_br (tp_z0 (n := 0) (P := fun z => wY_corners_19 post (nI s) (nI i) (nI j) z K M H A B p q) h') (tp_z1 (n := 0) (P := fun z => wY_corners_19 post (nI s) (nI i) (nI j) z K M H A B p q) h')
theorem ty_p95 {m : Nat → Bool} (hM : ∀ x, M x = tp_b (m x)) {s i j n : Nat} (hs : s < 12) (hi : i < 2 ^ 30) (hj : j < 2 ^ 30) (hn : n ≤ 4) {v : Bool} (h : post (nI (if v = false then (if n = 2 then 0 else if n = 1 then 1 else 2) else (if tp_cr (tp_sl m s) i j = 4 then 0 else if tp_cr (tp_sl m s) i j = 0 then 2 else 1)))) : wY_partOf_95 post (nI s) (nI i) (nI j) (nI n) (tp_b v) K M H A B p q := by
  refine tp_br (fun e => ?_) (fun e => ?_)
  · rw [if_pos e] at h
    refine pk_eq n 2 (fun a => ?_) (fun a => pk_eq n 1 (fun b => ?_) (fun b => ?_))
    · rw [if_pos a] at h
      exact h
    · rw [if_neg a, if_pos b] at h
      exact h
    · rw [if_neg a, if_neg b] at h
      exact h
  · rw [if_neg (by rw [e]; decide)] at h
    refine ty_cr hM hs hi hj ?_
    have h4 : tp_cr (tp_sl m s) i j ≤ 4 := tp_b4l _ _ _ _
    generalize tp_cr (tp_sl m s) i j = n at *
    refine pk_eq n 4 (fun a => ?_) (fun a => pk_eq n 0 (fun b => ?_) (fun b => ?_))
    · rw [if_pos a] at h
      exact h
    · rw [if_neg a, if_pos b] at h
      exact h
    · rw [if_neg a, if_neg b] at h
      exact h
theorem ty_p38 {k : Nat → Nat} {m : Nat → Bool} (hK : ∀ x, K x = nI (k x)) (hM : ∀ x, M x = tp_b (m x)) {s i j n : Nat} (hs : s < 12) (hk : k s ≤ 3) (hi : i < 2 ^ 30) (hj : j < 2 ^ 30) (hn : n ≤ 4) {v : Bool} (hv : v = true ↔ (i % 2 = 0 ∧ j % 2 = 0))
    (h : post (nI (if k s = 2 then (if ¬ (i % 2 = 0 ∧ j % 2 = 0) ∨ n = 0 then 2 else n % 2) else if k s = 1 ∨ (i % 2 = 1 ∧ j % 2 = 1) then 2 else if ¬ (i % 2 = 0 ∧ j % 2 = 0) then (if n = 2 then 0 else if n = 1 then 1 else 2) else if tp_cr (tp_sl m s) i j = 4 then 0 else if tp_cr (tp_sl m s) i j = 0 then 2 else 1))) :
    wY_partOf_38 post (nI s) (nI i) (nI j) (nI n) (tp_b v) K M H A B p q := by
  have hi9 : vp_in (nI s) 12 := vp_in_nI hs (by decide)
  have hv0 : v = false ↔ ¬ (i % 2 = 0 ∧ j % 2 = 0) := by
    rw [← hv]
    cases v <;> decide
  unfold wY_partOf_38
  rw [nI_clamp (by omega), hK s, tp_r2 (c := n) (by omega), tp_r2 (c := i) (by omega), tp_r2 (c := j) (by omega)]
  have h95 : ¬ k s = 2 → ¬ k s = 1 → ¬ (i % 2 = 1 ∧ j % 2 = 1) → wY_partOf_95 post (nI s) (nI i) (nI j) (nI n) (tp_b v) K M H A B p q := by
    intro e2 e1 eo
    refine ty_p95 hM hs hi hj hn ?_
    rw [if_neg e2, if_neg (by omega)] at h
    by_cases e : v = false
    · rw [if_pos (hv0.mp e)] at h
      rw [if_pos e]
      exact h
    · rw [if_neg (fun z => e (hv0.mpr z))] at h
      rw [if_neg e]
      exact h
  refine ⟨hi9, pk_eq (k s) 2 (fun e2 => tp_br (fun e => ?_) (fun e => pk_eq n 0 (fun e0 => ?_) (fun e0 => ⟨tp_2, ?_⟩))) (fun e2 => ⟨hi9, pk_eq (k s) 1 (fun e1 => ?_) (fun e1 => ⟨tp_2, pk_eq (i % 2) 1 (fun o1 => ⟨tp_2, pk_eq (j % 2) 1 (fun o2 => ?_) (fun o2 => h95 e2 e1 (by omega))⟩) (fun o1 => h95 e2 e1 (by omega))⟩)⟩)⟩
  · rw [if_pos e2, if_pos (Or.inl (hv0.mp e))] at h
    exact h
  · rw [if_pos e2, if_pos (Or.inr e0)] at h
    exact h
  · rw [if_pos e2, if_neg (fun z => z.elim (fun z => z (hv.mp e)) e0)] at h
    exact h
  · rw [if_neg e2, if_pos (Or.inl e1)] at h
    exact h
  · rw [if_neg e2, if_pos (Or.inr ⟨o1, o2⟩)] at h
    exact h
theorem ty_part {k : Nat → Nat} {m : Nat → Bool} (hK : ∀ x, K x = nI (k x)) (hM : ∀ x, M x = tp_b (m x)) {s i j : Nat} (hs : s < 12) (hk : k s ≤ 3) (hi : i < 2 ^ 30) (hj : j < 2 ^ 30) (h : post (nI (tp_pt (k s) (tp_sl m s) i j))) : wpY_partOf post (K, M, H, A, B, p, q) (nI s) (nI i) (nI j) := by
  unfold wpY_partOf
  dsimp only
  refine ty_has hM hs ?_
  rw [tp_0i hi, tp_0i hj]
  unfold tp_pt at h
  refine tp_br (fun e => ?_) (fun e => ?_)
  · rw [if_neg (by rw [e]; decide)] at h
    refine ty_bes hM hs hi hj ?_
    have hn : tp_bs (tp_sl m s) i j ≤ 4 := tp_b4l _ _ _ _
    rw [tp_r2 (c := i) (by omega), tp_r2 (c := j) (by omega)]
    refine ⟨tp_2, pk_eq (i % 2) 0 (fun a => ⟨tp_2, pk_eq (j % 2) 0 (fun b => ?_) (fun b => ?_)⟩) (fun a => ?_)⟩
    · exact ty_p38 (v := true) hK hM hs hk hi hj hn (by simp [a, b]) h
    · exact ty_p38 (v := false) hK hM hs hk hi hj hn (by simp [b]) h
    · exact ty_p38 (v := false) hK hM hs hk hi hj hn (by simp [a]) h
  · rw [if_pos e] at h
    exact h
theorem ty_count {m : Nat → Bool} (hM : ∀ x, M x = tp_b (m x)) {s : Nat} (hs : s < 12) (h : post (nI (tp_cnt (tp_sl m s) 289))) : wpY_count post (K, M, H, A, B, p, q) (nI s) := by
  refine loop_0 (fun n c (x : Nat) => wY_count_4 post (nI s) K M H A B p q n (nI x) (nI c)) (fun c x => x = tp_cnt (tp_sl m s) c) 289 0 rfl ?_ ?_
  · intro n x hx
    subst hx
    exact br_t (tp_rfl 289) h
  · intro n c x hc hx ih
    refine br_f (nI_ge (b := 289) hc (by decide)) ?_
    rw [tp_iy1, nI_clamp (by omega), hM]
    refine ⟨vp_in_nI (by omega) (by decide), tp_br (fun e => nm_r (nI_1 c) (ih x ?_)) (fun e => nm_r (nI_1 x) (nm_r (nI_1 c) (ih (x + 1) ?_)))⟩
    · rw [hx, tp_cnt, if_neg]
      exact fun z => by
        have : m (289 * s + c) = true := z
        rw [e] at this
        exact nomatch this
    · rw [hx, tp_cnt, if_pos]
      exact e
theorem ty_dim {c : Nat} (hc : c < 289) (h : post (nI (tp_dm c))) : wpY_dimension post (K, M, H, A, B, p, q) (nI c) := by
  unfold wpY_dimension
  dsimp only
  rw [tp_r17 (by omega), tp_d17 (by omega), tp_r2 (by omega), tp_r2 (by omega), nI_add]
  exact ⟨tp_17, tp_2, tp_17, tp_2, h⟩
theorem ty_edge {c : Nat} (hc : c < 289) (h : post (tp_b (decide (tp_dm c = 1)))) : wpY_isEdge post (K, M, H, A, B, p, q) (nI c) := by
  unfold wpY_isEdge
  dsimp only
  refine ty_dim hc (pk_eq (tp_dm c) 1 (fun e => tp_p1 h (decide_eq_true e)) (fun e => tp_p0 h (decide_eq_false e)) rfl rfl ?_ (by decide))
  unfold tp_dm
  omega
theorem ty_least {a b : Nat} (ha : a < 2 ^ 31) (hb : b < 2 ^ 31) (h : post (nI (tp_mn a b))) : wpY_least post (K, M, H, A, B, p, q) (nI a) (nI b) := by
  unfold tp_mn at h
  refine pk_le b a (fun e => ?_) (fun e => ?_)
  · rw [if_neg (by omega)] at h
    exact h
  · rw [if_pos e] at h
    exact h
theorem ty_most {a b : Nat} (ha : a < 2 ^ 31) (hb : b < 2 ^ 31) (h : post (nI (tp_mx a b))) : wpY_most post (K, M, H, A, B, p, q) (nI a) (nI b) := by
  unfold tp_mx at h
  refine pk_le a b (fun e => ?_) (fun e => ?_)
  · rw [if_neg (by omega)] at h
    exact h
  · rw [if_pos e] at h
    exact h
theorem tp_mn_l {a b n : Nat} (ha : a ≤ n) (hb : b ≤ n) : tp_mn a b ≤ n := by
  unfold tp_mn
  split <;> omega
theorem tp_mx_l {a b n : Nat} (ha : a ≤ n) (hb : b ≤ n) : tp_mx a b ≤ n := by
  unfold tp_mx
  split <;> omega
theorem ty_btw {i j f t : Nat} (hi : i < 2 ^ 30) (hj : j < 2 ^ 30) (hf : f < 81) (ht : t < 81) (h : post (tp_b (tp_bx f t i j))) : wpY_isBetween post (K, M, H, A, B, p, q) (nI i) (nI j) (nI f) (nI t) := by
  have b1 : tp_mn (f / 9) (t / 9) ≤ 8 := tp_mn_l (by omega) (by omega)
  have b2 : tp_mx (f / 9) (t / 9) ≤ 8 := tp_mx_l (by omega) (by omega)
  have b3 : tp_mn (f % 9) (t % 9) ≤ 8 := tp_mn_l (by omega) (by omega)
  have b4 : tp_mx (f % 9) (t % 9) ≤ 8 := tp_mx_l (by omega) (by omega)
  unfold wpY_isBetween
  dsimp only
  rw [tp_r9 (by omega), tp_r9 (by omega), tp_d9 (by omega), tp_d9 (by omega)]
  refine ⟨tp_9, tp_9, ty_least (by omega) (by omega) (nm_r (tp_t2 _) ⟨tp_9, tp_9, ty_most (by omega) (by omega) (nm_r (tp_t2 _) ⟨tp_9, tp_9, ty_least (by omega) (by omega) (nm_r (tp_t2 _) ⟨tp_9, tp_9, ty_most (by omega) (by omega) (nm_r (tp_t2 _) ?_)⟩)⟩)⟩)⟩
  unfold tp_bx at h
  generalize tp_mn (f / 9) (t / 9) = x0 at *
  generalize tp_mx (f / 9) (t / 9) = x1 at *
  generalize tp_mn (f % 9) (t % 9) = y0 at *
  generalize tp_mx (f % 9) (t % 9) = y1 at *
  refine pk_lt i (2 * x0) (fun e => tp_p0 h (decide_eq_false (by omega))) (fun e1 => pk_lt (2 * x1) i (fun e => tp_p0 h (decide_eq_false (by omega))) (fun e2 => pk_lt j (2 * y0) (fun e => tp_p0 h (decide_eq_false (by omega))) (fun e3 => pk_lt (2 * y1) j (fun e => tp_p0 h (decide_eq_false (by omega))) (fun e4 => tp_p1 h (decide_eq_true (by omega))))))
end
section
variable {K M H A B p q : Nat → Int32}
theorem ty_parts1 {post : SY → Prop} {k : Nat → Nat} {m : Nat → Bool} (hK : ∀ x, K x = nI (k x)) (hM : ∀ x, M x = tp_b (m x)) {s : Nat} (hs : s < 12) (hk : k s ≤ 3) (h : ∀ A', (∀ c, c < 289 → A' c = nI (tp_pt (k s) (tp_sl m s) (c / 17) (c % 17))) → post (K, M, H, A', B, p, q)) : wpY_findParts post (K, M, H, A, B, p, q) (nI s) 1 := by
  refine loop_0 (fun n c a => wY_findParts_2 post (nI s) 1 n (nI c) K M H a B p q) (fun c a => ∀ x, x < c → a x = nI (tp_pt (k s) (tp_sl m s) (x / 17) (x % 17))) 289 A (fun x hx => absurd hx (by omega)) ?_ ?_
  · intro n a ha
    exact br_t (tp_rfl 289) (h a ha)
  · intro n c a hc ha ih
    refine br_f (nI_ge (b := 289) hc (by decide)) ⟨tp_17, tp_17, ?_⟩
    rw [tp_r17 (by omega), tp_d17 (by omega)]
    refine ty_part hK hM hs hk (by omega) (by omega) (br_f (by decide) ⟨vp_in_nI hc (by decide), ?_⟩)
    rw [nI_clamp (by omega)]
    refine nm_e (nm_r (nI_1 c) (ih _ (fun x hx => ?_)))
    by_cases e : x = c
    · subst e
      rw [pk_us]
    · rw [pk_un e]
      exact ha x (by omega)
theorem ty_parts0 {post : SY → Prop} {k : Nat → Nat} {m : Nat → Bool} (hK : ∀ x, K x = nI (k x)) (hM : ∀ x, M x = tp_b (m x)) {s : Nat} (hs : s < 12) (hk : k s ≤ 3) (h : ∀ B', (∀ c, c < 289 → B' c = nI (tp_pt (k s) (tp_sl m s) (c / 17) (c % 17))) → post (K, M, H, A, B', p, q)) : wpY_findParts post (K, M, H, A, B, p, q) (nI s) 0 := by
  refine loop_0 (fun n c a => wY_findParts_2 post (nI s) 0 n (nI c) K M H A a p q) (fun c a => ∀ x, x < c → a x = nI (tp_pt (k s) (tp_sl m s) (x / 17) (x % 17))) 289 B (fun x hx => absurd hx (by omega)) ?_ ?_
  · intro n a ha
    exact br_t (tp_rfl 289) (h a ha)
  · intro n c a hc ha ih
    refine br_f (nI_ge (b := 289) hc (by decide)) ⟨tp_17, tp_17, ?_⟩
    rw [tp_r17 (by omega), tp_d17 (by omega)]
    refine ty_part hK hM hs hk (by omega) (by omega) (br_t rfl ⟨vp_in_nI hc (by decide), ?_⟩)
    rw [nI_clamp (by omega)]
    refine nm_e (nm_r (nI_1 c) (ih _ (fun x hx => ?_)))
    by_cases e : x = c
    · subst e
      rw [pk_us]
    · rw [pk_un e]
      exact ha x (by omega)
end
