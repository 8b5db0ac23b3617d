section
variable {post : Int32 → Prop} {f : Int32} {K S M P T U Q : Nat → Int32} {k : Nat → Nat}
theorem tp_in12 {s : Nat} (hs : s < 12) : vp_in (nI s) 12 := vp_in_nI hs (by decide)
theorem tx_ras_1 {x : Int32} (hx : x < 0 ∨ nI 12 ≤ x) (h : post (-1)) : wpX_refuseAsShape post (f, K, S, M, P, T, U, Q) x := by
  unfold wpX_refuseAsShape
  dsimp only
  exact tx_slot_n hx (br_t rfl h)
theorem tx_ras_2 (hK : ∀ x, K x = nI (k x)) {s : Nat} (hs : s < 12) (hk : k s = 0) (h : post (-2)) : wpX_refuseAsShape post (f, K, S, M, P, T, U, Q) (nI s) := by
  unfold wpX_refuseAsShape
  dsimp only
  rw [nI_clamp (by omega), hK s, hk]
  exact tx_slot_y hs (br_f (by decide) ⟨tp_in12 hs, br_t rfl h⟩)
theorem tx_ras_0 (hK : ∀ x, K x = nI (k x)) {s : Nat} (hs : s < 12) (h3 : k s ≤ 3) (hk : k s ≠ 0) (h : post 0) : wpX_refuseAsShape post (f, K, S, M, P, T, U, Q) (nI s) := by
  unfold wpX_refuseAsShape
  dsimp only
  rw [nI_clamp (by omega), hK s]
  exact tx_slot_y hs (br_f (by decide) ⟨tp_in12 hs, br_f (nI_ne0 (by omega) (by omega)) h⟩)
theorem tx_raa_1 {x : Int32} (hx : x < 0 ∨ nI 12 ≤ x) (h : post (-1)) : wpX_refuseAsArea post (f, K, S, M, P, T, U, Q) x := by
  unfold wpX_refuseAsArea
  dsimp only
  exact tx_ras_1 hx (br_f (by decide) h)
theorem tx_raa_2 (hK : ∀ x, K x = nI (k x)) {s : Nat} (hs : s < 12) (hk : k s = 0) (h : post (-2)) : wpX_refuseAsArea post (f, K, S, M, P, T, U, Q) (nI s) := by
  unfold wpX_refuseAsArea
  dsimp only
  exact tx_ras_2 hK hs hk (br_f (by decide) h)
theorem tx_raa_3 (hK : ∀ x, K x = nI (k x)) {s : Nat} (hs : s < 12) (h3 : k s ≤ 3) (h0 : k s ≠ 0) (hk : k s ≠ 3) (h : post (-3)) : wpX_refuseAsArea post (f, K, S, M, P, T, U, Q) (nI s) := by
  unfold wpX_refuseAsArea
  dsimp only
  refine tx_ras_0 hK hs h3 h0 (br_t rfl ⟨tp_in12 hs, ?_⟩)
  rw [nI_clamp (by omega), hK s]
  exact pk_eq (k s) 3 (fun z => absurd z hk) (fun _ => h)
theorem tx_raa_0 (hK : ∀ x, K x = nI (k x)) {s : Nat} (hs : s < 12) (hk : k s = 3) (h : post 0) : wpX_refuseAsArea post (f, K, S, M, P, T, U, Q) (nI s) := by
  unfold wpX_refuseAsArea
  dsimp only
  refine tx_ras_0 hK hs (by omega) (by omega) (br_t rfl ⟨tp_in12 hs, ?_⟩)
  rw [nI_clamp (by omega), hK s]
  exact pk_eq (k s) 3 (fun _ => h) (fun z => absurd hk z)
theorem tx_rss_1 {x y : Int32} (hx : (x < 0 ∨ nI 12 ≤ x) ∨ (∃ s, s < 12 ∧ x = nI s) ∧ (y < 0 ∨ nI 12 ≤ y)) (h : post (-1)) : wpX_refuseAsShapes post (f, K, S, M, P, T, U, Q) x y := by
  unfold wpX_refuseAsShapes
  dsimp only
  rcases hx with hx | ⟨⟨s, hs, rfl⟩, hy⟩
  · exact tx_slot_n hx (br_t rfl h)
  · exact tx_slot_y hs (br_f (by decide) (tx_slot_n hy (br_t rfl h)))
theorem tx_rss_2 (hK : ∀ x, K x = nI (k x)) {s t : Nat} (hs : s < 12) (ht : t < 12) (h3 : k s ≤ 3) (hk : k s = 0 ∨ k t = 0) (h : post (-2)) : wpX_refuseAsShapes post (f, K, S, M, P, T, U, Q) (nI s) (nI t) := by
  unfold wpX_refuseAsShapes
  dsimp only
  rw [nI_clamp (by omega), nI_clamp (by omega), hK s, hK t]
  refine tx_slot_y hs (br_f (by decide) (tx_slot_y ht (br_f (by decide) ⟨tp_in12 hs, ?_⟩)))
  refine pk_eq (k s) 0 (fun _ => h) (fun e => ⟨tp_in12 ht, ?_⟩)
  rw [hk.resolve_left e]
  exact br_t rfl h
theorem tx_rss_0 (hK : ∀ x, K x = nI (k x)) {s t : Nat} (hs : s < 12) (ht : t < 12) (h3 : k s ≤ 3) (h3t : k t ≤ 3) (hk : k s ≠ 0) (hkt : k t ≠ 0) (h : post 0) : wpX_refuseAsShapes post (f, K, S, M, P, T, U, Q) (nI s) (nI t) := by
  unfold wpX_refuseAsShapes
  dsimp only
  rw [nI_clamp (by omega), nI_clamp (by omega), hK s, hK t]
  exact tx_slot_y hs (br_f (by decide) (tx_slot_y ht (br_f (by decide) ⟨tp_in12 hs, br_f (nI_ne0 (by omega) (by omega)) ⟨tp_in12 ht, br_f (nI_ne0 (by omega) (by omega)) h⟩⟩)))
theorem tx_rta_1 {x a y z : Int32} (hx : x < 0 ∨ nI 12 ≤ x) (h : post (-1)) : wpX_refuseToAdd post (f, K, S, M, P, T, U, Q) x a y z := by
  unfold wpX_refuseToAdd
  dsimp only
  exact tx_slot_n hx (br_t rfl h)
theorem tx_rta_3 (hK : ∀ x, K x = nI (k x)) {s q : Nat} {y z : Int32} (hs : s < 12) (h3 : k s ≤ 3) (hq : q ≤ 3) (h0 : k s ≠ 0) (h1 : k s ≠ q) (h : post (-3)) : wpX_refuseToAdd post (f, K, S, M, P, T, U, Q) (nI s) (nI q) y z := by
  unfold wpX_refuseToAdd
  dsimp only
  rw [nI_clamp (by omega), hK s]
  exact tx_slot_y hs (br_f (by decide) ⟨tp_in12 hs, br_f (nI_ne0 (by omega) (by omega)) ⟨tp_in12 hs, pk_eq (k s) q (fun e => absurd e h1) (fun _ => h)⟩⟩)
theorem tx_rta_x (hK : ∀ x, K x = nI (k x)) {s q : Nat} {y z : Int32} (hs : s < 12) (h3 : k s ≤ 3) (hq : q ≤ 3) (h1 : k s = 0 ∨ k s = q) (h : wX_refuseToAdd_31 post y z f K S M P T U Q) : wpX_refuseToAdd post (f, K, S, M, P, T, U, Q) (nI s) (nI q) y z := by
  unfold wpX_refuseToAdd
  dsimp only
  rw [nI_clamp (by omega), hK s]
  exact tx_slot_y hs (br_f (by decide) ⟨tp_in12 hs, pk_eq (k s) 0 (fun _ => h) (fun e0 => ⟨tp_in12 hs, pk_eq (k s) q (fun _ => h) (fun e => absurd (h1.resolve_left e0) e)⟩)⟩)
theorem tx_rta_4 {y z : Int32} (hy : (y < 0 ∨ nI 81 ≤ y) ∨ (∃ s, s < 81 ∧ y = nI s) ∧ (z < 0 ∨ nI 81 ≤ z)) (h : post (-4)) : wX_refuseToAdd_31 post y z f K S M P T U Q := by
  rcases hy with hx | ⟨⟨s, hs, rfl⟩, hy⟩
  · exact tx_vert_n hx (br_t rfl h)
  · exact tx_vert_y hs (br_f (by decide) (tx_vert_n hy (br_t rfl h)))
theorem tx_rta_0 {a b : Nat} (ha : a < 81) (hb : b < 81) (h : post 0) : wX_refuseToAdd_31 post (nI a) (nI b) f K S M P T U Q := tx_vert_y ha (br_f (by decide) (tx_vert_y hb (br_f (by decide) h)))
theorem tx_shc {a b : Nat} (ha : a < 81) (hb : b < 81) (h : post (tp_b (decide (a / 9 = b / 9)))) : wpX_sharesColumn post (nI a) (nI b) := tx_col (by omega) (tx_col (by omega) (pk_eq (a / 9) (b / 9) (fun e => tp_p1 h (decide_eq_true e)) (fun e => tp_p0 h (decide_eq_false e))))
theorem tx_shr {a b : Nat} (ha : a < 81) (hb : b < 81) (h : post (tp_b (decide (a % 9 = b % 9)))) : wpX_sharesRow post (nI a) (nI b) := tx_row (by omega) (tx_row (by omega) (pk_eq (a % 9) (b % 9) (fun e => tp_p1 h (decide_eq_true e)) (fun e => tp_p0 h (decide_eq_false e))))
end
section
variable {post : Int32 → Prop} {K M H A B p q : Nat → Int32} {k : Nat → Nat}
theorem ty_ba_1 {x : Int32} (hx : x < 0 ∨ nI 12 ≤ x) (h : post (-1)) : wpY_badArea post (K, M, H, A, B, p, q) x := by
  unfold wpY_badArea
  dsimp only
  exact ty_slot_n hx (br_t rfl h)
theorem ty_ba_2 (hK : ∀ x, K x = nI (k x)) {s : Nat} (hs : s < 12) (hk : k s = 0) (h : post (-2)) : wpY_badArea post (K, M, H, A, B, p, q) (nI s) := by
  unfold wpY_badArea
  dsimp only
  rw [nI_clamp (by omega), hK s, hk]
  exact ty_slot_y hs (br_f (by decide) ⟨tp_in12 hs, br_t rfl h⟩)
theorem ty_ba_3 (hK : ∀ x, K x = nI (k x)) {s : Nat} (hs : s < 12) (h3 : k s ≤ 3) (h0 : k s ≠ 0) (hk : k s ≠ 3) (h : post (-3)) : wpY_badArea post (K, M, H, A, B, p, q) (nI s) := by
  unfold wpY_badArea
  dsimp only
  rw [nI_clamp (by omega), hK s]
  exact ty_slot_y hs (br_f (by decide) ⟨tp_in12 hs, br_f (nI_ne0 (by omega) (by omega)) ⟨tp_in12 hs, pk_eq (k s) 3 (fun z => absurd z hk) (fun _ => h)⟩⟩)
theorem ty_ba_0 (hK : ∀ x, K x = nI (k x)) {s : Nat} (hs : s < 12) (hk : k s = 3) (h : post 0) : wpY_badArea post (K, M, H, A, B, p, q) (nI s) := by
  unfold wpY_badArea
  dsimp only
  rw [nI_clamp (by omega), hK s, hk]
  exact ty_slot_y hs (br_f (by decide) ⟨tp_in12 hs, br_f (by decide) ⟨tp_in12 hs, br_t rfl h⟩⟩)
theorem ty_bp_1 {x y : Int32} (hx : (x < 0 ∨ nI 12 ≤ x) ∨ (∃ s, s < 12 ∧ x = nI s) ∧ (y < 0 ∨ nI 12 ≤ y)) (h : post (-1)) : wpY_badPair post (K, M, H, A, B, p, q) x y := by
  unfold wpY_badPair
  dsimp only
  rcases hx with hx | ⟨⟨s, hs, rfl⟩, hy⟩
  · exact ty_slot_n hx (br_t rfl h)
  · exact ty_slot_y hs (br_f (by decide) (ty_slot_n hy (br_t rfl h)))
theorem ty_bp_2 (hK : ∀ x, K x = nI (k x)) {s t : Nat} (hs : s < 12) (ht : t < 12) (h3 : k s ≤ 3) (hk : k s = 0 ∨ k t = 0) (h : post (-2)) : wpY_badPair post (K, M, H, A, B, p, q) (nI s) (nI t) := by
  unfold wpY_badPair
  dsimp only
  rw [nI_clamp (by omega), nI_clamp (by omega), hK s, hK t]
  refine ty_slot_y hs (br_f (by decide) (ty_slot_y ht (br_f (by decide) ⟨tp_in12 hs, ?_⟩)))
  refine pk_eq (k s) 0 (fun _ => h) (fun e => ⟨tp_in12 ht, ?_⟩)
  rw [hk.resolve_left e]
  exact br_t rfl h
theorem ty_bp_0 (hK : ∀ x, K x = nI (k x)) {s t : Nat} (hs : s < 12) (ht : t < 12) (h3 : k s ≤ 3) (h3t : k t ≤ 3) (hk : k s ≠ 0) (hkt : k t ≠ 0) (h : post 0) : wpY_badPair post (K, M, H, A, B, p, q) (nI s) (nI t) := by
  unfold wpY_badPair
  dsimp only
  rw [nI_clamp (by omega), nI_clamp (by omega), hK s, hK t]
  exact ty_slot_y hs (br_f (by decide) (ty_slot_y ht (br_f (by decide) ⟨tp_in12 hs, br_f (nI_ne0 (by omega) (by omega)) ⟨tp_in12 ht, br_f (nI_ne0 (by omega) (by omega)) h⟩⟩)))
theorem ty_bc_4 {y z : Int32} (hy : (y < 0 ∨ nI 81 ≤ y) ∨ (∃ s, s < 81 ∧ y = nI s) ∧ (z < 0 ∨ nI 81 ≤ z)) (h : post (-4)) : wpY_badCorners post (K, M, H, A, B, p, q) y z := by
  unfold wpY_badCorners
  dsimp only
  rcases hy with hx | ⟨⟨s, hs, rfl⟩, hy⟩
  · exact ty_vert_n hx (br_t rfl h)
  · exact ty_vert_y hs (br_f (by decide) (ty_vert_n hy (br_t rfl h)))
theorem ty_bc_5 {a b : Nat} (ha : a < 81) (hb : b < 81) (h : post (if a / 9 = b / 9 ∨ a % 9 = b % 9 then -5 else 0)) : wpY_badCorners post (K, M, H, A, B, p, q) (nI a) (nI b) := by
  unfold wpY_badCorners
  dsimp only
  rw [tp_r9 (by omega), tp_r9 (by omega), tp_d9 (by omega), tp_d9 (by omega)]
  refine ty_vert_y ha (br_f (by decide) (ty_vert_y hb (br_f (by decide) ⟨tp_9, tp_9, pk_eq (a / 9) (b / 9) (fun e => ?_) (fun e => ⟨tp_9, tp_9, pk_eq (a % 9) (b % 9) (fun e2 => ?_) (fun e2 => ?_)⟩)⟩)))
  · rw [if_pos (Or.inl e)] at h
    exact h
  · rw [if_pos (Or.inr e2)] at h
    exact h
  · rw [if_neg (fun z => z.elim e e2)] at h
    exact h
end
/-- two arguments, each within or not -/
theorem tp_rg2 (x y : Int32) (n : Nat) (hn : n < 2 ^ 31) : (∃ a b : Nat, a < n ∧ b < n ∧ x = nI a ∧ y = nI b) ∨ ((x < 0 ∨ nI n ≤ x) ∨ (∃ s, s < n ∧ x = nI s) ∧ (y < 0 ∨ nI n ≤ y)) := by
  rcases tp_rg x n hn with ⟨a, ha, rfl⟩ | hx
  · rcases tp_rg y n hn with ⟨b, hb, rfl⟩ | hy
    · exact Or.inl ⟨a, b, ha, hb, rfl, rfl⟩
    · exact Or.inr (Or.inr ⟨⟨a, ha, rfl⟩, hy⟩)
  · exact Or.inr (Or.inl hx)
