section
variable {K M H A B p q : Nat → Int32}
theorem ty_st47 {post : Int32 → Prop} {x3 z0 z1 : Int32} {i j : Int} (hx : x3.toInt = i) (hy : (z1 + z0).toInt = j) (h1 : ∀ a b : Nat, a ≤ 16 → b ≤ 16 → (a : Int) = i → (b : Int) = j → post (nI (17 * a + b))) (h0 : ¬ (0 ≤ i ∧ i ≤ 16 ∧ 0 ≤ j ∧ j ≤ 16) → post (-1)) : wY_step_47 post x3 z0 z1 K M H A B p q := by
  unfold wY_step_47
  refine nm_e ?_
  generalize hz : z1 + z0 = y at hy ⊢
  have a1 := @tp_lt0 x3
  have a2 := @tp_ltL x3 16 (by decide)
  have a3 := @tp_lt0 y
  have a4 := @tp_leR y 16 (by decide)
  rw [hx] at a1 a2
  rw [hy] at a3 a4
  refine br_c (fun a => h0 ?_) (fun a => br_c (fun b => h0 ?_) (fun b => br_c (fun c => h0 ?_) (fun c => br_c (fun d => ?_) (fun d => h0 ?_))))
  · have := a1.mp a
    omega
  · have := a2.mp b
    omega
  · have := a3.mp c
    omega
  · have b1 : ¬ i < 0 := fun z => a (a1.mpr z)
    have b2 : ¬ ((16 : Nat) : Int) < i := fun z => b (a2.mpr z)
    have b3 : ¬ j < 0 := fun z => c (a3.mpr z)
    have b4 := a4.mp d
    obtain ⟨i', hi, rfl⟩ := tp_nat (x := x3) (n := 16) (by omega) (by omega)
    obtain ⟨j', hj, rfl⟩ := tp_nat (x := y) (n := 16) (by omega) (by omega)
    rw [tp_0i (by omega)] at hx hy
    rw [tp_j17]
    exact h1 i' j' hi hj hx hy
  · have : ¬ j ≤ ((16 : Nat) : Int) := fun z => d (a4.mpr z)
    omega
theorem tp_am1 {a : Nat} (h : a < 2 ^ 30) : (nI a + (-1)).toInt = (a : Int) - 1 := by
  rw [show nI a + (-1) = nI a - 1 from by grind]
  exact tp_m1 h
theorem tp_a0 {a : Nat} (h : a < 2 ^ 30) : (nI a + 0).toInt = (a : Int) := by
  rw [Int32.add_zero]
  exact tp_0i h
theorem ty_step {post : Int32 → Prop} {a d : Nat} (ha : a < 289) (hd : d < 4) (h1 : ∀ b, b < 289 → tp_nd a d b → post (nI b)) (h0 : (∀ b, b < 289 → ¬ tp_nd a d b) → post (-1)) : wpY_step post (K, M, H, A, B, p, q) (nI a) (nI d) := by
  unfold wpY_step
  dsimp only
  rw [tp_d17 (by omega)]
  refine ⟨tp_17, ?_⟩
  have m1 := @tp_am1 (a / 17) (by omega)
  have m2 := @tp_am1 (a % 17) (by omega)
  have p1 := @tp_q1 (a / 17) (by omega)
  have p2 := @tp_q1 (a % 17) (by omega)
  have z1 := @tp_a0 (a / 17) (by omega)
  have z2 := @tp_a0 (a % 17) (by omega)
  have hd' : d = 0 ∨ d = 1 ∨ d = 2 ∨ d = 3 := by omega
  rcases hd' with rfl | rfl | rfl | rfl
  · refine br_t rfl ?_
    unfold wY_step_22
    rw [tp_r17 (by omega)]
    refine nm_e ⟨tp_17, br_f (by decide) (br_f (by decide) ?_)⟩
    refine ty_st47 p1 z2 (fun x y hx hy e1 e2 => h1 _ (by omega) ?_) (fun g => h0 (fun b hb z => g ?_))
    · unfold tp_nd
      omega
    · unfold tp_nd at z
      omega
  · refine br_f (by decide) (br_t rfl ?_)
    unfold wY_step_22
    rw [tp_r17 (by omega)]
    refine nm_e ⟨tp_17, br_f (by decide) (br_f (by decide) ?_)⟩
    refine ty_st47 m1 z2 (fun x y hx hy e1 e2 => h1 _ (by omega) ?_) (fun g => h0 (fun b hb z => g ?_))
    · unfold tp_nd
      omega
    · unfold tp_nd at z
      omega
  · refine br_f (by decide) (br_f (by decide) ?_)
    unfold wY_step_22
    rw [tp_r17 (by omega)]
    refine nm_e ⟨tp_17, br_t rfl ?_⟩
    refine ty_st47 z1 p2 (fun x y hx hy e1 e2 => h1 _ (by omega) ?_) (fun g => h0 (fun b hb z => g ?_))
    · unfold tp_nd
      omega
    · unfold tp_nd at z
      omega
  · refine br_f (by decide) (br_f (by decide) ?_)
    unfold wY_step_22
    rw [tp_r17 (by omega)]
    refine nm_e ⟨tp_17, br_f (by decide) (br_t rfl ?_)⟩
    refine ty_st47 z1 m2 (fun x y hx hy e1 e2 => h1 _ (by omega) ?_) (fun g => h0 (fun b hb z => g ?_))
    · unfold tp_nd
      omega
    · unfold tp_nd at z
      omega
end
/-- the reference's walk: labels l1 over l, label w, the queue -/
def tp_AY (l l1 : Nat → Nat) (w : Nat) (Qq : Nat → Nat) (L : Nat) (p q : Nat → Int32) : Prop := (∀ c, c < 289 → p c = nI (l1 c)) ∧ (∀ x, x < L → q x = nI (Qq x)) ∧ (∀ c, (∃ x, x < L ∧ Qq x = c) → l1 c = w) ∧ (∀ c, (¬ ∃ x, x < L ∧ Qq x = c) → l1 c = l c)
def tp_hu (h : Nat → Bool) (l : Nat → Nat) : Nat → Bool := fun c => h c && (l c == 0)
theorem tp_hu_t {h : Nat → Bool} {l : Nat → Nat} {c : Nat} : tp_hu h l c = true ↔ h c = true ∧ l c = 0 := by
  unfold tp_hu
  rw [Bool.and_eq_true, beq_iff_eq]
theorem tp_hu_u (h : Nat → Bool) (l : Nat → Nat) (b w : Nat) (hw : w ≠ 0) : tp_hu h (tp_v l b w) = tp_u (tp_hu h l) b false := by
  funext c
  by_cases e : c = b
  · subst e
    rw [tp_u_s]
    cases z : tp_hu h (tp_v l c w) c with
    | false => rfl
    | true =>
      have := (tp_hu_t.mp z).2
      rw [tp_v_s] at this
      exact absurd this hw
  · rw [tp_u_n e]
    unfold tp_hu
    rw [tp_v_n e]
theorem tp_AY_s {l l1 : Nat → Nat} {w : Nat} {Qq : Nat → Nat} {L : Nat} {p q : Nat → Int32} (h : tp_AY l l1 w Qq L p q) (b : Nat) : tp_AY l (tp_v l1 b w) w (tp_v Qq L b) (L + 1) (upd p b (nI w)) (upd q L (nI b)) := by
  obtain ⟨h1, h2, h3, h4⟩ := h
  refine ⟨fun c hc => ?_, fun x hx => ?_, ?_, fun c hc => ?_⟩
  · by_cases e : c = b
    · subst e
      rw [pk_us, tp_v_s]
    · rw [pk_un e, tp_v_n e]
      exact h1 c hc
  · by_cases e : x = L
    · subst e
      rw [pk_us, tp_v_s]
    · rw [pk_un e, tp_v_n e]
      exact h2 x (by omega)
  · rintro c ⟨x, hx, e⟩
    by_cases ec : c = b
    · subst ec
      rw [tp_v_s]
    · rw [tp_v_n ec]
      refine h3 c ⟨x, ?_, ?_⟩
      · by_cases ex : x = L
        · subst ex
          rw [tp_v_s] at e
          exact absurd e.symm ec
        · omega
      · by_cases ex : x = L
        · subst ex
          rw [tp_v_s] at e
          exact absurd e.symm ec
        · rw [tp_v_n ex] at e
          exact e
  · have ec : c ≠ b := by
      intro z
      subst z
      exact hc ⟨L, by omega, tp_v_s Qq L c⟩
    rw [tp_v_n ec]
    refine h4 c ?_
    rintro ⟨x, hx, e⟩
    refine hc ⟨x, by omega, ?_⟩
    rw [tp_v_n (by omega)]
    exact e
section
variable {K M H A B p q : Nat → Int32} {h : Nat → Bool} {l : Nat → Nat}
theorem ty_spr28 {post : SY → Prop} {J : Int32 → Int32 → (Nat → Int32) → (Nat → Int32) → (Nat → Int32) → (Nat → Int32) → (Nat → Int32) → (Nat → Int32) → (Nat → Int32) → Prop} (hH : ∀ c, c < 289 → H c = tp_b (h c)) {G : Nat → Bool} {s n w : Nat} (hw0 : w ≠ 0) (hw : w ≤ 289) (hl : ∀ c, l c ≤ 289) {l1 Qq : Nat → Nat} {L : Nat} (hn : n < 289) (hS : tp_S G s n (Qq n) (fun _ => False) (tp_hu h l1) Qq L) (hA : tp_AY l l1 w Qq L p q)
    (hJ : ∀ l1 Qq L p q, tp_Q G s (tp_hu h l1) Qq L → tp_C (tp_hu h l1) Qq (n + 1) → n + 1 ≤ L → (∃ x, x < L ∧ Qq x = s) → tp_AY l l1 w Qq L p q → J (nI L) (nI (n + 1)) K M H A B p q) :
    ∃ z, wY_spread_28 post J (nI w) (nI n) z (nI L) 0 K M H A B p q := by
  generalize ha : Qq n = a at hS
  refine loop_0 (fun z d (y : Nat × (Nat → Int32) × (Nat → Int32)) => wY_spread_28 post J (nI w) (nI n) z (nI y.1) (nI d) K M H A B y.2.1 y.2.2) (fun d y => ∃ l1 Qq, tp_S G s n a (fun x => x < d) (tp_hu h l1) Qq y.1 ∧ tp_AY l l1 w Qq y.1 y.2.1 y.2.2) 4 (L, p, q) ⟨l1, Qq, ?_, hA⟩ ?_ ?_
  · obtain ⟨z1, z2, z3, z4, z5, z6⟩ := hS
    exact ⟨z1, z2, z3, z4, z5, fun d b hd => absurd hd (by omega)⟩
  · rintro z ⟨L, p, q⟩ ⟨l1, Qq, hS, hA⟩
    refine br_t (tp_rfl 4) (nm_r (nI_1 n) (hJ l1 Qq L p q hS.1 (tp_S_e hS (fun d hd => hd)) ?_ hS.2.2.2.2.1 hA))
    have := hS.2.2.1
    exact this
  · rintro z d ⟨L, p, q⟩ hd ⟨l1, Qq, hS, hA⟩ ih
    refine br_f (nI_ge (b := 4) hd (by decide)) ⟨vp_in_nI hn (by decide), ?_⟩
    dsimp only
    have hnL : n < L := hS.2.2.1
    have hqa : Qq n = a := hS.2.2.2.1
    have ha9 : a < 289 := by
      rw [← hqa]
      exact (hS.1.1 n hnL).1
    rw [nI_clamp (n := n) (by omega), show q n = nI (Qq n) from hA.2.1 n hnL, hqa]
    have hl1 : ∀ c, l1 c ≤ 289 := by
      intro c
      by_cases e : ∃ x, x < L ∧ Qq x = c
      · rw [hA.2.2.1 c e]
        exact hw
      · rw [hA.2.2.2 c e]
        exact hl c
    have stay : (∀ b, b < 289 → tp_nd a d b → tp_hu h l1 b = false) → ∃ l1 Qq, tp_S G s n a (fun x => x < d + 1) (tp_hu h l1) Qq L ∧ tp_AY l l1 w Qq L p q := fun hb => ⟨l1, Qq, tp_S_n hS hb (fun x hx => by omega), hA⟩
    refine ty_step ha9 hd (fun b hb hnd => ?_) (fun hno => br_t (by decide) (nm_r (nI_1 d) (ih (L, p, q) (stay (fun b hb z => absurd z (hno b hb))))))
    have hin : vp_in (nI b) 289 := vp_in_nI hb (by decide)
    have hp : p b = nI (l1 b) := hA.1 b hb
    rw [nI_clamp (n := b) (by omega), hH b hb, hp]
    have one : ∀ c, c < 289 → tp_nd a d c → c = b := fun c _ z => tp_nd_u z hnd
    refine br_f (nI_pos (by omega)) ⟨hin, tp_br (fun e => nm_r (nI_1 d) (ih (L, p, q) (stay (fun c hc z => ?_)))) (fun e => ⟨hin, pk_eq (l1 b) 0 (fun e1 => ?_) (fun e1 => nm_r (nI_1 d) (ih (L, p, q) (stay (fun c hc z => ?_)))) rfl rfl (by have := hl1 b; omega) (by decide)⟩)⟩
    · rw [one c hc z]
      unfold tp_hu
      rw [e, Bool.false_and]
    · have hU : tp_hu h l1 b = true := tp_hu_t.mpr ⟨e, e1⟩
      have hL : L < 289 := tp_Q_lt hS.1 hb hU
      refine ⟨hin, nm_e ⟨vp_in_nI hL (by decide), ?_⟩⟩
      rw [nI_clamp (n := L) (by omega)]
      refine nm_e (nm_r (nI_1 L) (nm_r (nI_1 d) (ih (L + 1, _, _) ⟨tp_v l1 b w, tp_v Qq L b, ?_, tp_AY_s hA b⟩)))
      rw [tp_hu_u h l1 b w hw0]
      exact tp_S_y hS hb hnd hU (fun x hx => by omega)
    · rw [one c hc z]
      cases y : tp_hu h l1 b with
      | false => rfl
      | true => exact absurd (tp_hu_t.mp y).2 e1
theorem ty_spr19 {post : SY → Prop} (hH : ∀ c, c < 289 → H c = tp_b (h c)) {G : Nat → Bool} {s w : Nat} (hw0 : w ≠ 0) (hw : w ≤ 289) (hl : ∀ c, l c ≤ 289) {l1 Qq : Nat → Nat} {L : Nat} (hQ : tp_Q G s (tp_hu h l1) Qq L) (hs : ∃ x, x < L ∧ Qq x = s) (hA : tp_AY l l1 w Qq L p q)
    (hp : ∀ l1 Qq L p q, tp_Q G s (tp_hu h l1) Qq L → tp_C (tp_hu h l1) Qq L → (∃ x, x < L ∧ Qq x = s) → tp_AY l l1 w Qq L p q → post (K, M, H, A, B, p, q)) :
    ∃ z, wY_spread_19 post (nI w) z (nI L) 0 K M H A B p q := by
  refine loop_0 (fun z n (y : Nat × (Nat → Int32) × (Nat → Int32)) => wY_spread_19 post (nI w) z (nI y.1) (nI n) K M H A B y.2.1 y.2.2) (fun n y => ∃ l1 Qq, tp_Q G s (tp_hu h l1) Qq y.1 ∧ tp_C (tp_hu h l1) Qq n ∧ n ≤ y.1 ∧ (∃ x, x < y.1 ∧ Qq x = s) ∧ tp_AY l l1 w Qq y.1 y.2.1 y.2.2) 289 (L, p, q) ⟨l1, Qq, hQ, tp_C_0 _ _, by omega, hs, hA⟩ ?_ ?_
  · rintro z ⟨L, p, q⟩ ⟨l1, Qq, hQ, hC, hn, hs, hA⟩
    have e : L = 289 := by
      have h1 : L ≤ 289 := tp_Q_l hQ
      have h2 : 289 ≤ L := hn
      omega
    subst e
    exact br_t (tp_rfl 289) (hp l1 Qq 289 p q hQ hC hs hA)
  · rintro z n ⟨L, p, q⟩ hn ⟨l1, Qq, hQ, hC, hnL, hs, hA⟩ ih
    have hL : L ≤ 289 := tp_Q_l hQ
    have hnL : n ≤ L := hnL
    by_cases e : L ≤ n
    · have e : L = n := by omega
      subst e
      exact br_t (tp_rfl L) (hp l1 Qq L p q hQ hC hs hA)
    · refine br_f (nI_ge (by omega) (by omega)) ?_
      exact ty_spr28 hH hw0 hw hl hn (tp_S_0 hQ hC (by omega) hs) hA (fun l1 Qq L p q a b c d e => ih (L, p, q) ⟨l1, Qq, a, b, c, d, e⟩)
/-- spread: the label over all that is reached -/
theorem ty_spread {post : SY → Prop} (hH : ∀ c, c < 289 → H c = tp_b (h c)) {s w : Nat} (hw0 : w ≠ 0) (hw : w ≤ 289) (hl : ∀ c, l c ≤ 289) (hpl : ∀ c, c < 289 → p c = nI (l c)) (hs : s < 289) (hop : tp_hu h l s = true)
    (hp : ∀ (l1 : Nat → Nat) (p q : Nat → Int32), (∀ c, c < 289 → p c = nI (l1 c)) → (∀ c, tp_rc (tp_hu h l) s c → l1 c = w) → (∀ c, ¬ tp_rc (tp_hu h l) s c → l1 c = l c) → post (K, M, H, A, B, p, q)) : wpY_spread post (K, M, H, A, B, p, q) (nI s) (nI w) := by
  unfold wpY_spread
  dsimp only
  rw [nI_clamp (by omega)]
  refine nm_e ⟨vp_in_nI hs (by decide), nm_e ?_⟩
  have hA0 : tp_AY l l w (fun _ => 0) 0 p q := ⟨hpl, fun x hx => absurd hx (by omega), fun c ⟨x, hx, _⟩ => absurd hx (by omega), fun c _ => rfl⟩
  have hA1 := tp_AY_s hA0 s
  have hQ1 : tp_Q (tp_hu h l) s (tp_hu h (tp_v l s w)) (tp_v (fun _ => 0) 0 s) 1 := by
    rw [tp_hu_u h l s w hw0]
    exact tp_Q_1 (fun _ => 0) hs hop
  refine ty_spr19 (G := tp_hu h l) (L := 1) hH hw0 hw hl hQ1 (tp_Q_1s (fun _ => 0) s) hA1 (fun l1 Qq L p q hQ hC hs hA => ?_)
  have hE := tp_Q_e hQ hC hs
  exact hp l1 p q hA.1 (fun c z => hA.2.2.1 c ((hE c).mpr z)) (fun c z => hA.2.2.2 c (fun y => z ((hE c).mp y)))
theorem ty_fpieces {post : Int32 → SY → Prop} (hH : ∀ c, c < 289 → H c = tp_b (h c)) (hp : ∀ (p q : Nat → Int32), (∀ c, c < 289 → p c = nI ((tp_lb h 289).1 c)) → post (nI (tp_lb h 289).2) (K, M, H, A, B, p, q)) : wpY_findPieces post (K, M, H, A, B, p, q) := by
  refine loop_0 (fun n c p => wY_findPieces_4 post 0 n (nI c) K M H A B p q) (fun c p => ∀ x, x < c → p x = 0) 289 p (fun x hx => absurd hx (by omega)) ?_ ?_
  · intro n p0 hp0
    refine br_t (tp_rfl 289) ?_
    refine loop_0 (fun n c (y : Nat × (Nat → Int32) × (Nat → Int32)) => wY_findPieces_26 post n (nI y.1) (nI c) K M H A B y.2.1 y.2.2) (fun c y => y.1 = (tp_lb h c).2 ∧ ∀ x, x < 289 → y.2.1 x = nI ((tp_lb h c).1 x)) 289 (0, p0, q) ⟨rfl, fun x hx => hp0 x hx⟩ ?_ ?_
    · rintro n ⟨y, p, q⟩ ⟨hy, hp2⟩
      have hy : y = _ := hy
      subst hy
      exact br_t (tp_rfl 289) (hp p q hp2)
    · rintro n c ⟨y, p, q⟩ hc ⟨hy, hp2⟩ ih
      have hy : y = (tp_lb h c).2 := hy
      have hp2 : ∀ x, x < 289 → p x = nI ((tp_lb h c).1 x) := hp2
      refine br_f (nI_ge (b := 289) hc (by decide)) ?_
      dsimp only
      have hin : vp_in (nI c) 289 := vp_in_nI hc (by decide)
      have hn := tp_lb_n9 h c
      have hle : ∀ x, (tp_lb h c).1 x ≤ 289 := by
        intro x
        have := tp_lb_le h c x
        omega
      rw [nI_clamp (by omega), hH c hc, hp2 c hc]
      have no : ¬ tp_op h c c = true → (y = (tp_lb h (c + 1)).2 ∧ ∀ x, x < 289 → p x = nI ((tp_lb h (c + 1)).1 x)) := by
        intro z
        rw [tp_lb_n z]
        exact ⟨hy, hp2⟩
      refine ⟨hin, tp_br (fun e => nm_r (nI_1 c) (ih (y, p, q) (no (fun z => ?_)))) (fun e => ⟨hin, pk_eq ((tp_lb h c).1 c) 0 (fun e1 => ?_) (fun e1 => nm_r (nI_1 c) (ih (y, p, q) (no (fun z => e1 (tp_op_t.mp z).2)))) rfl rfl (by have := hle c; omega) (by decide)⟩)⟩
      · have := (tp_op_t.mp z).1
        rw [e] at this
        exact nomatch this
      · have ht : tp_op h c c = true := tp_op_t.mpr ⟨e, e1⟩
        refine nm_r (nI_1 y) ?_
        refine ty_spread (l := (tp_lb h c).1) hH (by omega) (by omega) hle hp2 hc ht (fun l1 p q g1 g2 g3 => ?_)
        dsimp only
        refine nm_r (nI_1 c) (ih (y + 1, p, q) ⟨?_, fun x hx => ?_⟩)
        · show y + 1 = _
          rw [tp_lb_2 ht, hy]
        · show p x = _
          rw [g1 x hx]
          by_cases z : tp_rc (tp_op h c) c x
          · rw [tp_lb_y ht z, g2 x z, hy]
          · rw [tp_lb_o ht z, g3 x z]
  · intro n c p0 hc hp0 ih
    refine br_f (nI_ge (b := 289) hc (by decide)) ⟨vp_in_nI hc (by decide), ?_⟩
    rw [nI_clamp (by omega)]
    refine nm_e (nm_r (nI_1 c) (ih _ (fun x hx => ?_)))
    by_cases e : x = c
    · subst e
      rw [pk_us]
    · rw [pk_un e]
      exact hp0 x (by omega)
theorem ty_hole48 {post : Int32 → Prop} {J : Int32 → Int32 → Prop} {c w : Nat} (hc : c < 289) (hw : w ≤ 289) (hl : l c ≤ 289) (hpc : p c = nI (l c)) {x b : Bool} (h : J (tp_b (x && !(decide (l c = w) && b))) (nI (c + 1))) : wY_isHole_48 post J (nI w) (tp_b x) (nI c) (tp_b b) K M H A B p q := by
  unfold wY_isHole_48
  rw [nI_clamp (by omega), hpc]
  refine tp_br (fun e => nm_r (nI_1 c) ?_) (fun e => ⟨vp_in_nI hc (by decide), pk_eq (l c) w (fun e1 => tp_br (fun e2 => nm_r (nI_1 c) ?_) (fun e2 => nm_r (nI_1 c) ?_)) (fun e1 => nm_r (nI_1 c) ?_)⟩)
  · rw [e] at h
    exact h
  · rw [e, e2, decide_eq_true e1] at h
    exact h
  · rw [e, e2, decide_eq_true e1] at h
    exact h
  · rw [e, decide_eq_false e1] at h
    exact h
theorem ty_hole {post : Int32 → Prop} {w : Nat} (hw : w ≤ 289) (hl : ∀ c, l c ≤ 289) (hp : ∀ c, c < 289 → p c = nI (l c)) (h : post (tp_b (tp_hl l w 289))) : wpY_isHole post (K, M, H, A, B, p, q) (nI w) := by
  refine loop_0 (fun n c (x : Bool) => wY_isHole_4 post (nI w) K M H A B p q n (tp_b x) (nI c)) (fun c x => x = tp_hl l w c) 289 true rfl ?_ ?_
  · intro n x hx
    subst hx
    exact br_t (tp_rfl 289) ⟨tp_nab _, h⟩
  · intro n c x hc hx ih
    refine br_f (nI_ge (b := 289) hc (by decide)) ?_
    rw [tp_r17 (by omega), tp_d17 (by omega)]
    have key : ∀ b, tp_bd c = b → wY_isHole_48 post (fun a d => wY_isHole_4 post (nI w) K M H A B p q n a d) (nI w) (tp_b x) (nI c) (tp_b b) K M H A B p q := by
      intro b hb
      refine ty_hole48 hc hw (hl c) (hp c hc) (ih _ ?_)
      rw [tp_hl, ← hx, hb]
    have yes : (c / 17 = 0 ∨ c / 17 = 16 ∨ c % 17 = 0 ∨ c % 17 = 16) → wY_isHole_43 post (fun a d => wY_isHole_4 post (nI w) K M H A B p q n a d) (nI w) (tp_b x) (nI c) K M H A B p q := fun z => key true (decide_eq_true z)
    exact ⟨tp_17, pk_eq (c / 17) 0 (fun e1 => yes (Or.inl e1)) (fun e1 => ⟨tp_17, pk_eq (c / 17) 16 (fun e2 => yes (Or.inr (Or.inl e2))) (fun e2 => ⟨tp_17, pk_eq (c % 17) 0 (fun e3 => yes (Or.inr (Or.inr (Or.inl e3)))) (fun e3 => ⟨tp_17, pk_eq (c % 17) 16 (fun e4 => yes (Or.inr (Or.inr (Or.inr e4)))) (fun e4 => key false (decide_eq_false (by omega)))⟩)⟩)⟩)⟩
theorem ty_outer {post : Int32 → SY → Prop} {k : Nat → Nat} {m : Nat → Bool} (hK : ∀ x, K x = nI (k x)) (hM : ∀ x, M x = tp_b (m x)) {s : Nat} (hs : s < 12) (h3 : k s ≤ 3) {g : Nat → Bool} (hg : g = fun c => decide (2 ≤ tp_ps k m s c ∧ tp_ps k m s c ≤ 2))
    (hp : ∀ (H A p q : Nat → Int32), (∀ c, c < 289 → p c = nI ((tp_lb g 289).1 c)) → post (nI (tp_lb g 289).2) (K, M, H, A, B, p, q)) : wpY_outerPieces post (K, M, H, A, B, p, q) (nI s) := by
  unfold wpY_outerPieces
  dsimp only
  refine ty_parts1 hK hM hs h3 (fun A' hA => ?_)
  dsimp only
  refine loop_0 (fun n c H => wY_outerPieces_8 post n (nI c) K M H A' B p q) (fun c H => ∀ x, x < c → H x = tp_b (g x)) 289 H (fun x hx => absurd hx (by omega)) ?_ ?_
  · intro n H' hH
    refine br_t (tp_rfl 289) ?_
    exact ty_fpieces (h := g) hH (fun p q a => hp H' A' p q a)
  · intro n c H' hc hH ih
    refine br_f (nI_ge (b := 289) hc (by decide)) ?_
    have hl := tp_ps_2 k m s c
    have hA' : A' c = nI (tp_ps k m s c) := hA c hc
    have st : ∀ b, g c = b → ∀ x, x < c + 1 → upd H' c (tp_b b) x = tp_b (g x) := by
      intro b hb x hx
      by_cases e : x = c
      · subst e
        rw [pk_us, hb]
      · rw [pk_un e]
        exact hH x (by omega)
    have hin : vp_in (nI c) 289 := vp_in_nI hc (by decide)
    rw [nI_clamp (by omega), hA', tp_nar0, tp_nar1]
    refine ⟨hin, pk_eq (tp_ps k m s c) 2 (fun e => ⟨hin, nm_e (nm_r (nI_1 c) (ih _ (st true ?_)))⟩) (fun e => ⟨hin, nm_e (nm_r (nI_1 c) (ih _ (st false ?_)))⟩)⟩
    · rw [hg]
      exact decide_eq_true (by omega)
    · rw [hg]
      exact decide_eq_false (by omega)
end
