theorem tx_prep {post : SX → Prop} {f : Int32} {K S M P T U Q : Nat → Int32} {k : Nat → Nat} {m : Nat → Bool} (hC : tp_Cr k m S P) {s a b : Nat} (hs : s < 12) (ha : a ≤ 2) (hb : b ≤ 2) (h : ∀ U', (∀ c, c < 289 → U' c = tp_b (decide (a ≤ tp_ps k m s c ∧ tp_ps k m s c ≤ b))) → post (f, K, S, M, P, T, U', Q)) : wpX_prepareWalk post (f, K, S, M, P, T, U, Q) (nI s) (nI a) (nI b) := by
  refine loop_0 (fun n c U => wX_prepareWalk_3 post (nI s) (nI a) (nI b) f n (nI c) K S M P T U Q) (fun c U => ∀ x, x < c → U x = tp_b (decide (a ≤ tp_ps k m s x ∧ tp_ps k m s x ≤ b))) 289 U (fun x hx => absurd hx (by omega)) ?_ ?_
  · intro n U' hU
    exact br_t (tp_rfl 289) (h U' hU)
  · intro n c U' hc hU ih
    refine br_f (nI_ge (b := 289) hc (by decide)) ?_
    have st : ∀ z, decide (a ≤ tp_ps k m s c ∧ tp_ps k m s c ≤ b) = z → ∀ x, x < c + 1 → upd U' c (tp_b z) x = tp_b (decide (a ≤ tp_ps k m s x ∧ tp_ps k m s x ≤ b)) := by
      intro z hz x hx
      by_cases e : x = c
      · subst e
        rw [pk_us, hz]
      · rw [pk_un e]
        exact hU x (by omega)
    have hl := tp_ps_2 k m s c
    have e1 : P (289 * s + c) = nI (tp_ps k m s c) := hC.2.2 s hs c hc
    have hin : vp_in (nI c) 289 := vp_in_nI hc (by decide)
    rw [tp_ix1, nI_clamp (by omega), nI_clamp (by omega), tp_nar0, tp_nar1]
    refine ⟨vp_in_nI (by omega) (by decide), nm_r e1 (pk_lt (tp_ps k m s c) a (fun e => ⟨hin, nm_e (nm_r (nI_1 c) (ih _ (st false (decide_eq_false (by omega)))))⟩) (fun e => pk_lt b (tp_ps k m s c) (fun e2 => ⟨hin, nm_e (nm_r (nI_1 c) (ih _ (st false (decide_eq_false (by omega)))))⟩) (fun e2 => ⟨hin, nm_e (nm_r (nI_1 c) (ih _ (st true (decide_eq_true ⟨e, e2⟩))))⟩)))⟩
/-- the component's walk: the arrays hold the unvisited set and the queue -/
def tp_AX (u : Nat → Bool) (q : Nat → Nat) (L : Nat) (U Q : Nat → Int32) : Prop := (∀ c, c < 289 → U c = tp_b (u c)) ∧ (∀ p, p < L → Q p = nI (q p))
theorem tp_AX_s {u : Nat → Bool} {q : Nat → Nat} {L : Nat} {U Q : Nat → Int32} (h : tp_AX u q L U Q) (b : Nat) : tp_AX (tp_u u b false) (tp_v q L b) (L + 1) (upd U b (tp_b false)) (upd Q L (nI b)) := by
  refine ⟨fun c hc => ?_, fun p hp => ?_⟩
  · by_cases e : c = b
    · subst e
      rw [pk_us, tp_u_s]
    · rw [pk_un e, tp_u_n e]
      exact h.1 c hc
  · by_cases e : p = L
    · subst e
      rw [pk_us, tp_v_s]
    · rw [pk_un e, tp_v_n e]
      exact h.2 p (by omega)
theorem tx_visit {post : SX → Prop} {K S M P T U Q : Nat → Int32} {u : Nat → Bool} {q : Nat → Nat} {L : Nat} (hA : tp_AX u q L U Q) (hL : L ≤ 289) {x y : Int32} (h0 : ¬ (0 ≤ x.toInt ∧ x.toInt ≤ 16 ∧ 0 ≤ y.toInt ∧ y.toInt ≤ 16) → post (nI L, K, S, M, P, T, U, Q))
    (h1 : ∀ i j : Nat, i ≤ 16 → j ≤ 16 → x.toInt = i → y.toInt = j → u (17 * i + j) = false → post (nI L, K, S, M, P, T, U, Q))
    (h2 : ∀ i j : Nat, i ≤ 16 → j ≤ 16 → x.toInt = i → y.toInt = j → u (17 * i + j) = true → L < 289 ∧ post (nI (L + 1), K, S, M, P, T, upd U (17 * i + j) (tp_b false), upd Q L (nI (17 * i + j)))) : wpX_visit post (nI L, K, S, M, P, T, U, Q) x y := by
  unfold wpX_visit
  dsimp only
  refine tx_grid ?_
  refine tp_br (fun g => h0 (tp_g_f.mp g)) (fun g => ?_)
  have g := tp_g_t.mp g
  obtain ⟨i, hi, rfl⟩ := tp_nat (n := 16) g.1 (by omega)
  obtain ⟨j, hj, rfl⟩ := tp_nat (n := 16) g.2.2.1 (by omega)
  have hin : vp_in (nI (17 * i + j)) 289 := vp_in_nI (by omega) (by decide)
  rw [tp_i17, nI_clamp (n := 17 * i + j) (by omega), hA.1 _ (by omega), tp_nar0, nI_clamp (n := L) (by omega)]
  refine ⟨hin, tp_br (fun e => h1 i j hi hj (tp_0i (by omega)) (tp_0i (by omega)) e) (fun e => ?_)⟩
  have hh := h2 i j hi hj (tp_0i (by omega)) (tp_0i (by omega)) e
  exact br_f (nI_ge (b := 289) hh.1 (by decide)) ⟨hin, nm_e ⟨vp_in_nI hh.1 (by decide), nm_e (nm_r (nI_1 L) hh.2)⟩⟩
/-- a visit of neighbour d -/
theorem tx_vs {post : SX → Prop} {K S M P T U Q : Nat → Int32} {H : Nat → Bool} {s n a d : Nat} {D D' : Nat → Prop} {u : Nat → Bool} {q : Nat → Nat} {L : Nat} (hS : tp_S H s n a D u q L) (hA : tp_AX u q L U Q) {x y : Int32} (hd : ∀ b, b < 289 → (tp_nd a d b ↔ ((b / 17 : Nat) : Int) = x.toInt ∧ ((b % 17 : Nat) : Int) = y.toInt)) (e : ∀ x, D' x → D x ∨ x = d)
    (h : ∀ u q L U Q, tp_S H s n a D' u q L → tp_AX u q L U Q → post (nI L, K, S, M, P, T, U, Q)) : wpX_visit post (nI L, K, S, M, P, T, U, Q) x y := by
  have hL := tp_Q_l hS.1
  refine tx_visit hA hL (fun g => ?_) (fun i j hi hj ex ey eu => ?_) (fun i j hi hj ex ey eu => ?_)
  · refine h _ _ _ _ _ (tp_S_n hS (fun b hb hn => absurd ?_ g) e) hA
    have := (hd b hb).mp hn
    omega
  · refine h _ _ _ _ _ (tp_S_n hS (fun b hb hn => ?_) e) hA
    have := (hd b hb).mp hn
    rw [show b = 17 * i + j from by omega]
    exact eu
  · have hn : tp_nd a d (17 * i + j) := (hd _ (by omega)).mpr ⟨by omega, by omega⟩
    exact ⟨tp_Q_lt hS.1 (by omega) eu, h _ _ _ _ _ (tp_S_y hS (by omega) hn eu e) (tp_AX_s hA _)⟩
theorem tx_walk19 {post : SX → Prop} {K S M P T U Q : Nat → Int32} {H : Nat → Bool} {s : Nat} {u : Nat → Bool} {q : Nat → Nat} {L : Nat} (hQ : tp_Q H s u q L) (hs : ∃ p, p < L ∧ q p = s) (hA : tp_AX u q L U Q)
    (h : ∀ u q L U Q, tp_Q H s u q L → tp_C u q L → (∃ p, p < L ∧ q p = s) → tp_AX u q L U Q → post (nI L, K, S, M, P, T, U, Q)) : ∃ n, wX_walkPiece_19 post n 0 (nI L) K S M P T U Q := by
  refine loop_0 (fun n i (z : Nat × (Nat → Int32) × (Nat → Int32)) => wX_walkPiece_19 post n (nI i) (nI z.1) K S M P T z.2.1 z.2.2) (fun i z => ∃ u q, tp_Q H s u q z.1 ∧ tp_C u q i ∧ i ≤ z.1 ∧ (∃ p, p < z.1 ∧ q p = s) ∧ tp_AX u q z.1 z.2.1 z.2.2) 289 (L, U, Q) ⟨u, q, hQ, tp_C_0 u q, by omega, hs, hA⟩ ?_ ?_
  · rintro n ⟨L, U, Q⟩ ⟨u, q, hQ, hc, hi, hs, hA⟩
    have hL := tp_Q_l hQ
    have e : L = 289 := by
      have : 289 ≤ L := hi
      have : L ≤ 289 := hL
      omega
    subst e
    exact br_t (tp_rfl 289) (h u q _ _ _ hQ hc hs hA)
  · rintro n i ⟨L, U, Q⟩ hi ⟨u, q, hQ, hc, hiL, hs, hA⟩ ih
    have hL : L ≤ 289 := tp_Q_l hQ
    have hiL : i ≤ L := hiL
    refine br_f (nI_ge (b := 289) hi (by decide)) ?_
    dsimp only
    by_cases e : L ≤ i
    · have e : L = i := by omega
      subst e
      exact br_t (tp_rfl L) (h u q _ _ _ hQ hc hs hA)
    · have hlt : i < L := by omega
      refine br_f (nI_ge hlt (by omega)) ?_
      have hin : vp_in (nI i) 289 := vp_in_nI hi (by decide)
      have ha := (hQ.1 i hlt).1
      have eq : Q (nI i).toNatClampNeg = nI (q i) := by
        rw [nI_clamp (by omega)]
        exact hA.2 i hlt
      refine ⟨hin, tp_17, nm_r (e' := nI (q i / 17)) (by rw [eq]; exact tp_d17 (by omega)) ⟨hin, tp_17, nm_r (e' := nI (q i % 17)) (by rw [eq]; exact tp_r17 (by omega)) ?_⟩⟩
      have hS := tp_S_0 hQ hc hlt hs
      generalize hqa : q i = a at hS ha ⊢
      have m1 := @tp_m1 (a / 17) (by omega)
      have m2 := @tp_m1 (a % 17) (by omega)
      have p1 := @tp_q1 (a / 17) (by omega)
      have p2 := @tp_q1 (a % 17) (by omega)
      have z1 := @tp_0i (a / 17) (by omega)
      have z2 := @tp_0i (a % 17) (by omega)
      refine tx_vs (d := 1) (D' := fun d => d = 1) hS hA (fun b hb => ?_) (fun x hx => Or.inr hx) (fun u q L U Q hS hA => ?_)
      · rw [m1, z2]
        unfold tp_nd
        omega
      dsimp only
      refine tx_vs (d := 0) (D' := fun d => d = 1 ∨ d = 0) hS hA (fun b hb => ?_) (fun x hx => hx) (fun u q L U Q hS hA => ?_)
      · rw [p1, z2]
        unfold tp_nd
        omega
      dsimp only
      refine tx_vs (d := 3) (D' := fun d => (d = 1 ∨ d = 0) ∨ d = 3) hS hA (fun b hb => ?_) (fun x hx => hx) (fun u q L U Q hS hA => ?_)
      · rw [m2, z1]
        unfold tp_nd
        omega
      dsimp only
      refine tx_vs (d := 2) (D' := fun d => ((d = 1 ∨ d = 0) ∨ d = 3) ∨ d = 2) hS hA (fun b hb => ?_) (fun x hx => hx) (fun u q L U Q hS hA => ?_)
      · rw [p2, z1]
        unfold tp_nd
        omega
      dsimp only
      refine nm_r (nI_1 i) (ih (L, U, Q) ⟨u, q, hS.1, tp_S_e hS (fun d hd => by omega), ?_, hS.2.2.2.2.1, hA⟩)
      have := hS.2.2.1
      show i + 1 ≤ L
      omega
/-- the walk from an unvisited element -/
theorem tx_walk {post : SX → Prop} {f : Int32} {K S M P T U Q : Nat → Int32} {H : Nat → Bool} {s : Nat} (hU : ∀ c, c < 289 → U c = tp_b (H c)) (hs : s < 289) (hH : H s = true)
    (h : ∀ u q L U Q, tp_Q H s u q L → tp_C u q L → (∃ p, p < L ∧ q p = s) → tp_AX u q L U Q → post (nI L, K, S, M, P, T, U, Q)) : wpX_walkPiece post (f, K, S, M, P, T, U, Q) (nI s) := by
  unfold wpX_walkPiece
  dsimp only
  rw [tp_r17 (by omega), tp_d17 (by omega)]
  refine ⟨tp_17, tp_17, ?_⟩
  have hA : tp_AX H (fun _ => 0) 0 U Q := ⟨hU, fun p hp => absurd hp (by omega)⟩
  have z1 := @tp_0i (s / 17) (by omega)
  have z2 := @tp_0i (s % 17) (by omega)
  have es : 17 * (s / 17) + s % 17 = s := by omega
  refine tx_visit (L := 0) hA (by omega) (fun g => absurd ?_ g) (fun i j hi hj ex ey eu => ?_) (fun i j hi hj ex ey eu => ⟨by omega, ?_⟩)
  · rw [z1, z2]
    omega
  · rw [z1] at ex
    rw [z2] at ey
    rw [show 17 * i + j = s from by omega, hH] at eu
    exact nomatch eu
  · rw [z1] at ex
    rw [z2] at ey
    rw [show 17 * i + j = s from by omega]
    exact tx_walk19 (tp_Q_1 (fun _ => 0) hs hH) (tp_Q_1s (fun _ => 0) s) (tp_AX_s hA s) h
theorem tx_brd {post : Int32 → Prop} {K S M P T U Q : Nat → Int32} {q : Nat → Nat} {L : Nat} (hL : L ≤ 289) (hQ : ∀ p, p < L → Q p = nI (q p)) (hq : ∀ p, p < L → q p < 289) (h1 : (∃ p, p < L ∧ tp_bd (q p) = true) → post 1) (h0 : (¬ ∃ p, p < L ∧ tp_bd (q p) = true) → post 0) : wpX_pieceReachesBorder post (nI L, K, S, M, P, T, U, Q) := by
  refine loop_0 (fun n i (_ : Unit) => wX_pieceReachesBorder_2 post (nI L) K S M P T U Q n (nI i)) (fun i _ => i ≤ L ∧ ∀ p, p < i → ¬ tp_bd (q p) = true) 289 () ⟨by omega, fun p hp => absurd hp (by omega)⟩ ?_ ?_
  · rintro n _ ⟨hi, hn⟩
    exact br_t (tp_rfl 289) (h0 (fun ⟨p, hp, e⟩ => hn p (by omega) e))
  · rintro n i _ hi ⟨hiL, hn⟩ ih
    refine br_f (nI_ge (b := 289) hi (by decide)) ?_
    by_cases e : L ≤ i
    · exact br_t (nI_le e (by omega)) (h0 (fun ⟨p, hp, e⟩ => hn p (by omega) e))
    · have hlt : i < L := by omega
      refine br_f (nI_ge hlt (by omega)) ?_
      have hin : vp_in (nI i) 289 := vp_in_nI hi (by decide)
      have ha := hq i hlt
      have eq : Q (nI i).toNatClampNeg = nI (q i) := by
        rw [nI_clamp (by omega)]
        exact hQ i hlt
      refine ⟨hin, tp_17, nm_r (e' := nI (q i / 17)) (by rw [eq]; exact tp_d17 (by omega)) ⟨hin, tp_17, nm_r (e' := nI (q i % 17)) (by rw [eq]; exact tp_r17 (by omega)) ?_⟩⟩
      have yes : (q i / 17 = 0 ∨ q i / 17 = 16 ∨ q i % 17 = 0 ∨ q i % 17 = 16) → post 1 := fun z => h1 ⟨i, hlt, decide_eq_true z⟩
      refine pk_eq (q i / 17) 0 (fun e1 => yes (Or.inl e1)) (fun e1 => pk_eq (q i / 17) 16 (fun e2 => yes (Or.inr (Or.inl e2))) (fun e2 => pk_eq (q i % 17) 0 (fun e3 => yes (Or.inr (Or.inr (Or.inl e3)))) (fun e3 => pk_eq (q i % 17) 16 (fun e4 => yes (Or.inr (Or.inr (Or.inr e4)))) (fun e4 => nm_r (nI_1 i) (ih () ⟨by omega, fun p hp z => ?_⟩)))))
      by_cases ep : p = i
      · subst ep
        have := of_decide_eq_true z
        omega
      · exact hn p (by omega) z
theorem tx_add {post : SX → Prop} {K S M P T U Q : Nat → Int32} {m : Nat → Bool} (hM : ∀ x, M x = tp_b (m x)) {s : Nat} (hs : s < 12) {q : Nat → Nat} {L : Nat} (hL : L ≤ 289) (hQ : ∀ p, p < L → Q p = nI (q p)) (hq : ∀ p, p < L → q p < 289) (h : ∀ (M' : Nat → Int32) (m' : Nat → Bool), (∀ x, M' x = tp_b (m' x)) → (∀ x, m' x = true ↔ m x = true ∨ ∃ p, p < L ∧ x = 289 * s + q p ∧ tp_dm (q p) = 2) → post (nI L, K, S, M', P, T, U, Q)) : wpX_addCellsOfPiece post (nI L, K, S, M, P, T, U, Q) (nI s) := by
  refine loop_0 (fun n i M => wX_addCellsOfPiece_2 post (nI s) (nI L) n (nI i) K S M P T U Q) (fun i M' => i ≤ L ∧ ∃ m', (∀ x, M' x = tp_b (m' x)) ∧ (∀ x, m' x = true ↔ m x = true ∨ ∃ p, p < i ∧ x = 289 * s + q p ∧ tp_dm (q p) = 2)) 289 M ⟨by omega, m, hM, fun x => ⟨Or.inl, fun z => z.elim id (fun ⟨p, hp, _⟩ => absurd hp (by omega))⟩⟩ ?_ ?_
  · rintro n M' ⟨hi, m', h1, h2⟩
    have e : L = 289 := by omega
    subst e
    exact br_t (tp_rfl 289) (h M' m' h1 h2)
  · rintro n i M' hi ⟨hiL, m', h1, h2⟩ ih
    refine br_f (nI_ge (b := 289) hi (by decide)) ?_
    by_cases e : L ≤ i
    · have e : L = i := by omega
      subst e
      exact br_t (tp_rfl L) (h M' m' h1 h2)
    · have hlt : i < L := by omega
      refine br_f (nI_ge hlt (by omega)) ?_
      have hin : vp_in (nI i) 289 := vp_in_nI hi (by decide)
      have ha := hq i hlt
      rw [nI_clamp (n := i) (by omega), hQ i hlt, tp_r17 (by omega), tp_d17 (by omega), tp_ix1, nI_clamp (by omega), tp_nar1]
      refine ⟨hin, tp_17, hin, tp_17, tx_dim (by omega) (by omega) ?_⟩
      refine pk_eq (q i / 17 % 2 + q i % 17 % 2) 2 (fun e2 => ⟨hin, vp_in_nI (by omega) (by decide), nm_e (nm_r (nI_1 i) (ih _ ⟨by omega, tp_u m' (289 * s + q i) true, tp_uM h1 _ _, fun x => ?_⟩))⟩) (fun e2 => nm_r (nI_1 i) (ih _ ⟨by omega, m', h1, fun x => ?_⟩))
      · by_cases ex : x = 289 * s + q i
        · rw [ex, tp_u_s]
          exact ⟨fun _ => Or.inr ⟨i, by omega, rfl, e2⟩, fun _ => rfl⟩
        · rw [tp_u_n ex, h2]
          constructor
          · rintro (z | ⟨p, hp, z⟩)
            · exact Or.inl z
            · exact Or.inr ⟨p, by omega, z⟩
          · rintro (z | ⟨p, hp, z⟩)
            · exact Or.inl z
            · refine Or.inr ⟨p, ?_, z⟩
              by_cases ep : p = i
              · subst ep
                exact absurd z.1 ex
              · omega
      · rw [h2]
        constructor
        · rintro (z | ⟨p, hp, z⟩)
          · exact Or.inl z
          · exact Or.inr ⟨p, by omega, z⟩
        · rintro (z | ⟨p, hp, z⟩)
          · exact Or.inl z
          · refine Or.inr ⟨p, ?_, z⟩
            by_cases ep : p = i
            · subst ep
              exact absurd z.2 e2
            · omega
