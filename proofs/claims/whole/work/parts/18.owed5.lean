section
variable {post : Int32 → SY → Prop} {K M H A B p q : Nat → Int32} {P Q : Nat → Nat} {k : Nat → Nat}
theorem ty_so82 (hK : ∀ x, K x = nI (k x)) (hA : ∀ c, c < 289 → A c = nI (P c)) (hB : ∀ c, c < 289 → B c = nI (Q c)) (hP : ∀ c, P c ≤ 2) (hQ : ∀ c, Q c ≤ 2) {s t w : Nat} (hs : s < 12) (ht : t < 12) (hw : w < 7) (h3 : k s ≤ 3) (h3t : k t ≤ 3) (he : tp_me P Q 0 ≤ tp_mx (k s) (k t)) (h : post (tp_b (tp_so (k s) (k t) P Q w)) (K, M, H, A, B, p, q)) :
    wY_isSo_82 post (nI s) (nI t) (nI w) (nI (tp_me P Q 0)) (nI (tp_mx (k s) (k t))) (tp_b (decide (¬ tp_me P Q 2 = 0))) (tp_b (decide (tp_me P Q 2 = 0 ∧ tp_me P Q 5 = 0))) (tp_b (decide (tp_me P Q 6 = 0 ∧ tp_me P Q 7 = 0))) K M H A B p q := by
  have m0 := tp_me_3 P Q 0
  have m6 := tp_me_3 P Q 6
  have hx : tp_mx (k s) (k t) ≤ 3 := tp_mx_l h3 h3t
  unfold wY_isSo_82
  have hw' : w = 0 ∨ w = 1 ∨ w = 2 ∨ w = 3 ∨ w = 4 ∨ w = 5 ∨ w = 6 := by omega
  rcases hw' with rfl | rfl | rfl | rfl | rfl | rfl | rfl
  · refine br_f (by decide) (br_f (by decide) (br_t rfl ?_))
    exact tp_br (fun e => tq_0 h (decide_eq_false (fun z => of_decide_eq_false e z.1))) (fun e => tp_br (fun e2 => tq_0 h (decide_eq_false (fun z => of_decide_eq_false e2 z.2))) (fun e2 => tq_1 h (decide_eq_true ⟨of_decide_eq_true e, of_decide_eq_true e2⟩)))
  · refine br_f (by decide) (br_f (by decide) (br_f (by decide) (br_t rfl ?_)))
    refine ty_bdm hA hB hP hQ ?_
    exact tp_br (fun e => tq_1 h (decide_eq_true (Decidable.not_not.mp (of_decide_eq_false e)))) (fun e => tq_0 h (decide_eq_false (of_decide_eq_true e)))
  · refine br_f (by decide) (br_f (by decide) (br_f (by decide) (br_f (by decide) (br_t rfl ?_))))
    refine ty_bdm hA hB hP hQ ?_
    exact tp_br (fun e => tq_0 h (decide_eq_false (fun z => of_decide_eq_false e z.1))) (fun e => pk_eq (tp_me P Q 0) 0 (fun e2 => tq_1 h (decide_eq_true ⟨of_decide_eq_true e, e2⟩)) (fun e2 => tq_0 h (decide_eq_false (fun z => e2 z.2))))
  · refine br_f (by decide) (br_f (by decide) (br_f (by decide) (br_f (by decide) (br_f (by decide) (br_t rfl ?_)))))
    exact pk_le (tp_me P Q 0) 0 (fun e => tq_0 h (decide_eq_false (fun z => z.1 (by omega)))) (fun e => tp_br (fun e2 => tq_0 h (decide_eq_false (fun z => of_decide_eq_false e2 z.2))) (fun e2 => tq_1 h (decide_eq_true ⟨by omega, of_decide_eq_true e2⟩)))
  · refine br_f (by decide) (br_f (by decide) (br_f (by decide) (br_f (by decide) (br_f (by decide) (br_f (by decide) (br_t rfl ?_))))))
    exact ⟨tp_nab _, h⟩
  · refine br_f (by decide) (br_f (by decide) (br_f (by decide) (br_f (by decide) (br_f (by decide) (br_f (by decide) (br_f (by decide) (br_t rfl ?_)))))))
    exact pk_le (tp_me P Q 0) 0 (fun e => tq_0 h (decide_eq_false (fun z => z.1 (by omega)))) (fun e => pk_le (tp_mx (k s) (k t)) (tp_me P Q 0) (fun e1 => tq_0 h (decide_eq_false (fun z => z.2.2 (by omega)))) (fun e1 => tp_br (fun e2 => tq_0 h (decide_eq_false (fun z => of_decide_eq_false e2 z.2.1))) (fun e2 => tq_1 h (decide_eq_true ⟨by omega, of_decide_eq_true e2, by omega⟩))))
  · refine br_f (by decide) (br_t (by decide) ⟨tp_in12 hs, tp_in12 ht, ?_⟩)
    rw [nI_clamp (by omega), nI_clamp (by omega), hK s, hK t]
    refine pk_eq (k s) (k t) (fun e => pk_eq (tp_me P Q 0) (tp_mx (k s) (k t)) (fun e1 => tp_br (fun e2 => tq_0 h (decide_eq_false (fun z => of_decide_eq_false e2 z.2.2.1))) (fun e2 => ?_)) (fun e1 => tq_0 h (decide_eq_false (fun z => e1 ?_)))) (fun e => tq_0 h (decide_eq_false (fun z => e z.1)))
    · refine ty_meet (x := 2) (y := 0) hA hB hP hQ (by omega) (by omega) ?_
      refine pk_le (tp_me P Q 6) 0 (fun e3 => tq_0 h (decide_eq_false (fun z => z.2.2.2 (by omega)))) (fun e3 => tq_1 h (decide_eq_true ⟨e, ?_, of_decide_eq_true e2, by omega⟩))
      rw [e1, ← e]
      unfold tp_mx
      split <;> rfl
    · rw [z.2.1, ← e]
      unfold tp_mx
      split <;> rfl
theorem ty_so67 (hK : ∀ x, K x = nI (k x)) (hA : ∀ c, c < 289 → A c = nI (P c)) (hB : ∀ c, c < 289 → B c = nI (Q c)) (hP : ∀ c, P c ≤ 2) (hQ : ∀ c, Q c ≤ 2) {s t w : Nat} (hs : s < 12) (ht : t < 12) (hw : w < 7) (h3 : k s ≤ 3) (h3t : k t ≤ 3) (he : tp_me P Q 0 ≤ tp_mx (k s) (k t)) (h : post (tp_b (tp_so (k s) (k t) P Q w)) (K, M, H, A, B, p, q)) :
    wY_isSo_67 post (nI s) (nI t) (nI w) (nI (tp_me P Q 0)) (nI (tp_mx (k s) (k t))) (tp_b (decide (¬ tp_me P Q 2 = 0))) (tp_b (decide (tp_me P Q 2 = 0 ∧ tp_me P Q 5 = 0))) K M H A B p q := by
  have key := ty_so82 (M := M) (H := H) (p := p) (q := q) hK hA hB hP hQ hs ht hw h3 h3t he h
  unfold wY_isSo_67
  refine ty_bmo0 hA hB hP hQ ?_
  by_cases e : tp_me P Q 6 = 0 ∧ tp_me P Q 7 = 0
  · rw [decide_eq_true e] at key
    rw [decide_eq_false (fun z => z e)]
    exact br_t rfl key
  · rw [decide_eq_false e] at key
    rw [decide_eq_true e]
    exact br_f (by decide) key
theorem ty_so52 (hK : ∀ x, K x = nI (k x)) (hA : ∀ c, c < 289 → A c = nI (P c)) (hB : ∀ c, c < 289 → B c = nI (Q c)) (hP : ∀ c, P c ≤ 2) (hQ : ∀ c, Q c ≤ 2) {s t w : Nat} (hs : s < 12) (ht : t < 12) (hw : w < 7) (h3 : k s ≤ 3) (h3t : k t ≤ 3) (he : tp_me P Q 0 ≤ tp_mx (k s) (k t)) (h : post (tp_b (tp_so (k s) (k t) P Q w)) (K, M, H, A, B, p, q)) :
    wY_isSo_52 post (nI s) (nI t) (nI w) (nI (tp_me P Q 0)) (nI (tp_mx (k s) (k t))) (tp_b (decide (¬ tp_me P Q 2 = 0))) K M H A B p q := by
  have key := ty_so67 (M := M) (H := H) (p := p) (q := q) hK hA hB hP hQ hs ht hw h3 h3t he h
  unfold wY_isSo_52
  refine ty_bmo1 hA hB hP hQ ?_
  by_cases e : tp_me P Q 2 = 0 ∧ tp_me P Q 5 = 0
  · rw [decide_eq_true e] at key
    rw [decide_eq_false (p := ¬ (tp_me P Q 2 = 0 ∧ tp_me P Q 5 = 0)) (fun z => z e)]
    exact br_t rfl key
  · rw [decide_eq_false e] at key
    rw [decide_eq_true (p := ¬ (tp_me P Q 2 = 0 ∧ tp_me P Q 5 = 0)) e]
    exact br_f (by decide) key
end
theorem ty_so {post : Int32 → SY → Prop} {K M H A B p q : Nat → Int32} {k : Nat → Nat} {m : Nat → Bool} (hK : ∀ x, K x = nI (k x)) (hM : ∀ x, M x = tp_b (m x)) {s t w : Nat} (hs : s < 12) (ht : t < 12) (hw : w < 7) (O1 : tp_Ok (k s) (tp_sl m s)) (O2 : tp_Ok (k t) (tp_sl m t)) (h : ∀ A' B', post (tp_b (tp_so (k s) (k t) (tp_ps k m s) (tp_ps k m t) w)) (K, M, H, A', B', p, q)) : wpY_isSo post (K, M, H, A, B, p, q) (nI s) (nI t) (nI w) := by
  unfold wpY_isSo
  dsimp only
  refine ty_parts1 hK hM hs O1.1 (fun A' hA => ?_)
  dsimp only
  refine ty_parts0 hK hM ht O2.1 (fun B' hB => ?_)
  dsimp only
  have hA' : ∀ c, c < 289 → A' c = nI (tp_ps k m s c) := hA
  have hB' : ∀ c, c < 289 → B' c = nI (tp_ps k m t c) := hB
  have h1 := tp_ps_2 k m s
  have h2 := tp_ps_2 k m t
  have m2 := tp_me_3 (tp_ps k m s) (tp_ps k m t) 2
  have b1 := O1.1
  have b2 := O2.1
  refine ty_meet (x := 0) (y := 0) hA' hB' h1 h2 (by omega) (by omega) ?_
  refine ⟨tp_in12 hs, tp_in12 ht, ?_⟩
  rw [nI_clamp (by omega), nI_clamp (by omega), hK s, hK t]
  refine ty_most (by omega) (by omega) ?_
  refine ty_meet (x := 0) (y := 2) hA' hB' h1 h2 (by omega) (by omega) ?_
  have key := ty_so52 (post := post) (M := M) (H := H) (p := p) (q := q) hK hA' hB' h1 h2 hs ht hw b1 b2 (tp_me_k O1 O2) (h A' B')
  refine pk_le (tp_me (tp_ps k m s) (tp_ps k m t) 2) 0 (fun e => ?_) (fun e => ?_)
  · rw [decide_eq_false (p := ¬ tp_me (tp_ps k m s) (tp_ps k m t) 2 = 0) (fun z => z (by omega))] at key
    exact key
  · rw [decide_eq_true (p := ¬ tp_me (tp_ps k m s) (tp_ps k m t) 2 = 0) (by omega)] at key
    exact key
section
variable {f : Int32} {K S M PL T U Q0 : Nat → Int32} {P Q : Nat → Nat} {k : Nat → Nat}
theorem tx_flo {post : Int32 → Prop} (hT : ∀ p, p < 9 → T p = nI (tp_me P Q p)) (h : post (tp_b (decide (¬ (tp_me P Q 2 = 0 ∧ tp_me P Q 5 = 0))))) : wpX_firstLeavesOther post (f, K, S, M, PL, T, U, Q0) := by
  unfold wpX_firstLeavesOther
  dsimp only
  have a := tp_me_3 P Q 2
  have b := tp_me_3 P Q 5
  rw [hT 2 (by omega), hT 5 (by omega)]
  exact pk_eq (tp_me P Q 2) 0 (fun e => pk_eq (tp_me P Q 5) 0 (fun e2 => tp_p0 h (decide_eq_false (fun z => z ⟨e, e2⟩))) (fun e2 => tp_p1 h (decide_eq_true (fun z => e2 z.2)))) (fun e => tp_p1 h (decide_eq_true (fun z => e z.1)))
theorem tx_olf {post : Int32 → Prop} (hT : ∀ p, p < 9 → T p = nI (tp_me P Q p)) (h : post (tp_b (decide (¬ (tp_me P Q 6 = 0 ∧ tp_me P Q 7 = 0))))) : wpX_otherLeavesFirst post (f, K, S, M, PL, T, U, Q0) := by
  unfold wpX_otherLeavesFirst
  dsimp only
  have a := tp_me_3 P Q 6
  have b := tp_me_3 P Q 7
  rw [hT 6 (by omega), hT 7 (by omega)]
  exact pk_eq (tp_me P Q 6) 0 (fun e => pk_eq (tp_me P Q 7) 0 (fun e2 => tp_p0 h (decide_eq_false (fun z => z ⟨e, e2⟩))) (fun e2 => tp_p1 h (decide_eq_true (fun z => e2 z.2)))) (fun e => tp_p1 h (decide_eq_true (fun z => e z.1)))
theorem tx_bdm {post : Int32 → Prop} (hT : ∀ p, p < 9 → T p = nI (tp_me P Q p)) (h : post (tp_b (decide (¬ (tp_me P Q 0 = 0 ∧ tp_me P Q 1 = 0 ∧ tp_me P Q 3 = 0 ∧ tp_me P Q 4 = 0))))) : wpX_bodiesMeet post (f, K, S, M, PL, T, U, Q0) := by
  unfold wpX_bodiesMeet
  dsimp only
  have a := tp_me_3 P Q 0
  have b := tp_me_3 P Q 1
  have c := tp_me_3 P Q 3
  have d := tp_me_3 P Q 4
  rw [hT 0 (by omega), hT 1 (by omega), hT 3 (by omega), hT 4 (by omega)]
  exact pk_eq (tp_me P Q 0) 0 (fun e => pk_eq (tp_me P Q 1) 0 (fun e2 => pk_eq (tp_me P Q 3) 0 (fun e3 => pk_eq (tp_me P Q 4) 0 (fun e4 => tp_p0 h (decide_eq_false (fun z => z ⟨e, e2, e3, e4⟩))) (fun e4 => tp_p1 h (decide_eq_true (fun z => e4 z.2.2.2)))) (fun e3 => tp_p1 h (decide_eq_true (fun z => e3 z.2.2.1)))) (fun e2 => tp_p1 h (decide_eq_true (fun z => e2 z.2.1)))) (fun e => tp_p1 h (decide_eq_true (fun z => e z.1)))
theorem tx_so20 {post : Int32 → SX → Prop} (hK : ∀ x, K x = nI (k x)) (hT : ∀ p, p < 9 → T p = nI (tp_me P Q p)) {s t w : Nat} (hs : s < 12) (ht : t < 12) (hw : w < 7) (h3 : k s ≤ 3) (h3t : k t ≤ 3) (h : post (tp_b (tp_so (k s) (k t) P Q w)) (f, K, S, M, PL, T, U, Q0)) :
    wX_areSo_20 post (nI s) (nI t) (nI w) (tp_b (decide (¬ tp_me P Q 0 = 0))) f K S M PL T U Q0 := by
  have m0 := tp_me_3 P Q 0
  have m2 := tp_me_3 P Q 2
  have m6 := tp_me_3 P Q 6
  have hx : tp_mx (k s) (k t) ≤ 3 := tp_mx_l h3 h3t
  unfold wX_areSo_20
  have hw' : w = 0 ∨ w = 1 ∨ w = 2 ∨ w = 3 ∨ w = 4 ∨ w = 5 ∨ w = 6 := by omega
  rcases hw' with rfl | rfl | rfl | rfl | rfl | rfl | rfl
  · refine br_f (by decide) (br_f (by decide) (br_t rfl ?_))
    refine tx_flo hT ?_
    refine tp_br (fun e => ?_) (fun e => tq_0 h (decide_eq_false (fun z => of_decide_eq_true e z.1)))
    refine tx_olf hT ?_
    exact tp_br (fun e2 => tq_1 h (decide_eq_true ⟨Decidable.not_not.mp (of_decide_eq_false e), Decidable.not_not.mp (of_decide_eq_false e2)⟩)) (fun e2 => tq_0 h (decide_eq_false (fun z => of_decide_eq_true e2 z.2)))
  · refine br_f (by decide) (br_f (by decide) (br_f (by decide) (br_t rfl ?_)))
    refine tx_bdm hT ?_
    exact tp_br (fun e => tq_1 h (decide_eq_true (Decidable.not_not.mp (of_decide_eq_false e)))) (fun e => tq_0 h (decide_eq_false (of_decide_eq_true e)))
  · refine br_f (by decide) (br_f (by decide) (br_f (by decide) (br_f (by decide) (br_t rfl ?_))))
    refine tx_bdm hT ?_
    exact tp_br (fun e => tq_0 h (decide_eq_false (fun z => of_decide_eq_false e z.1))) (fun e => tp_br (fun e2 => tq_1 h (decide_eq_true ⟨of_decide_eq_true e, Decidable.not_not.mp (of_decide_eq_false e2)⟩)) (fun e2 => tq_0 h (decide_eq_false (fun z => of_decide_eq_true e2 z.2))))
  · refine br_f (by decide) (br_f (by decide) (br_f (by decide) (br_f (by decide) (br_f (by decide) (br_t rfl ?_)))))
    refine tp_br (fun e => tq_0 h (decide_eq_false (fun z => of_decide_eq_false e z.1))) (fun e => ?_)
    refine tx_flo hT ?_
    exact tp_br (fun e2 => tq_1 h (decide_eq_true ⟨of_decide_eq_true e, Decidable.not_not.mp (of_decide_eq_false e2)⟩)) (fun e2 => tq_0 h (decide_eq_false (fun z => of_decide_eq_true e2 z.2)))
  · refine br_f (by decide) (br_f (by decide) (br_f (by decide) (br_f (by decide) (br_f (by decide) (br_f (by decide) (br_t rfl ?_))))))
    refine tx_olf hT ?_
    exact tp_br (fun e2 => tq_1 h (decide_eq_true (Decidable.not_not.mp (of_decide_eq_false e2)))) (fun e2 => tq_0 h (decide_eq_false (of_decide_eq_true e2)))
  · refine br_f (by decide) (br_f (by decide) (br_f (by decide) (br_f (by decide) (br_f (by decide) (br_f (by decide) (br_f (by decide) (br_t rfl ?_)))))))
    rw [hT 0 (by omega), hT 2 (by omega), nI_clamp (by omega), nI_clamp (by omega), hK s, hK t]
    refine tp_br (fun e => tq_0 h (decide_eq_false (fun z => of_decide_eq_false e z.1))) (fun e => pk_eq (tp_me P Q 2) 0 (fun e2 => tq_0 h (decide_eq_false (fun z => z.2.1 e2))) (fun e2 => ⟨tp_in12 hs, tp_in12 ht, ?_⟩))
    refine tx_great (by omega) (by omega) ?_
    exact pk_eq (tp_me P Q 0) (tp_mx (k s) (k t)) (fun e3 => tq_0 h (decide_eq_false (fun z => z.2.2 e3))) (fun e3 => tq_1 h (decide_eq_true ⟨of_decide_eq_true e, e2, e3⟩))
  · refine br_f (by decide) (br_t (by decide) ⟨tp_in12 hs, tp_in12 ht, ?_⟩)
    rw [hT 0 (by omega), hT 2 (by omega), hT 6 (by omega), nI_clamp (by omega), nI_clamp (by omega), hK s, hK t]
    exact pk_eq (k s) (k t) (fun e => ⟨tp_in12 hs, pk_eq (tp_me P Q 0) (k s) (fun e1 => pk_eq (tp_me P Q 2) 0 (fun e2 => tq_0 h (decide_eq_false (fun z => z.2.2.1 e2))) (fun e2 => pk_eq (tp_me P Q 6) 0 (fun e3 => tq_0 h (decide_eq_false (fun z => z.2.2.2 e3))) (fun e3 => tq_1 h (decide_eq_true ⟨e, e1, e2, e3⟩)))) (fun e1 => tq_0 h (decide_eq_false (fun z => e1 z.2.1)))⟩) (fun e => tq_0 h (decide_eq_false (fun z => e z.1)))
end
theorem tx_so {post : Int32 → SX → Prop} {f : Int32} {K S M P T U Q : Nat → Int32} {k : Nat → Nat} {m : Nat → Bool} (hK : ∀ x, K x = nI (k x)) (hC : tp_Cr k m S P) {s t w : Nat} (hs : s < 12) (ht : t < 12) (hw : w < 7) (h : ∀ T', post (tp_b (tp_so (k s) (k t) (tp_ps k m s) (tp_ps k m t) w)) (f, K, S, M, P, T', U, Q)) : wpX_areSo post (f, K, S, M, P, T, U, Q) (nI s) (nI t) (nI w) := by
  unfold wpX_areSo
  dsimp only
  refine tx_meet hC hs ht (fun T' hT => ?_)
  dsimp only
  have key := tx_so20 (post := post) (f := f) (S := S) (M := M) (PL := P) (U := U) (Q0 := Q) hK hT hs ht hw (hC.1 s hs).1 (hC.1 t ht).1 (h T')
  have m0 := tp_me_3 (tp_ps k m s) (tp_ps k m t) 0
  rw [hT 0 (by omega)]
  refine pk_eq (tp_me (tp_ps k m s) (tp_ps k m t) 0) 0 (fun e => ?_) (fun e => ?_)
  · rw [decide_eq_false (p := ¬ tp_me (tp_ps k m s) (tp_ps k m t) 0 = 0) (fun z => z e)] at key
    exact key
  · rw [decide_eq_true (p := ¬ tp_me (tp_ps k m s) (tp_ps k m t) 0 = 0) e] at key
    exact key
theorem tp_name (x : Int32) (hx : x < 0 ∨ nI 7 ≤ x) {A B C : Prop} (a : A) (c : C) : (x < 0 → A) ∧ (¬ x < 0 → ((x ≤ 6 → B) ∧ (¬ x ≤ 6 → C))) := by
  by_cases h : x < 0
  · exact br_t h a
  · refine br_f h (br_f (fun z => ?_) c)
    have z1 := (tp_leR (x := x) (n := 6) (by decide)).mp z
    have z2 := (tp_leL (x := x) (n := 7) (by decide)).mp (hx.resolve_left h)
    omega
theorem ty_is_y {post : Int32 → SY → Prop} {K M H A B p q : Nat → Int32} {k : Nat → Nat} {m : Nat → Bool} (hK : ∀ x, K x = nI (k x)) (hM : ∀ x, M x = tp_b (m x)) {s t w : Nat} (hs : s < 12) (ht : t < 12) (hw : w < 7) (O1 : tp_Ok (k s) (tp_sl m s)) (O2 : tp_Ok (k t) (tp_sl m t)) (h01 : k s ≠ 0) (h02 : k t ≠ 0) (h : ∀ A' B', post (tp_b (tp_so (k s) (k t) (tp_ps k m s) (tp_ps k m t) w)) (K, M, H, A', B', p, q)) : wpY_is post (K, M, H, A, B, p, q) (nI s) (nI t) (nI w) := by
  unfold wpY_is
  dsimp only
  refine ty_bp_0 hK hs ht O1.1 O2.1 h01 h02 (br_t (by decide) (br_f (nI_pos (by omega)) (br_t (nI_le (b := 6) (by omega) (by decide)) ?_)))
  refine ty_so hK hM hs ht hw O1 O2 (fun A' B' => ?_)
  exact tp_br (fun e => tq_0 (h A' B') e) (fun e => tq_1 (h A' B') e)
theorem i_vc_is {k : Nat} {u : SX} {v : SY} (I : i_Rel k u v) (hk : k + 4 ≤ 2048) (v1 : Int32) (v2 : Int32) (v3 : Int32) : wpX_is (fun r u' => wpY_is (fun r' v' => r' = r ∧ i_Rel (k + 4) u' v') v v1 v2 v3) u v1 v2 v3 := by
  have R : i_Rel (k + 4) u v := I
  obtain ⟨kk, mm, hX, hY⟩ := I
  obtain ⟨f, K, S, M, P, T, U, Q⟩ := u
  obtain ⟨K2, M2, H, A, B, p, q⟩ := v
  obtain ⟨hK, hM, hC⟩ := hX
  obtain ⟨hK2, hM2⟩ := hY
  unfold wpX_is
  dsimp only
  rcases tp_rg2 v1 v2 12 (by decide) with ⟨s, t, hs, ht, rfl, rfl⟩ | hx
  · have h3 := (hC.1 s hs).1
    have h3t := (hC.1 t ht).1
    by_cases h0 : kk s = 0 ∨ kk t = 0
    · refine tx_rss_2 hK hs ht h3 h0 (br_f (by decide) ?_)
      unfold wpY_is
      dsimp only
      exact ty_bp_2 hK2 hs ht h3 h0 (br_f (by decide) ⟨rfl, R⟩)
    · have h01 : kk s ≠ 0 := fun z => h0 (Or.inl z)
      have h02 : kk t ≠ 0 := fun z => h0 (Or.inr z)
      refine tx_rss_0 hK hs ht h3 h3t h01 h02 (br_t rfl ?_)
      rcases tp_rg v3 7 (by decide) with ⟨w, hw, rfl⟩ | hx
      · refine tx_name_y hw (br_f (by decide) ?_)
        refine tx_so hK hC hs ht hw (fun T' => ?_)
        dsimp only
        refine tp_br (fun e => ?_) (fun e => ?_)
        · refine ty_is_y hK2 hM2 hs ht hw (hC.1 s hs) (hC.1 t ht) h01 h02 (fun A' B' => ⟨?_, kk, mm, ⟨hK, hM, hC⟩, hK2, hM2⟩)
          rw [e]
          rfl
        · refine ty_is_y hK2 hM2 hs ht hw (hC.1 s hs) (hC.1 t ht) h01 h02 (fun A' B' => ⟨?_, kk, mm, ⟨hK, hM, hC⟩, hK2, hM2⟩)
          rw [e]
          rfl
      · refine tx_name_n hx (br_t rfl ?_)
        unfold wpY_is
        dsimp only
        exact ty_bp_0 hK2 hs ht h3 h3t h01 h02 (br_t (by decide) (tp_name v3 hx ⟨rfl, R⟩ ⟨rfl, R⟩))
  · refine tx_rss_1 hx (br_f (by decide) ?_)
    unfold wpY_is
    dsimp only
    exact ty_bp_1 hx (br_f (by decide) ⟨rfl, R⟩)
theorem i_vc_relate {k : Nat} {u : SX} {v : SY} (I : i_Rel k u v) (hk : k + 4 ≤ 2048) (v1 : Int32) (v2 : Int32) : wpX_relate (fun r u' => wpY_relate (fun r' v' => r' = r ∧ i_Rel (k + 4) u' v') v v1 v2) u v1 v2 := by
  have R : i_Rel (k + 4) u v := I
  obtain ⟨kk, mm, hX, hY⟩ := I
  obtain ⟨f, K, S, M, P, T, U, Q⟩ := u
  obtain ⟨K2, M2, H, A, B, p, q⟩ := v
  obtain ⟨hK, hM, hC⟩ := hX
  obtain ⟨hK2, hM2⟩ := hY
  unfold wpX_relate wpY_relate
  dsimp only
  rcases tp_rg2 v1 v2 12 (by decide) with ⟨s, t, hs, ht, rfl, rfl⟩ | hx
  · have h3 := (hC.1 s hs).1
    have h3t := (hC.1 t ht).1
    by_cases h0 : kk s = 0 ∨ kk t = 0
    · exact tx_rss_2 hK hs ht h3 h0 (br_f (by decide) (ty_bp_2 hK2 hs ht h3 h0 (br_f (by decide) ⟨rfl, R⟩)))
    · have h01 : kk s ≠ 0 := fun z => h0 (Or.inl z)
      have h02 : kk t ≠ 0 := fun z => h0 (Or.inr z)
      refine tx_rss_0 hK hs ht h3 h3t h01 h02 (br_t rfl ?_)
      refine tx_meet hC hs ht (fun T' hT => ?_)
      dsimp only
      refine loop_0 (fun n c (x : Nat) => wX_relate_25 _ f K S M P T' U Q n (nI x) (nI c)) (fun c x => x = tp_dg (tp_me (tp_ps kk mm s) (tp_ps kk mm t)) c) 9 0 rfl ?_ ?_
      · intro n x hx
        refine br_t (tp_rfl 9) ?_
        refine ty_bp_0 hK2 hs ht h3 h3t h01 h02 (br_t (by decide) ?_)
        refine ty_parts1 hK2 hM2 hs h3 (fun A' hA => ?_)
        dsimp only
        refine ty_parts0 hK2 hM2 ht h3t (fun B' hB => ?_)
        dsimp only
        refine loop_0 (fun n c (x : Nat) => wY_relate_31 _ K2 M2 H A' B' p q n (nI x) (nI c)) (fun c x => x = tp_dg (tp_me (tp_ps kk mm s) (tp_ps kk mm t)) c) 9 0 rfl ?_ ?_
        · intro n y hy
          refine br_t (tp_rfl 9) ⟨?_, kk, mm, ⟨hK, hM, hC⟩, hK2, hM2⟩
          rw [hx, hy]
        · intro n c y hc hy ih
          refine br_f (nI_ge (b := 9) hc (by decide)) ⟨tp_3, tp_3, ?_⟩
          rw [tp_r3 (by omega), tp_d3 (by omega)]
          refine ty_meet (P := tp_ps kk mm s) (Q := tp_ps kk mm t) hA hB (tp_ps_2 kk mm s) (tp_ps_2 kk mm t) (by omega) (by omega) ?_
          rw [show 3 * (c / 3) + c % 3 = c from by omega]
          refine nm_r (e' := nI (tp_dg (tp_me (tp_ps kk mm s) (tp_ps kk mm t)) (c + 1))) ?_ (nm_r (nI_1 c) (ih _ rfl))
          rw [show (4 : Int32) = nI 4 from rfl, pk_mul, nI_add, hy, tp_dg, Nat.mul_comm]
      · intro n c x hc hx ih
        refine br_f (nI_ge (b := 9) hc (by decide)) ⟨vp_in_nI hc (by decide), ?_⟩
        refine nm_r (e' := nI (tp_dg (tp_me (tp_ps kk mm s) (tp_ps kk mm t)) (c + 1))) ?_ (nm_r (nI_1 c) (ih _ rfl))
        rw [nI_clamp (by omega), hT c hc, show (4 : Int32) = nI 4 from rfl, pk_mul, nI_add, hx, tp_dg]
  · exact tx_rss_1 hx (br_f (by decide) (ty_bp_1 hx (br_f (by decide) ⟨rfl, R⟩)))
