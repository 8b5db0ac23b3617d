theorem tp_fl_t {g : Nat → Bool} {l : Nat → Nat} {n c : Nat} : tp_fl g l n c = true ↔ g c = true ∨ (tp_dm c = 2 ∧ 1 ≤ l c ∧ l c ≤ n ∧ tp_hl l (l c) 289 = true) := by
  unfold tp_fl
  simp only [Bool.or_eq_true, Bool.and_eq_true, decide_eq_true_eq, and_assoc]
theorem tp_lb_q {h : Nat → Bool} {e c : Nat} (ht : tp_op h e e = true) : (tp_lb h (e + 1)).1 c = (tp_lb h e).2 + 1 ↔ tp_rc (tp_op h e) e c := by
  by_cases hr : tp_rc (tp_op h e) e c
  · exact ⟨fun _ => hr, fun _ => tp_lb_y ht hr⟩
  · rw [tp_lb_o ht hr]
    have := tp_lb_le h e c
    exact ⟨fun z => absurd z (by omega), fun z => absurd z hr⟩
theorem tp_hl_k {h : Nat → Bool} {e k : Nat} (he : e < 289) (h1 : 1 ≤ k) (hk : k ≤ (tp_lb h e).2) : tp_hl (tp_lb h (e + 1)).1 k 289 = tp_hl (tp_lb h e).1 k 289 := tp_hl_c 289 (fun c _ => tp_lb_k he h1 hk)
theorem tp_fl_y {g h : Nat → Bool} {e c : Nat} (he : e < 289) (ht : tp_op h e e = true) (hh : tp_hl (tp_lb h (e + 1)).1 ((tp_lb h e).2 + 1) 289 = true) : tp_fl g (tp_lb h (e + 1)).1 ((tp_lb h e).2 + 1) c = true ↔ tp_fl g (tp_lb h e).1 (tp_lb h e).2 c = true ∨ (tp_rc (tp_op h e) e c ∧ tp_dm c = 2) := by
  rw [tp_fl_t, tp_fl_t]
  by_cases hr : tp_rc (tp_op h e) e c
  · have h0 := (tp_op_t.mp (tp_rc_h ht he hr).1).2
    rw [tp_lb_y ht hr, h0]
    refine ⟨?_, ?_⟩
    · rintro (z | z)
      · exact Or.inl (Or.inl z)
      · exact Or.inr ⟨hr, z.1⟩
    · rintro ((z | z) | z)
      · exact Or.inl z
      · exact absurd z.2.1 (by omega)
      · exact Or.inr ⟨z.2, by omega, by omega, hh⟩
  · rw [tp_lb_o ht hr]
    have hl := tp_lb_le h e c
    refine ⟨?_, ?_⟩
    · rintro (z | ⟨z1, z2, z3, z4⟩)
      · exact Or.inl (Or.inl z)
      · rw [tp_hl_k he z2 hl] at z4
        exact Or.inl (Or.inr ⟨z1, z2, hl, z4⟩)
    · rintro ((z | ⟨z1, z2, z3, z4⟩) | z)
      · exact Or.inl z
      · rw [← tp_hl_k he z2 hl] at z4
        exact Or.inr ⟨z1, z2, by omega, z4⟩
      · exact absurd z.1 hr
theorem tp_fl_x {g h : Nat → Bool} {e c : Nat} (he : e < 289) (ht : tp_op h e e = true) (hh : tp_hl (tp_lb h (e + 1)).1 ((tp_lb h e).2 + 1) 289 = false) : tp_fl g (tp_lb h (e + 1)).1 ((tp_lb h e).2 + 1) c = tp_fl g (tp_lb h e).1 (tp_lb h e).2 c := by
  rw [Bool.eq_iff_iff, tp_fl_t, tp_fl_t]
  by_cases hr : tp_rc (tp_op h e) e c
  · have h0 := (tp_op_t.mp (tp_rc_h ht he hr).1).2
    rw [tp_lb_y ht hr, h0, hh]
    refine ⟨?_, ?_⟩
    · rintro (z | z)
      · exact Or.inl z
      · exact nomatch z.2.2.2
    · rintro (z | z)
      · exact Or.inl z
      · exact absurd z.2.1 (by omega)
  · rw [tp_lb_o ht hr]
    have hl := tp_lb_le h e c
    refine ⟨?_, ?_⟩
    · rintro (z | ⟨z1, z2, z3, z4⟩)
      · exact Or.inl z
      · rw [tp_hl_k he z2 hl] at z4
        exact Or.inr ⟨z1, z2, hl, z4⟩
    · rintro (z | ⟨z1, z2, z3, z4⟩)
      · exact Or.inl z
      · rw [← tp_hl_k he z2 hl] at z4
        exact Or.inr ⟨z1, z2, by omega, z4⟩
theorem tp_fl_0 {g : Nat → Bool} {l : Nat → Nat} (c : Nat) : tp_fl g l 0 c = g c := by
  rw [Bool.eq_iff_iff, tp_fl_t]
  refine ⟨?_, Or.inl⟩
  rintro (z | z)
  · exact z
  · exact absurd z.2.1 (by omega)
theorem tp_fl_s {g : Nat → Bool} {l : Nat → Nat} {k c : Nat} : tp_fl g l (k + 1) c = true ↔ tp_fl g l k c = true ∨ (tp_hl l (k + 1) 289 = true ∧ l c = k + 1 ∧ tp_dm c = 2) := by
  rw [tp_fl_t, tp_fl_t]
  refine ⟨?_, ?_⟩
  · rintro (z | ⟨z1, z2, z3, z4⟩)
    · exact Or.inl (Or.inl z)
    · by_cases e : l c = k + 1
      · rw [e] at z4
        exact Or.inr ⟨z4, e, z1⟩
      · exact Or.inl (Or.inr ⟨z1, z2, by omega, z4⟩)
  · rintro ((z | ⟨z1, z2, z3, z4⟩) | ⟨z1, z2, z3⟩)
    · exact Or.inl z
    · exact Or.inr ⟨z1, z2, by omega, z4⟩
    · refine Or.inr ⟨z3, by omega, by omega, ?_⟩
      rw [z2]
      exact z1
theorem tp_bd_h {h : Nat → Bool} {e : Nat} (he : e < 289) (ht : tp_op h e e = true) : tp_hl (tp_lb h (e + 1)).1 ((tp_lb h e).2 + 1) 289 = false ↔ ∃ c, tp_rc (tp_op h e) e c ∧ tp_bd c = true := by
  rw [← Bool.not_eq_true, tp_hl_t]
  refine ⟨fun z => ?_, ?_⟩
  · by_cases hx : ∃ c, tp_rc (tp_op h e) e c ∧ tp_bd c = true
    · exact hx
    · refine absurd (fun c _ ec => ?_) z
      cases hb : tp_bd c with
      | false => rfl
      | true => exact absurd ⟨c, (tp_lb_q ht).mp ec, hb⟩ hx
  · rintro ⟨c, hr, hb⟩ z
    have := z c (tp_rc_h ht he hr).2 ((tp_lb_q ht).mpr hr)
    rw [hb] at this
    exact nomatch this
/-- the unvisited elements after a walk -/
theorem tp_op_s {h : Nat → Bool} {e c : Nat} (ht : tp_op h e e = true) : tp_op h (e + 1) c = true ↔ tp_op h e c = true ∧ ¬ tp_rc (tp_op h e) e c := by
  rw [tp_op_t, tp_op_t]
  by_cases hr : tp_rc (tp_op h e) e c
  · rw [tp_lb_y ht hr]
    exact ⟨fun z => absurd z.2 (by omega), fun z => absurd hr z.2⟩
  · rw [tp_lb_o ht hr]
    exact ⟨fun z => ⟨z, hr⟩, fun z => z.1⟩
theorem tp_op_n {h : Nat → Bool} {e c : Nat} (ht : ¬ tp_op h e e = true) : tp_op h (e + 1) c = tp_op h e c := by
  unfold tp_op
  rw [tp_lb_n ht]
theorem tp_op_0 (h : Nat → Bool) (c : Nat) : tp_op h 0 c = h c := by
  unfold tp_op tp_lb
  simp
theorem tp_hc_s {h : Nat → Bool} {e : Nat} (he : e < 289) (ht : tp_op h e e = true) : tp_hc (tp_lb h (e + 1)).1 (tp_lb h (e + 1)).2 = if tp_hl (tp_lb h (e + 1)).1 ((tp_lb h e).2 + 1) 289 = true then tp_hc (tp_lb h e).1 (tp_lb h e).2 + 1 else tp_hc (tp_lb h e).1 (tp_lb h e).2 := by
  rw [tp_lb_2 ht]
  have := @tp_hc_k h e he
  unfold tp_hc at this ⊢
  rw [tp_cnt, this]
/-- meetings of bodies -/
theorem tp_me_z {P Q : Nat → Nat} {p : Nat} (h8 : p ≠ 8) : ¬ tp_me P Q p = 0 ↔ ∃ c, c < 289 ∧ P c = p / 3 ∧ Q c = p % 3 := by
  unfold tp_me
  rw [if_neg h8]
  exact tp_mt_z
theorem tp_bo1 (P Q : Nat → Nat) : (∃ c, c < 289 ∧ P c < 2 ∧ Q c = 2) ↔ ¬ (tp_me P Q 2 = 0 ∧ tp_me P Q 5 = 0) := by
  have h2 := @tp_me_z P Q 2 (by decide)
  have h5 := @tp_me_z P Q 5 (by decide)
  refine ⟨?_, fun z => ?_⟩
  · rintro ⟨c, hc, h1, h3⟩ ⟨z1, z2⟩
    by_cases e : P c = 0
    · exact h2.mpr ⟨c, hc, e, h3⟩ z1
    · exact h5.mpr ⟨c, hc, (by omega : P c = 1), h3⟩ z2
  · by_cases e : tp_me P Q 2 = 0
    · obtain ⟨c, hc, h1, h3⟩ := h5.mp (fun e5 => z ⟨e, e5⟩)
      exact ⟨c, hc, by omega, by omega⟩
    · obtain ⟨c, hc, h1, h3⟩ := h2.mp e
      exact ⟨c, hc, by omega, by omega⟩
theorem tp_bo2 (P Q : Nat → Nat) : (∃ c, c < 289 ∧ Q c < 2 ∧ P c = 2) ↔ ¬ (tp_me P Q 6 = 0 ∧ tp_me P Q 7 = 0) := by
  have h2 := @tp_me_z P Q 6 (by decide)
  have h5 := @tp_me_z P Q 7 (by decide)
  refine ⟨?_, fun z => ?_⟩
  · rintro ⟨c, hc, h1, h3⟩ ⟨z1, z2⟩
    by_cases e : Q c = 0
    · exact h2.mpr ⟨c, hc, h3, e⟩ z1
    · exact h5.mpr ⟨c, hc, h3, (by omega : Q c = 1)⟩ z2
  · by_cases e : tp_me P Q 6 = 0
    · obtain ⟨c, hc, h1, h3⟩ := h5.mp (fun e5 => z ⟨e, e5⟩)
      exact ⟨c, hc, by omega, by omega⟩
    · obtain ⟨c, hc, h1, h3⟩ := h2.mp e
      exact ⟨c, hc, by omega, by omega⟩
theorem tp_bm (P Q : Nat → Nat) : (∃ c, c < 289 ∧ P c < 2 ∧ Q c < 2) ↔ ¬ (tp_me P Q 0 = 0 ∧ tp_me P Q 1 = 0 ∧ tp_me P Q 3 = 0 ∧ tp_me P Q 4 = 0) := by
  have h0 := @tp_me_z P Q 0 (by decide)
  have h1 := @tp_me_z P Q 1 (by decide)
  have h3 := @tp_me_z P Q 3 (by decide)
  have h4 := @tp_me_z P Q 4 (by decide)
  refine ⟨?_, fun z => ?_⟩
  · rintro ⟨c, hc, hp, hq⟩ ⟨z0, z1, z3, z4⟩
    by_cases e : P c = 0
    · by_cases f : Q c = 0
      · exact h0.mpr ⟨c, hc, e, f⟩ z0
      · exact h1.mpr ⟨c, hc, e, (by omega : Q c = 1)⟩ z1
    · by_cases f : Q c = 0
      · exact h3.mpr ⟨c, hc, (by omega : P c = 1), f⟩ z3
      · exact h4.mpr ⟨c, hc, (by omega : P c = 1), (by omega : Q c = 1)⟩ z4
  · by_cases e0 : tp_me P Q 0 = 0
    · by_cases e1 : tp_me P Q 1 = 0
      · by_cases e3 : tp_me P Q 3 = 0
        · obtain ⟨c, hc, a, b⟩ := h4.mp (fun e4 => z ⟨e0, e1, e3, e4⟩)
          exact ⟨c, hc, by omega, by omega⟩
        · obtain ⟨c, hc, a, b⟩ := h3.mp e3
          exact ⟨c, hc, by omega, by omega⟩
      · obtain ⟨c, hc, a, b⟩ := h1.mp e1
        exact ⟨c, hc, by omega, by omega⟩
    · obtain ⟨c, hc, a, b⟩ := h0.mp e0
      exact ⟨c, hc, by omega, by omega⟩
/-- insides meet in no more than the lesser kind -/
theorem tp_me_k {k1 k2 : Nat} {g1 g2 : Nat → Bool} (H1 : tp_Ok k1 g1) (H2 : tp_Ok k2 g2) : tp_me (fun c => tp_pt k1 g1 (c / 17) (c % 17)) (fun c => tp_pt k2 g2 (c / 17) (c % 17)) 0 ≤ tp_mx k1 k2 := by
  have h : tp_me (fun c => tp_pt k1 g1 (c / 17) (c % 17)) (fun c => tp_pt k2 g2 (c / 17) (c % 17)) 0 ≤ k1 := by
    unfold tp_me
    rw [if_neg (by decide)]
    exact tp_mt_b (by omega) 289 (fun c _ e _ => tp_in_dm H1 e)
  unfold tp_mx
  split <;> omega
