/-- neighbour number d of a: in the reference's order -/
def tp_nd (a d b : Nat) : Prop := (d = 0 ∧ b / 17 = a / 17 + 1 ∧ b % 17 = a % 17) ∨ (d = 1 ∧ b / 17 + 1 = a / 17 ∧ b % 17 = a % 17) ∨ (d = 2 ∧ b / 17 = a / 17 ∧ b % 17 = a % 17 + 1) ∨ (d = 3 ∧ b / 17 = a / 17 ∧ b % 17 + 1 = a % 17)
theorem tp_nd_nb {a d b : Nat} (h : tp_nd a d b) : tp_nb a b := by
  unfold tp_nd at h
  unfold tp_nb
  omega
theorem tp_nb_nd {a b : Nat} (h : tp_nb a b) : ∃ d, d < 4 ∧ tp_nd a d b := by
  unfold tp_nb at h
  unfold tp_nd
  rcases h with h | h | h | h
  · exact ⟨0, by omega, Or.inl ⟨rfl, h⟩⟩
  · exact ⟨1, by omega, Or.inr (Or.inl ⟨rfl, h⟩)⟩
  · exact ⟨2, by omega, Or.inr (Or.inr (Or.inl ⟨rfl, h⟩))⟩
  · exact ⟨3, by omega, Or.inr (Or.inr (Or.inr ⟨rfl, h⟩))⟩
theorem tp_nd_u {a d b b' : Nat} (h : tp_nd a d b) (h' : tp_nd a d b') : b = b' := by
  unfold tp_nd at h h'
  omega
/-- the walk's state while the n-th of the queue is looked at: the neighbours with D are done -/
def tp_S (H : Nat → Bool) (s n a : Nat) (D : Nat → Prop) (U : Nat → Bool) (q : Nat → Nat) (L : Nat) : Prop :=
  tp_Q H s U q L ∧ tp_C U q n ∧ n < L ∧ q n = a ∧ (∃ p, p < L ∧ q p = s) ∧ ∀ d b, D d → b < 289 → tp_nd a d b → U b = false
theorem tp_S_y {H : Nat → Bool} {s n a d b : Nat} {D D' : Nat → Prop} {U : Nat → Bool} {q : Nat → Nat} {L : Nat} (h : tp_S H s n a D U q L) (hb : b < 289) (hn : tp_nd a d b) (hU : U b = true) (e : ∀ x, D' x → D x ∨ x = d) : tp_S H s n a D' (tp_u U b false) (tp_v q L b) (L + 1) := by
  obtain ⟨hQ, hC, hL, ha, ⟨p, hp, es⟩, hD⟩ := h
  have hH := ((hQ.2.1 b hb).mp hU).1
  have hr : tp_rc H s a := by
    rw [← ha]
    exact (hQ.1 n hL).2
  refine ⟨tp_Q_s hQ hb hU (tp_rc_s hr (tp_nd_nb hn) hb hH), tp_C_s hC (by omega), by omega, ?_, ⟨p, by omega, ?_⟩, ?_⟩
  · rw [tp_v_n (by omega)]
    exact ha
  · rw [tp_v_n (by omega)]
    exact es
  · intro x c hx hc hnd
    by_cases ec : c = b
    · subst ec
      exact tp_u_s U c false
    · rw [tp_u_n ec]
      rcases e x hx with z | z
      · exact hD x c z hc hnd
      · subst z
        exact absurd (tp_nd_u hnd hn) ec
theorem tp_S_n {H : Nat → Bool} {s n a d : Nat} {D D' : Nat → Prop} {U : Nat → Bool} {q : Nat → Nat} {L : Nat} (h : tp_S H s n a D U q L) (hn : ∀ b, b < 289 → tp_nd a d b → U b = false) (e : ∀ x, D' x → D x ∨ x = d) : tp_S H s n a D' U q L := by
  obtain ⟨hQ, hC, hL, ha, hs, hD⟩ := h
  refine ⟨hQ, hC, hL, ha, hs, ?_⟩
  intro x c hx hc hnd
  rcases e x hx with z | z
  · exact hD x c z hc hnd
  · subst z
    exact hn c hc hnd
theorem tp_S_0 {H : Nat → Bool} {s n : Nat} {U : Nat → Bool} {q : Nat → Nat} {L : Nat} (hQ : tp_Q H s U q L) (hC : tp_C U q n) (hL : n < L) (hs : ∃ p, p < L ∧ q p = s) : tp_S H s n (q n) (fun _ => False) U q L := ⟨hQ, hC, hL, rfl, hs, fun _ _ z => z.elim⟩
theorem tp_S_e {H : Nat → Bool} {s n a : Nat} {D : Nat → Prop} {U : Nat → Bool} {q : Nat → Nat} {L : Nat} (h : tp_S H s n a D U q L) (hD : ∀ d, d < 4 → D d) : tp_C U q (n + 1) := by
  intro p hp b hb hnb
  by_cases e : p = n
  · subst e
    rw [h.2.2.2.1] at hnb
    obtain ⟨d, hd, hnd⟩ := tp_nb_nd hnb
    exact h.2.2.2.2.2 d b (hD d hd) hb hnd
  · exact h.2.1 p (by omega) b hb hnb
/-- the walk's first step -/
theorem tp_Q_1 {H : Nat → Bool} {s : Nat} (q : Nat → Nat) (hs : s < 289) (hH : H s = true) : tp_Q H s (tp_u H s false) (tp_v q 0 s) 1 := tp_Q_s (tp_Q_0 H s q) hs hH (tp_rc_0 H s)
theorem tp_Q_1s (q : Nat → Nat) (s : Nat) : ∃ p, p < 1 ∧ tp_v q 0 s p = s := ⟨0, by omega, tp_v_s q 0 s⟩
theorem tp_C_0 (U : Nat → Bool) (q : Nat → Nat) : tp_C U q 0 := fun p hp => absurd hp (by omega)
