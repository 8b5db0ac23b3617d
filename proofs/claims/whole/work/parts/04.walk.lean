/-- b lies beside a -/
def tp_nb (a b : Nat) : Prop := (b / 17 = a / 17 + 1 ∧ b % 17 = a % 17) ∨ (b / 17 + 1 = a / 17 ∧ b % 17 = a % 17) ∨ (b / 17 = a / 17 ∧ b % 17 = a % 17 + 1) ∨ (b / 17 = a / 17 ∧ b % 17 + 1 = a % 17)
/-- reached from s by steps over H -/
def tp_rc (H : Nat → Bool) (s c : Nat) : Prop := ∀ S : Nat → Prop, S s → (∀ a b, S a → tp_nb a b → b < 289 → H b = true → S b) → S c
theorem tp_rc_0 (H : Nat → Bool) (s : Nat) : tp_rc H s s := fun _ h _ => h
theorem tp_rc_s {H : Nat → Bool} {s a b : Nat} (h : tp_rc H s a) (n : tp_nb a b) (hb : b < 289) (hH : H b = true) : tp_rc H s b := fun S h0 hs => hs a b (h S h0 hs) n hb hH
theorem tp_rc_h {H : Nat → Bool} {s c : Nat} (hs : H s = true) (hs9 : s < 289) (h : tp_rc H s c) : H c = true ∧ c < 289 := h (fun c => H c = true ∧ c < 289) ⟨hs, hs9⟩ (fun _ _ _ _ h9 hb => ⟨hb, h9⟩)
theorem tp_rc_c {H H' : Nat → Bool} (e : ∀ c, c < 289 → H c = H' c) {s c : Nat} (h : tp_rc H s c) : tp_rc H' s c := fun S h0 hs => h S h0 (fun a b sa n hb hH => hs a b sa n hb (by rw [← e b hb]; exact hH))
/-- the state of a walk from s over H: U is still unvisited, q the queue of length L -/
def tp_Q (H : Nat → Bool) (s : Nat) (U : Nat → Bool) (q : Nat → Nat) (L : Nat) : Prop :=
  (∀ p, p < L → q p < 289 ∧ tp_rc H s (q p)) ∧ (∀ c, c < 289 → (U c = true ↔ H c = true ∧ ∀ p, p < L → q p ≠ c)) ∧ L + tp_cnt U 289 = tp_cnt H 289
/-- what the first n of the queue have beside them is no longer unvisited -/
def tp_C (U : Nat → Bool) (q : Nat → Nat) (n : Nat) : Prop := ∀ p, p < n → ∀ b, b < 289 → tp_nb (q p) b → U b = false
theorem tp_Q_l {H : Nat → Bool} {s : Nat} {U : Nat → Bool} {q : Nat → Nat} {L : Nat} (h : tp_Q H s U q L) : L ≤ 289 := by
  have h1 := h.2.2
  have h2 := tp_cnt_le H 289
  omega
theorem tp_Q_lt {H : Nat → Bool} {s : Nat} {U : Nat → Bool} {q : Nat → Nat} {L b : Nat} (h : tp_Q H s U q L) (hb : b < 289) (hU : U b = true) : L < 289 := by
  have h1 := h.2.2
  have h2 := tp_cnt_le H 289
  have h3 := tp_cnt_pos hU 289 hb
  omega
theorem tp_Q_0 (H : Nat → Bool) (s : Nat) (q : Nat → Nat) : tp_Q H s H q 0 := ⟨fun p hp => absurd hp (by omega), fun c _ => ⟨fun h => ⟨h, fun p hp => absurd hp (by omega)⟩, fun h => h.1⟩, by omega⟩
theorem tp_Q_s {H : Nat → Bool} {s : Nat} {U : Nat → Bool} {q : Nat → Nat} {L b : Nat} (h : tp_Q H s U q L) (hb : b < 289) (hU : U b = true) (hr : tp_rc H s b) : tp_Q H s (tp_u U b false) (tp_v q L b) (L + 1) := by
  refine ⟨?_, ?_, ?_⟩
  · intro p hp
    by_cases e : p = L
    · subst e
      rw [tp_v_s]
      exact ⟨hb, hr⟩
    · rw [tp_v_n e]
      exact h.1 p (by omega)
  · intro c hc
    by_cases e : c = b
    · subst e
      rw [tp_u_s]
      refine ⟨(fun z => nomatch z), fun z => absurd (tp_v_s q L c) (z.2 L (by omega))⟩
    · rw [tp_u_n e, h.2.1 c hc]
      refine ⟨fun z => ⟨z.1, fun p hp => ?_⟩, fun z => ⟨z.1, fun p hp => ?_⟩⟩
      · by_cases e2 : p = L
        · subst e2
          rw [tp_v_s]
          exact fun z => e z.symm
        · rw [tp_v_n e2]
          exact z.2 p (by omega)
      · have := z.2 p (by omega)
        rw [tp_v_n (by omega)] at this
        exact this
  · have h1 := h.2.2
    have h2 := tp_cnt_u hU 289 hb
    omega
theorem tp_C_s {U : Nat → Bool} {q : Nat → Nat} {n L b : Nat} (h : tp_C U q n) (hn : n ≤ L) : tp_C (tp_u U b false) (tp_v q L b) n := by
  intro p hp c hc hnb
  rw [tp_v_n (by omega)] at hnb
  by_cases e : c = b
  · subst e
    exact tp_u_s U c false
  · rw [tp_u_n e]
    exact h p hp c hc hnb
/-- at the end of a walk the queue holds just what is reached -/
theorem tp_Q_e {H : Nat → Bool} {s : Nat} {U : Nat → Bool} {q : Nat → Nat} {L : Nat} (h : tp_Q H s U q L) (hc : tp_C U q L) (hs : ∃ p, p < L ∧ q p = s) (c : Nat) : (∃ p, p < L ∧ q p = c) ↔ tp_rc H s c := by
  refine ⟨?_, fun hr => ?_⟩
  · rintro ⟨p, hp, rfl⟩
    exact (h.1 p hp).2
  · refine hr (fun c => ∃ p, p < L ∧ q p = c) hs ?_
    rintro a b ⟨p, hp, rfl⟩ n hb hH
    have h0 := hc p hp b hb n
    by_cases e : ∃ p, p < L ∧ q p = b
    · exact e
    · have := (h.2.1 b hb).mpr ⟨hH, fun p hp z => e ⟨p, hp, z⟩⟩
      rw [h0] at this
      exact nomatch this
theorem tp_Q_u {H : Nat → Bool} {s : Nat} {U : Nat → Bool} {q : Nat → Nat} {L : Nat} (h : tp_Q H s U q L) (hc : tp_C U q L) (hs : ∃ p, p < L ∧ q p = s) {c : Nat} (h9 : c < 289) : U c = true ↔ H c = true ∧ ¬ tp_rc H s c := by
  rw [h.2.1 c h9]
  refine ⟨fun z => ⟨z.1, fun r => ?_⟩, fun z => ⟨z.1, fun p hp e => z.2 ((tp_Q_e h hc hs c).mp ⟨p, hp, e⟩)⟩⟩
  obtain ⟨p, hp, e⟩ := (tp_Q_e h hc hs c).mpr r
  exact z.2 p hp e
/-- the labels that the walks give, element by element -/
noncomputable def tp_lb (h : Nat → Bool) : Nat → (Nat → Nat) × Nat
  | 0 => (fun _ => 0, 0)
  | e + 1 =>
    if h e = true ∧ (tp_lb h e).1 e = 0 then
      (fun c => @ite Nat (tp_rc (fun x => h x && ((tp_lb h e).1 x == 0)) e c) (Classical.propDecidable _) ((tp_lb h e).2 + 1) ((tp_lb h e).1 c), (tp_lb h e).2 + 1)
    else tp_lb h e
noncomputable def tp_op (h : Nat → Bool) (e : Nat) : Nat → Bool := fun x => h x && ((tp_lb h e).1 x == 0)
theorem tp_op_t {h : Nat → Bool} {e x : Nat} : tp_op h e x = true ↔ h x = true ∧ (tp_lb h e).1 x = 0 := by
  unfold tp_op
  rw [Bool.and_eq_true, beq_iff_eq]
theorem tp_lb_n {h : Nat → Bool} {e : Nat} (hn : ¬ tp_op h e e = true) : tp_lb h (e + 1) = tp_lb h e := by
  rw [tp_op_t] at hn
  rw [tp_lb, if_neg hn]
theorem tp_lb_2 {h : Nat → Bool} {e : Nat} (ht : tp_op h e e = true) : (tp_lb h (e + 1)).2 = (tp_lb h e).2 + 1 := by
  rw [tp_op_t] at ht
  rw [tp_lb, if_pos ht]
theorem tp_lb_y {h : Nat → Bool} {e c : Nat} (ht : tp_op h e e = true) (hr : tp_rc (tp_op h e) e c) : (tp_lb h (e + 1)).1 c = (tp_lb h e).2 + 1 := by
  rw [tp_op_t] at ht
  rw [tp_lb, if_pos ht]
  exact if_pos hr
theorem tp_lb_o {h : Nat → Bool} {e c : Nat} (ht : tp_op h e e = true) (hr : ¬ tp_rc (tp_op h e) e c) : (tp_lb h (e + 1)).1 c = (tp_lb h e).1 c := by
  rw [tp_op_t] at ht
  rw [tp_lb, if_pos ht]
  exact if_neg hr
theorem tp_lb_le (h : Nat → Bool) : ∀ e c, (tp_lb h e).1 c ≤ (tp_lb h e).2
  | 0, _ => Nat.le_refl 0
  | e + 1, c => by
    have h1 := tp_lb_le h e c
    by_cases ht : tp_op h e e = true
    · rw [tp_lb_2 ht]
      by_cases hr : tp_rc (tp_op h e) e c
      · rw [tp_lb_y ht hr]
        omega
      · rw [tp_lb_o ht hr]
        omega
    · rw [tp_lb_n ht]
      exact h1
theorem tp_lb_n9 (h : Nat → Bool) : ∀ e, (tp_lb h e).2 ≤ e
  | 0 => Nat.le_refl 0
  | e + 1 => by
    have h1 := tp_lb_n9 h e
    by_cases ht : tp_op h e e = true
    · rw [tp_lb_2 ht]
      omega
    · rw [tp_lb_n ht]
      omega
/-- the next walk leaves the elements with an old label as they were -/
theorem tp_lb_k {h : Nat → Bool} {e c k : Nat} (he : e < 289) (h1 : 1 ≤ k) (hk : k ≤ (tp_lb h e).2) : (tp_lb h (e + 1)).1 c = k ↔ (tp_lb h e).1 c = k := by
  by_cases ht : tp_op h e e = true
  · by_cases hr : tp_rc (tp_op h e) e c
    · rw [tp_lb_y ht hr]
      have := (tp_op_t.mp (tp_rc_h ht he hr).1).2
      omega
    · rw [tp_lb_o ht hr]
  · rw [tp_lb_n ht]
/-- a border element -/
def tp_bd (c : Nat) : Bool := decide (c / 17 = 0 ∨ c / 17 = 16 ∨ c % 17 = 0 ∨ c % 17 = 16)
/-- label k reaches no border among the first n -/
def tp_hl (l : Nat → Nat) (k : Nat) : Nat → Bool
  | 0 => true
  | n + 1 => tp_hl l k n && !(decide (l n = k) && tp_bd n)
theorem tp_hl_t {l : Nat → Nat} {k : Nat} : ∀ n, tp_hl l k n = true ↔ ∀ c, c < n → l c = k → tp_bd c = false
  | 0 => ⟨fun _ c hc => absurd hc (by omega), fun _ => rfl⟩
  | n + 1 => by
    unfold tp_hl
    rw [Bool.and_eq_true, tp_hl_t n]
    refine ⟨fun z c hc e => ?_, fun z => ⟨fun c hc => z c (by omega), ?_⟩⟩
    · by_cases hn : c = n
      · subst hn
        have := z.2
        rw [decide_eq_true e, Bool.true_and] at this
        cases hb : tp_bd c with
        | false => rfl
        | true =>
          rw [hb] at this
          exact nomatch this
      · exact z.1 c (by omega) e
    · by_cases e : l n = k
      · rw [z n (by omega) e, Bool.and_false]
        rfl
      · rw [decide_eq_false e, Bool.false_and]
        rfl
theorem tp_hl_c {l l' : Nat → Nat} {k k' : Nat} (n : Nat) (h : ∀ c, c < n → (l c = k ↔ l' c = k')) : tp_hl l k n = tp_hl l' k' n := by
  rw [Bool.eq_iff_iff, tp_hl_t, tp_hl_t]
  exact ⟨fun z c hc e => z c hc ((h c hc).mpr e), fun z c hc e => z c hc ((h c hc).mp e)⟩
/-- the number of holes among the labels 1 .. n -/
def tp_hc (l : Nat → Nat) (n : Nat) : Nat := tp_cnt (fun k => tp_hl l (k + 1) 289) n
theorem tp_hc_k {h : Nat → Bool} {e : Nat} (he : e < 289) : tp_hc (tp_lb h (e + 1)).1 (tp_lb h e).2 = tp_hc (tp_lb h e).1 (tp_lb h e).2 := by
  refine tp_cnt_congr _ (fun k hk => ?_)
  exact tp_hl_c 289 (fun c _ => tp_lb_k he (by omega) (by omega))
/-- the cells that filling adds -/
def tp_fl (g : Nat → Bool) (l : Nat → Nat) (n : Nat) : Nat → Bool := fun c => g c || (decide (tp_dm c = 2) && decide (1 ≤ l c) && decide (l c ≤ n) && tp_hl l (l c) 289)
