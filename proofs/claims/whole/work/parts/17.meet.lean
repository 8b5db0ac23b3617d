theorem tq_0 {α : Type} {b : Bool} {post : Int32 → α → Prop} {v : α} (h : post (tp_b b) v) (e : b = false) : post 0 v := by
  rw [e] at h
  exact h
theorem tq_1 {α : Type} {b : Bool} {post : Int32 → α → Prop} {v : α} (h : post (tp_b b) v) (e : b = true) : post 1 v := by
  rw [e] at h
  exact h
theorem tp_me_3 (P Q : Nat → Nat) (p : Nat) : tp_me P Q p ≤ 3 := by
  unfold tp_me
  split
  · omega
  · exact tp_mt_b (by omega) 289 (fun c _ _ _ => by have := tp_dm_le c; omega)
theorem tp_mt_m (P Q : Nat → Nat) (x y e : Nat) (h1 : P e = x) (h2 : Q e = y) : tp_mx (tp_mt P Q x y 0 e) (tp_dm e + 1) = tp_mt P Q x y 0 (e + 1) := by
  rw [tp_mt]
  unfold tp_mx
  by_cases h : tp_mt P Q x y 0 e < tp_dm e + 1
  · rw [if_neg (by omega), if_pos ⟨h1, h2, h⟩]
  · rw [if_neg (c := P e = x ∧ Q e = y ∧ tp_mt P Q x y 0 e < tp_dm e + 1) (fun z => h z.2.2)]
    split <;> omega
theorem tp_mt_o (P Q : Nat → Nat) (x y a e : Nat) (h : ¬ (P e = x ∧ Q e = y)) : tp_mt P Q x y a (e + 1) = tp_mt P Q x y a e := by
  rw [tp_mt, if_neg (fun z => h ⟨z.1, z.2.1⟩)]
/-- the parts of a slot's shape, by element -/
def tp_ps (k : Nat → Nat) (m : Nat → Bool) (s : Nat) : Nat → Nat := fun c => tp_pt (k s) (tp_sl m s) (c / 17) (c % 17)
theorem tp_ps_2 (k : Nat → Nat) (m : Nat → Bool) (s c : Nat) : tp_ps k m s c ≤ 2 := tp_pt_le _ _ _ _
theorem tx_meet23 {post : SX → Prop} {f : Int32} {K S M P T U Q : Nat → Int32} {k : Nat → Nat} {m : Nat → Bool} (hC : tp_Cr k m S P) {s t : Nat} (hs : s < 12) (ht : t < 12) (hT : ∀ p, p < 9 → T p = 0) (h : ∀ T', (∀ p, p < 9 → T' p = nI (tp_me (tp_ps k m s) (tp_ps k m t) p)) → post (f, K, S, M, P, T', U, Q)) : ∃ n, wX_findMeetings_23 post (nI s) (nI t) f n 0 K S M P T U Q := by
  refine loop_0 (fun n c T => wX_findMeetings_23 post (nI s) (nI t) f n (nI c) K S M P T U Q) (fun c T => ∀ p, p < 9 → T p = nI (tp_mt (tp_ps k m s) (tp_ps k m t) (p / 3) (p % 3) 0 c)) 289 T (fun p hp => hT p hp) ?_ ?_
  · intro n T' hT'
    refine br_t (tp_rfl 289) (nm_e (h _ (fun p hp => ?_)))
    unfold tp_me
    by_cases e : p = 8
    · subst e
      rw [pk_us, if_pos rfl]
      rfl
    · rw [pk_un e, if_neg e]
      exact hT' p hp
  · intro n c T' hc hT' ih
    refine br_f (nI_ge (b := 289) hc (by decide)) ?_
    have e1 : P (289 * s + c) = nI (tp_ps k m s c) := hC.2.2 s hs c hc
    have e2 : P (289 * t + c) = nI (tp_ps k m t c) := hC.2.2 t ht c hc
    have l1 := tp_ps_2 k m s c
    have l2 := tp_ps_2 k m t c
    have e3 : nI (tp_ps k m s c) * 3 + nI (tp_ps k m t c) = nI (tp_ps k m s c * 3 + tp_ps k m t c) := by
      rw [show (3 : Int32) = nI 3 from rfl, pk_mul, nI_add]
    rw [tp_ix1, tp_ix1, nI_clamp (by omega), nI_clamp (by omega), tp_r17 (by omega), tp_d17 (by omega)]
    refine ⟨vp_in_nI (by omega) (by decide), nm_r e1 ⟨vp_in_nI (by omega) (by decide), nm_r e2 (nm_r e3 ⟨tp_17, tp_17, ?_⟩)⟩⟩
    refine tx_dim (by omega) (by omega) ?_
    refine nm_r (nI_1 _) ⟨vp_in_nI (by omega) (by decide), ?_⟩
    rw [nI_clamp (by omega), hT' _ (by omega)]
    have hb := tp_mt_b (p := tp_ps k m s) (q := tp_ps k m t) (x := (tp_ps k m s c * 3 + tp_ps k m t c) / 3) (y := (tp_ps k m s c * 3 + tp_ps k m t c) % 3) (a := 0) (B := 3) (by omega) c (fun c _ _ _ => by have := tp_dm_le c; omega)
    refine tx_great (by omega) (by omega) ?_
    refine ⟨vp_in_nI (by omega) (by decide), nm_e (nm_r (nI_1 c) (ih _ (fun p hp => ?_)))⟩
    by_cases e : p = tp_ps k m s c * 3 + tp_ps k m t c
    · rw [e, pk_us]
      exact congrArg nI (tp_mt_m _ _ _ _ c (by omega) (by omega))
    · rw [pk_un e, hT' p hp, tp_mt_o _ _ _ _ _ c (by omega)]
theorem tx_meet {post : SX → Prop} {f : Int32} {K S M P T U Q : Nat → Int32} {k : Nat → Nat} {m : Nat → Bool} (hC : tp_Cr k m S P) {s t : Nat} (hs : s < 12) (ht : t < 12) (h : ∀ T', (∀ p, p < 9 → T' p = nI (tp_me (tp_ps k m s) (tp_ps k m t) p)) → post (f, K, S, M, P, T', U, Q)) : wpX_findMeetings post (f, K, S, M, P, T, U, Q) (nI s) (nI t) := by
  refine loop_0 (fun n c T => wX_findMeetings_2 post (nI s) (nI t) f n (nI c) K S M P T U Q) (fun c T => ∀ p, p < c → T p = 0) 9 T (fun p hp => absurd hp (by omega)) ?_ ?_
  · intro n T' hT'
    exact br_t (tp_rfl 9) (tx_meet23 hC hs ht hT' h)
  · intro n c T' hc hT' ih
    refine br_f (nI_ge (b := 9) hc (by decide)) ⟨vp_in_nI hc (by decide), ?_⟩
    rw [nI_clamp (by omega)]
    refine nm_e (nm_r (nI_1 c) (ih _ (fun p hp => ?_)))
    by_cases e : p = c
    · subst e
      rw [pk_us]
    · rw [pk_un e]
      exact hT' p (by omega)
section
variable {K M H A B p q : Nat → Int32} {P Q : Nat → Nat}
theorem ty_meet19 {post : Int32 → Prop} (hA : ∀ c, c < 289 → A c = nI (P c)) (hB : ∀ c, c < 289 → B c = nI (Q c)) (hP : ∀ c, P c ≤ 2) (hQ : ∀ c, Q c ≤ 2) {x y a : Nat} (hx : x ≤ 2) (hy : y ≤ 2) (ha : a ≤ 3) (h : post (nI (tp_mt P Q x y a 289))) : ∃ n, wY_meeting_19 post (nI x) (nI y) K M H A B p q n (nI a) 0 := by
  refine loop_0 (fun n c (z : Nat) => wY_meeting_19 post (nI x) (nI y) K M H A B p q n (nI z) (nI c)) (fun c z => z = tp_mt P Q x y a c) 289 a rfl ?_ ?_
  · intro n z hz
    subst hz
    exact br_t (tp_rfl 289) h
  · intro n c z hc hz ih
    refine br_f (nI_ge (b := 289) hc (by decide)) ?_
    rw [nI_clamp (by omega), hA c hc, hB c hc]
    refine ty_dim hc (nm_r (nI_1 _) ⟨vp_in_nI hc (by decide), ?_⟩)
    have hd := tp_dm_le c
    have hp := hP c
    have hq := hQ c
    have hb := tp_mt_b (p := P) (q := Q) (x := x) (y := y) (a := a) (B := 3) ha c (fun c _ _ _ => by have := tp_dm_le c; omega)
    refine pk_eq (P c) x (fun e1 => ⟨vp_in_nI hc (by decide), pk_eq (Q c) y (fun e2 => pk_le (tp_dm c + 1) z (fun e3 => nm_r (nI_1 c) (ih _ ?_)) (fun e3 => nm_r (nI_1 c) (ih _ ?_))) (fun e2 => nm_r (nI_1 c) (ih _ ?_))⟩) (fun e1 => nm_r (nI_1 c) (ih _ ?_))
    · rw [hz, tp_mt, if_neg (by omega)]
    · rw [tp_mt, if_pos ⟨e1, e2, by omega⟩]
    · rw [hz, tp_mt, if_neg (fun w => e2 w.2.1)]
    · rw [hz, tp_mt, if_neg (fun w => e1 w.1)]
theorem ty_meet {post : Int32 → Prop} (hA : ∀ c, c < 289 → A c = nI (P c)) (hB : ∀ c, c < 289 → B c = nI (Q c)) (hP : ∀ c, P c ≤ 2) (hQ : ∀ c, Q c ≤ 2) {x y : Nat} (hx : x ≤ 2) (hy : y ≤ 2) (h : post (nI (tp_me P Q (3 * x + y)))) : wpY_meeting post (K, M, H, A, B, p, q) (nI x) (nI y) := by
  unfold wpY_meeting
  dsimp only
  unfold tp_me at h
  by_cases e : 3 * x + y = 8
  · rw [if_pos e] at h
    have e1 : x = 2 := by omega
    have e2 : y = 2 := by omega
    subst e1 e2
    refine br_t rfl (br_t rfl ?_)
    refine ty_meet19 (a := 3) hA hB hP hQ hx hy (by omega) ?_
    rw [tp_mt_3]
    exact h
  · rw [if_neg e, show (3 * x + y) / 3 = x from by omega, show (3 * x + y) % 3 = y from by omega] at h
    have key := ty_meet19 (K := K) (M := M) (H := H) (p := p) (q := q) (a := 0) hA hB hP hQ hx hy (by omega) h
    exact br_c (fun _ => br_c (fun _ => absurd ‹_› (by intro z; have z1 := (nI_eq (b := 2) (by omega) (by decide)).mp z; have z2 := (nI_eq (b := 2) (by omega) (by decide)).mp (by assumption : nI x = 2); omega)) (fun _ => key)) (fun _ => key)
theorem ty_bmo1 {post : Int32 → Prop} (hA : ∀ c, c < 289 → A c = nI (P c)) (hB : ∀ c, c < 289 → B c = nI (Q c)) (hP : ∀ c, P c ≤ 2) (hQ : ∀ c, Q c ≤ 2) (h : post (tp_b (decide (¬ (tp_me P Q 2 = 0 ∧ tp_me P Q 5 = 0))))) : wpY_bodyMeetsOutside post (K, M, H, A, B, p, q) 1 := by
  have he : tp_an (fun c => decide (P c < 2 ∧ Q c = 2)) 289 = decide (¬ (tp_me P Q 2 = 0 ∧ tp_me P Q 5 = 0)) := by
    rw [Bool.eq_iff_iff, tp_an_t, decide_eq_true_iff, ← tp_bo1]
    exact ⟨fun ⟨c, hc, e⟩ => ⟨c, hc, of_decide_eq_true e⟩, fun ⟨c, hc, e⟩ => ⟨c, hc, decide_eq_true e⟩⟩
  rw [← he] at h
  refine loop_0 (fun n c (x : Bool) => wY_bodyMeetsOutside_4 post 1 K M H A B p q n (tp_b x) (nI c)) (fun c x => x = tp_an (fun c => decide (P c < 2 ∧ Q c = 2)) c) 289 false rfl ?_ ?_
  · intro n x hx
    subst hx
    exact br_t (tp_rfl 289) ⟨tp_nab _, h⟩
  · intro n c x hc hx ih
    refine br_f (nI_ge (b := 289) hc (by decide)) ?_
    rw [nI_clamp (by omega), hA c hc, hB c hc]
    have hp := hP c
    have hq := hQ c
    have hin : vp_in (nI c) 289 := vp_in_nI hc (by decide)
    refine tp_br (fun e => br_f (by decide) ⟨hin, pk_le 2 (P c) (fun e1 => nm_r (nI_1 c) (ih false ?_)) (fun e1 => ⟨hin, pk_eq (Q c) 2 (fun e2 => nm_r (nI_1 c) (ih true ?_)) (fun e2 => nm_r (nI_1 c) (ih false ?_))⟩)⟩) (fun e => nm_r (nI_1 c) (ih true ?_))
    · rw [tp_an, ← hx, e, decide_eq_false (by omega)]
      rfl
    · rw [tp_an, ← hx, e, decide_eq_true ⟨e1, e2⟩]
      rfl
    · rw [tp_an, ← hx, e, decide_eq_false (fun z => e2 z.2)]
      rfl
    · rw [tp_an, ← hx, e]
      rfl
theorem ty_bmo0 {post : Int32 → Prop} (hA : ∀ c, c < 289 → A c = nI (P c)) (hB : ∀ c, c < 289 → B c = nI (Q c)) (hP : ∀ c, P c ≤ 2) (hQ : ∀ c, Q c ≤ 2) (h : post (tp_b (decide (¬ (tp_me P Q 6 = 0 ∧ tp_me P Q 7 = 0))))) : wpY_bodyMeetsOutside post (K, M, H, A, B, p, q) 0 := by
  have he : tp_an (fun c => decide (Q c < 2 ∧ P c = 2)) 289 = decide (¬ (tp_me P Q 6 = 0 ∧ tp_me P Q 7 = 0)) := by
    rw [Bool.eq_iff_iff, tp_an_t, decide_eq_true_iff, ← tp_bo2]
    exact ⟨fun ⟨c, hc, e⟩ => ⟨c, hc, of_decide_eq_true e⟩, fun ⟨c, hc, e⟩ => ⟨c, hc, decide_eq_true e⟩⟩
  rw [← he] at h
  refine loop_0 (fun n c (x : Bool) => wY_bodyMeetsOutside_4 post 0 K M H A B p q n (tp_b x) (nI c)) (fun c x => x = tp_an (fun c => decide (Q c < 2 ∧ P c = 2)) c) 289 false rfl ?_ ?_
  · intro n x hx
    subst hx
    exact br_t (tp_rfl 289) ⟨tp_nab _, h⟩
  · intro n c x hc hx ih
    refine br_f (nI_ge (b := 289) hc (by decide)) ?_
    rw [nI_clamp (by omega), hA c hc, hB c hc]
    have hp := hP c
    have hq := hQ c
    have hin : vp_in (nI c) 289 := vp_in_nI hc (by decide)
    refine tp_br (fun e => br_t rfl ⟨hin, pk_le 2 (Q c) (fun e1 => nm_r (nI_1 c) (ih false ?_)) (fun e1 => ⟨hin, pk_eq (P c) 2 (fun e2 => nm_r (nI_1 c) (ih true ?_)) (fun e2 => nm_r (nI_1 c) (ih false ?_))⟩)⟩) (fun e => nm_r (nI_1 c) (ih true ?_))
    · rw [tp_an, ← hx, e, decide_eq_false (by omega)]
      rfl
    · rw [tp_an, ← hx, e, decide_eq_true ⟨e1, e2⟩]
      rfl
    · rw [tp_an, ← hx, e, decide_eq_false (fun z => e2 z.2)]
      rfl
    · rw [tp_an, ← hx, e]
      rfl
theorem ty_bdm {post : Int32 → Prop} (hA : ∀ c, c < 289 → A c = nI (P c)) (hB : ∀ c, c < 289 → B c = nI (Q c)) (hP : ∀ c, P c ≤ 2) (hQ : ∀ c, Q c ≤ 2) (h : post (tp_b (decide (¬ (tp_me P Q 0 = 0 ∧ tp_me P Q 1 = 0 ∧ tp_me P Q 3 = 0 ∧ tp_me P Q 4 = 0))))) : wpY_bodiesMeet post (K, M, H, A, B, p, q) := by
  have he : tp_an (fun c => decide (P c < 2 ∧ Q c < 2)) 289 = decide (¬ (tp_me P Q 0 = 0 ∧ tp_me P Q 1 = 0 ∧ tp_me P Q 3 = 0 ∧ tp_me P Q 4 = 0)) := by
    rw [Bool.eq_iff_iff, tp_an_t, decide_eq_true_iff, ← tp_bm]
    exact ⟨fun ⟨c, hc, e⟩ => ⟨c, hc, of_decide_eq_true e⟩, fun ⟨c, hc, e⟩ => ⟨c, hc, decide_eq_true e⟩⟩
  rw [← he] at h
  refine loop_0 (fun n c (x : Bool) => wY_bodiesMeet_4 post K M H A B p q n (tp_b x) (nI c)) (fun c x => x = tp_an (fun c => decide (P c < 2 ∧ Q c < 2)) c) 289 false rfl ?_ ?_
  · intro n x hx
    subst hx
    exact br_t (tp_rfl 289) ⟨tp_nab _, h⟩
  · intro n c x hc hx ih
    refine br_f (nI_ge (b := 289) hc (by decide)) ?_
    rw [nI_clamp (by omega), hA c hc, hB c hc]
    have hp := hP c
    have hq := hQ c
    have hin : vp_in (nI c) 289 := vp_in_nI hc (by decide)
    refine tp_br (fun e => ⟨hin, pk_le 2 (P c) (fun e1 => nm_r (nI_1 c) (ih false ?_)) (fun e1 => ⟨hin, pk_le 2 (Q c) (fun e2 => nm_r (nI_1 c) (ih false ?_)) (fun e2 => nm_r (nI_1 c) (ih true ?_))⟩)⟩) (fun e => nm_r (nI_1 c) (ih true ?_))
    · rw [tp_an, ← hx, e, decide_eq_false (by omega)]
      rfl
    · rw [tp_an, ← hx, e, decide_eq_false (by omega)]
      rfl
    · rw [tp_an, ← hx, e, decide_eq_true ⟨e1, e2⟩]
      rfl
    · rw [tp_an, ← hx, e]
      rfl
end
