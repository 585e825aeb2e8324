section P61
variable {M : vM} {L : Nat} {xs : Nat → Int32}
theorem okS_if {p : Prop} [Decidable p] {f g : (vM → Option (vR × vM)) → Option (vR × vM)} (hp : p → okS f) (hn : ¬ p → okS g) : okS (fun K => if p then f K else g K) := by
  by_cases q : p
  · obtain ⟨M', a, b⟩ := hp q
    exact ⟨M', a, fun K => (if_pos q).trans (b K)⟩
  · obtain ⟨M', a, b⟩ := hn q
    exact ⟨M', a, fun K => (if_neg q).trans (b K)⟩
theorem st_ok (h : Rel M) (q a b c d e : Int32) : okS (fun K => fL_st q a b c d e M K) := by
  unfold fL_st
  exact okS_if (fun _ => o0 h a b c d e) (fun _ =>
    okS_if (fun _ => o1 h a) (fun _ =>
    okS_if (fun _ => o2 h) (fun _ =>
    okS_if (fun _ => o3 h a) (fun _ =>
    okS_if (fun _ => o4 h a b) (fun _ =>
    okS_if (fun _ => o5 h a b c) (fun _ =>
    okS_if (fun _ => o6 h a b) (fun _ =>
    okS_if (fun _ => o7 h a b c d) (fun _ =>
    okS_if (fun _ => o8 h a b) (fun _ =>
    okS_if (fun _ => o9 h a b) (fun _ =>
    okS_if (fun _ => o10 h a b) (fun _ =>
    okS_if (fun _ => o11 h a b) (fun _ =>
    okS_if (fun _ => o12 h a b) (fun _ =>
    okS_if (fun _ => o13 h a b c) (fun _ =>
    okS_if (fun _ => o14 h a b) (fun _ =>
    okS_if (fun _ => o15 h a b c) (fun _ =>
    okS_if (fun _ => o16 h a b) (fun _ =>
    okS_if (fun _ => o17 h a b c) (fun _ =>
    okS_if (fun _ => o18 h a b c) (fun _ =>
    okS_if (fun _ => o19 h a b) (fun _ =>
    okS_if (fun _ => o20 h a b) (fun _ =>
    okS_if (fun _ => o21 h a b) (fun _ =>
    okS_if (fun _ => o22 h a b c) (fun _ =>
    okS_if (fun _ => o23 h a b c) (fun _ =>
    okS_if (fun _ => o24 h a b c d) (fun _ =>
    okS_if (fun _ => o25 h) (fun _ =>
    okS_if (fun _ => o26 h) (fun _ => ⟨M, h, fun _ => rfl⟩)))))))))))))))))))))))))))
theorem go_ok : ∀ (r k : Nat) (M : vM), Rel M → L < k + 6 * (r + 1) → ∃ M', fL_go L xs r k M = rI 1 M'
  | 0, k, M, _, hL => ⟨M, if_neg (by omega)⟩
  | r + 1, k, M, h, hL => by
    by_cases q : k + 6 ≤ L
    · obtain ⟨M1, a, b⟩ := st_ok h (xs k &&& 31) (xs (k + 1)) (xs (k + 2)) (xs (k + 3)) (xs (k + 4)) (xs (k + 5))
      obtain ⟨M', e⟩ := go_ok r (k + 6) M1 a (by omega)
      exact ⟨M', (if_pos q).trans ((b _).trans e)⟩
    · exact ⟨M, if_neg q⟩
theorem nIb_0 {b : Nat} : nIb 0 b := ⟨rfl, Nat.zero_le _⟩
/-- at the start both hold the same: nothing -/
theorem M1S_Rel : Rel M1S := by
  have e31 : M1S.1 130 31 = 0 := by decide +kernel
  have e2 : M1S.1 130 2 = 0 := by decide +kernel
  have e21 : M1S.1 130 21 = 0 := by decide +kernel
  have e51 : M1S.1 130 51 = 0 := by decide +kernel
  have eW : qW M1S = 0 := by show qN (M1S.1 130 2) = 0; rw [e2]; rfl
  refine ⟨⟨M1S_WT, ?_⟩, ⟨?_, ?_, ?_, fun i hi => ?_⟩, by decide +kernel, ⟨by decide +kernel, ?_⟩, fun i hi => ?_, ⟨⟨?_, ?_⟩, fun i hi => ?_, fun i hi => ?_, fun i hi => ?_, ?_, ?_⟩, ⟨by decide +kernel, Or.inl e51, fun h => ?_⟩⟩
  · have h : ((List.range 12).all fun a => (List.range 12).all fun b => decide (qpl M1S a = qpl M1S b → a = b)) = true := by decide +kernel
    intro a b ha hb
    exact of_decide_eq_true (List.all_eq_true.mp (List.all_eq_true.mp h a (List.mem_range.mpr ha)) b (List.mem_range.mpr hb))
  · rw [e31]; decide
  · rw [e31]; rfl
  · rw [e31]; decide +kernel
  · rw [e31] at hi; exact absurd hi (Nat.not_lt_zero _)
  · rw [e2]; exact nIb_0
  · rw [eW] at hi; exact absurd hi (Nat.not_lt_zero _)
  · rw [e21]; decide +kernel
  · rw [e21]; exact nIb_0
  · rw [e21] at hi; exact absurd hi (Nat.not_lt_zero _)
  · rw [eW] at hi; exact absurd hi (Nat.not_lt_zero _)
  · rw [eW] at hi; exact absurd hi (Nat.not_lt_zero _)
  · have h : ((List.range 100).all fun y => decide (M1S.1 13 y = 1 ∧ M1S.1 155 y = 1)) = true := by decide +kernel
    intro y hy
    obtain ⟨a, b⟩ := of_decide_eq_true (List.all_eq_true.mp h y (List.mem_range.mpr hy))
    show M1S.1 13 y = M1S.1 155 y ∧ nIb (M1S.1 155 y) 99
    rw [a, b]
    exact ⟨rfl, ⟨rfl, by decide⟩⟩
  · have h : ((List.range 4).all fun k => decide (M1S.1 14 k = M1S.1 156 k)) = true := by decide +kernel
    intro k hk
    exact of_decide_eq_true (List.all_eq_true.mp h k (List.mem_range.mpr hk))
  · rw [e51] at h
    exact absurd h (by decide)
theorem law_pure_ok : law_pure := fun L xs hL => go_ok 512 0 M1S M1S_Rel (by omega)
end P61
theorem i_vc : Claimed_1_1 ∧ Claimed_1_2 := i_vc_of law_pure_ok
