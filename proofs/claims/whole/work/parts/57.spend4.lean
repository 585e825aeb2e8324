section P17
variable {M N : vM} {i : Nat}
/-! the reference's -/
theorem sSame_lo {law lo lo' ot : Int32} {u : Nat} (h : law = 1 → lo = lo') : sSame law lo ot u = sSame law lo' ot u := by
  unfold sSame
  by_cases h1 : law = 1
  · rw [h h1]
  · rw [if_neg h1, if_neg h1]
/-- what the reference reads of a work -/
def rOK (N : vM) (i c : Nat) (mk : Nat → Nat) : Prop := N.1 145 i = nI c ∧ c ≤ 1458 ∧ ∀ k, k < c → N.1 147 (2000 * i + k) = nI (mk k) ∧ mk k < 2 ^ 20
theorem l_sp24 (hi : i < 6) {R base len : Nat} (hR : (v_LAY R).2.2 = len) (hl : len < 2 ^ 31) (hR2 : R = 148 ∨ R = 159) {c : Nat} {mk : Nat → Nat} (hb : base + c ≤ len) {way : Nat} (hw : way < c) {bits : Int32} :
    ∀ (n f k : Nat) (N : vM), n < f → k + n = c → rOK N i c mk → fX11_spend_24 f N (nI i) (nI way) R (nI base) bits (nI k) = rV (v_up1 N R (fun j => base + k ≤ j ∧ j < base + c ∧ sSame (N.1 134 i) bits (N.1 135 i) (mk (j - base) ^^^ mk way) = 1)) := by
  intro n
  induction n with
  | zero =>
    intro f k N hf hk hO
    cases f with
    | zero => exact absurd hf (Nat.not_lt_zero _)
    | succ f =>
      have hc := hO.2.1
      unfold fX11_spend_24
      rw [if_pos (v_in_nI hi (by decide)), nI_clamp (by omega), hO.1, if_pos (nI_le (by omega) (by omega))]
      refine congrArg rV ?_
      refine Prod.ext ?_ rfl
      funext a b
      exact (if_neg (by omega)).symm
  | succ n ih =>
    intro f k N hf hk hO
    cases f with
    | zero => exact absurd hf (Nat.not_lt_zero _)
    | succ f =>
      have hc := hO.2.1
      obtain ⟨k1, k2⟩ := hO.2.2 k (by omega)
      obtain ⟨w1, w2⟩ := hO.2.2 way hw
      have h12 : v_in (nI i) 12 = true := v_in_nI (by omega) (by decide)
      unfold fX11_spend_24
      rw [if_pos (v_in_nI hi (by decide)), nI_clamp (by omega), hO.1, if_neg (nI_ge (by omega) (by omega)), r_markOf hi (by omega), bi_I, r_markOf hi (by omega), bi_I, if_pos h12, if_pos h12, k1, w1, r_areSame k2 w2, bi_I]
      by_cases q : sSame (N.1 134 i) bits (N.1 135 i) (mk k ^^^ mk way) = 1
      · rw [q, if_neg (by decide), nI_add, hR, if_pos (v_in_nI (by omega) hl), nI_clamp (by omega), v_nz1, nI_1]
        have hne : ∀ c, c < 148 → c ≠ R := fun c hc2 => by omega
        rw [ih f (k + 1) (v_si N R (base + k) 1) (by omega) (by omega) ⟨by rw [si_c (hne _ (by decide))]; exact hO.1, hc, fun k' hk' => by rw [si_c (hne _ (by decide))]; exact hO.2.2 k' hk'⟩]
        refine congrArg rV ?_
        rw [si_c (hne _ (by decide)), si_c (hne _ (by decide))]
        refine up_eq rfl (fun c' h' => si_c h') (fun j => ?_)
        by_cases qj : j = base + k
        · rw [up_n (fun z => by omega), up_y ⟨by omega, by omega, by rw [qj, Nat.add_sub_cancel_left]; exact q⟩, qj, si_s]
        · by_cases q2 : base + k ≤ j ∧ j < base + c ∧ sSame (N.1 134 i) bits (N.1 135 i) (mk (j - base) ^^^ mk way) = 1
          · rw [up_y ⟨by have := q2.1; omega, q2.2⟩, up_y q2]
          · rw [up_n (fun z => q2 ⟨by have := z.1; omega, z.2⟩), up_n q2, si_n qj]
      · have q0 : sSame (N.1 134 i) bits (N.1 135 i) (mk k ^^^ mk way) = 0 := (sSame01 ..).resolve_right q
        rw [q0, if_pos rfl, nI_1, ih f (k + 1) N (by omega) (by omega) hO]
        refine congrArg rV ?_
        refine up_eq rfl (fun _ _ => rfl) (fun j => ?_)
        by_cases qj : j = base + k
        · rw [up_n (fun z => by omega), up_n (fun z => q (by have := z.2.2; rw [qj, Nat.add_sub_cancel_left] at this; exact this))]
        · by_cases q2 : base + k ≤ j ∧ j < base + c ∧ sSame (N.1 134 i) bits (N.1 135 i) (mk (j - base) ^^^ mk way) = 1
          · rw [up_y ⟨by have := q2.1; omega, q2.2⟩, up_y q2]
          · rw [up_n (fun z => q2 ⟨by have := z.1; omega, z.2⟩), up_n q2]
end P17
