section P16
variable {M N : vM} {i : Nat}
theorem xor0 {a b : Nat} (h : a ^^^ b = 0) : a = b := by
  have h1 : (a ^^^ b) ^^^ b = a := by rw [Nat.xor_assoc, Nat.xor_self, Nat.xor_zero]
  rw [h, Nat.zero_xor] at h1
  exact h1.symm
theorem same0 {law lo ot : Int32} (hl : law = 0 ∨ law = 1 ∨ law = 2) (h : law = 2 → ∃ n, 1 ≤ n ∧ n < 2 ^ 31 ∧ ot = nI n) : sSame law lo ot 0 = 1 := by
  unfold sSame
  rcases hl with rfl | rfl | rfl
  · rw [if_pos rfl, if_pos rfl]
  · have e0 : nI 0 &&& (lo ^^^ (-1)) = 0 := by
      rw [nI_0]
      exact Int32.zero_and
    rw [if_neg (show ¬ (1 : Int32) = 0 by decide), if_pos rfl, if_pos e0]
  · obtain ⟨n, n1, n2, rfl⟩ := h rfl
    rw [if_neg (show ¬ (2 : Int32) = 0 by decide), if_neg (show ¬ (2 : Int32) = 1 by decide), pcn_0, if_neg (nI_ge n1 n2)]
theorem zer_si_same {R c k : Nat} (h1 : N.1 R k = 1) : v_si N R k 1 = N := by
  refine Prod.ext ?_ rfl
  funext a b
  show (if a = R ∧ b = k then 1 else N.1 a b) = N.1 a b
  by_cases q : a = R ∧ b = k
  · rw [if_pos q, q.1, q.2, h1]
  · rw [if_neg q]
def ssP (law lo num : Int32) (mk : Nat → Nat) (way c fr : Nat) (j : Nat) : Prop := j = way ∨ (fr ≤ j ∧ j < c ∧ sSame law lo num (mk j ^^^ mk way) = 1)
theorem c_ss35 {w R : Nat} {law num : Int32} (hl : law = 0 ∨ law = 1 ∨ law = 2) (hR : (v_LAY R).2.2 = 1458) (hRw : R ≠ w) {c : Nat} {co mk : Nat → Nat} {N : vM} (hO : kOK N w c co mk) (hrow : ∀ j, j < c → N.1 R j = 0 ∨ N.1 R j = 1) (hD : ∀ j k, j < k → k < c → mk j ≠ mk k) {way fr : Nat} (hw : way < c) (hf : fr ≤ c) {s0 : Nat} (hs0 : s0 + zer (v_si N R way 1) R c = zer N R c) :
    ∃ s', fX9_setSame_35 N w R law num (nI way) (nI fr) (nI s0) = rI (nI s') (v_up1 N R (fun j => j = way ∨ (fr ≤ j ∧ j < c ∧ sSame law (N.1 w 3) num (mk j ^^^ mk way) = 1))) ∧ s' + zer (v_up1 N R (fun j => j = way ∨ (fr ≤ j ∧ j < c ∧ sSame law (N.1 w 3) num (mk j ^^^ mk way) = 1))) R c = zer N R c := by
  have hc := hO.2.1
  have hO2 : kOK (v_si N R way 1) w c co mk := ⟨by rw [si_c (Ne.symm hRw)]; exact hO.1, hc, hO.2.2⟩
  have hrow2 : ∀ j, j < c → (v_si N R way 1).1 R j = 0 ∨ (v_si N R way 1).1 R j = 1 := fun j hj => by
    by_cases qj : j = way
    · rw [qj, si_s]; exact Or.inr rfl
    · rw [si_n qj]; exact hrow j hj
  have hm := (hO.2.2 way hw).2.1
  have e3 : (v_si N R way 1).1 w 3 = N.1 w 3 := by rw [si_c (Ne.symm hRw)]
  have full : ∃ s', fX9_setSame_72 (v_si N R way 1) w R (nI way) (nI fr) (nI s0) (cBits law (N.1 w 3)) (cUnl law num) = rI (nI s') (v_up1 N R (fun j => j = way ∨ (fr ≤ j ∧ j < c ∧ sSame law (N.1 w 3) num (mk j ^^^ mk way) = 1))) ∧ s' + zer (v_up1 N R (fun j => j = way ∨ (fr ≤ j ∧ j < c ∧ sSame law (N.1 w 3) num (mk j ^^^ mk way) = 1))) R c = zer N R c := by
    obtain ⟨s', a, b⟩ := l_ss84 (w := w) (R := R) (law := law) (lo := N.1 w 3) (num := num) (m := mk way) hm hl hR hRw (co := co) (mk := mk) (c - fr) FU fr s0 (v_si N R way 1) (FU_lt (by omega)) (by omega) hO2 hrow2
    have e : v_up1 (v_si N R way 1) R (fun j => fr ≤ j ∧ j < c ∧ sSame law (N.1 w 3) num (mk j ^^^ mk way) = 1) = v_up1 N R (fun j => j = way ∨ (fr ≤ j ∧ j < c ∧ sSame law (N.1 w 3) num (mk j ^^^ mk way) = 1)) := by
      refine up_eq rfl (fun c' h' => si_c h') (fun j => ?_)
      by_cases q1 : fr ≤ j ∧ j < c ∧ sSame law (N.1 w 3) num (mk j ^^^ mk way) = 1
      · rw [up_y q1, up_y (Or.inr q1)]
      · rw [up_n q1]
        by_cases q2 : j = way
        · rw [up_y (Or.inl q2), q2, si_s]
        · rw [up_n (fun z => z.elim q2 q1), si_n q2]
    rw [e] at a b
    refine ⟨s', ?_, by omega⟩
    unfold fX9_setSame_72
    rw [k_markOf hO2 hw, bi_I]
    exact a
  unfold fX9_setSame_35
  rw [hR, if_pos (v_in_nI (by omega) (by decide)), nI_clamp (by omega), v_nz1, e_bits, bi_I, e_unl, bi_I, e3]
  by_cases q1 : cBits law (N.1 w 3) = 1048575
  · rw [if_pos q1]
    by_cases q2 : cUnl law num = 1
    · rw [if_pos q2]
      have only : ∀ j, j < c → sSame law (N.1 w 3) num (mk j ^^^ mk way) = 1 → j = way := by
        intro j hj hsj
        have hk := (hO.2.2 j hj).2.1
        have hx : mk j ^^^ mk way < 2 ^ 20 := Nat.xor_lt_two_pow hk hm
        obtain ⟨v, v1, v2, v3⟩ := c_test1 (lo := N.1 w 3) (ot := num) hx hl
        have h4 := v3.mpr hsj
        rw [q2] at h4
        have h5 : pcn 32 v = 0 := by
          have : ¬ 1 ≤ pcn 32 v := fun z => h4 (nI_le z (by have := pcn_le 32 v; omega))
          omega
        have h6 := (pcn_eq0 32 v (by omega)).mp h5
        rw [q1, h6] at v2
        have h7 : nI (mk j ^^^ mk way) = nI 0 := by
          rw [← v2]
          show _ = nI (mk j ^^^ mk way) &&& nI (2 ^ 20 - 1)
          rw [nx_and, Nat.and_two_pow_sub_one_eq_mod, Nat.mod_eq_of_lt hx]
        have h8 := (nI_eq (by omega) (by decide)).mp h7
        have h9 : mk j = mk way := xor0 h8
        rcases Nat.lt_trichotomy j way with z | z | z
        · exact absurd h9 (hD j way z hw)
        · exact z
        · exact absurd h9.symm (hD way j z hj)
      have e : v_si N R way 1 = v_up1 N R (fun j => j = way ∨ (fr ≤ j ∧ j < c ∧ sSame law (N.1 w 3) num (mk j ^^^ mk way) = 1)) := by
        refine Prod.ext ?_ rfl
        funext a b
        show (if a = R ∧ b = way then (1 : Int32) else N.1 a b) = if a = R ∧ (b = way ∨ (fr ≤ b ∧ b < c ∧ sSame law (N.1 w 3) num (mk b ^^^ mk way) = 1)) then 1 else N.1 a b
        by_cases z : a = R ∧ b = way
        · rw [if_pos z, if_pos ⟨z.1, Or.inl z.2⟩]
        · rw [if_neg z, if_neg]
          rintro ⟨z1, z2⟩
          rcases z2 with z2 | z2
          · exact z ⟨z1, z2⟩
          · exact z ⟨z1, only b z2.2.1 z2.2.2⟩
      refine ⟨s0, ?_, ?_⟩
      · rw [e]
      · rw [← e]
        exact hs0
    · rw [if_neg q2]
      exact full
  · rw [if_neg q1]
    exact full
theorem c_setSame {w R : Nat} {law num : Int32} (hl : law = 0 ∨ law = 1 ∨ law = 2) (hR : (v_LAY R).2.2 = 1458) (hRw : R ≠ w) {c : Nat} {co mk : Nat → Nat} {N : vM} (hO : kOK N w c co mk) (hrow : ∀ j, j < c → N.1 R j = 0 ∨ N.1 R j = 1) (hD : ∀ j k, j < k → k < c → mk j ≠ mk k) {way fr : Nat} (hw : way < c) (hf : fr ≤ c) :
    ∃ s', fX9_setSame N w R law num (nI way) (nI fr) = rI (nI s') (v_up1 N R (fun j => j = way ∨ (fr ≤ j ∧ j < c ∧ sSame law (N.1 w 3) num (mk j ^^^ mk way) = 1))) ∧ s' + zer (v_up1 N R (fun j => j = way ∨ (fr ≤ j ∧ j < c ∧ sSame law (N.1 w 3) num (mk j ^^^ mk way) = 1))) R c = zer N R c := by
  have hc := hO.2.1
  unfold fX9_setSame
  rw [k_has hO hw, bi_I, if_neg (by decide), hR, if_neg (nI_ge (show way < 1458 by omega) (by decide)), if_pos (nI_pos' (by omega)), if_pos (v_in_nI (by omega) (by decide)), nI_clamp (by omega)]
  rcases hrow way hw with q | q
  · rw [if_pos q]
    have z := zer_set (N := N) (R := R) hw q
    exact c_ss35 hl hR hRw hO hrow hD hw hf (s0 := 1) (by omega)
  · rw [if_neg (by rw [q]; decide)]
    have z := zer_si_same (c := c) q
    exact c_ss35 hl hR hRw hO hrow hD hw hf (s0 := 0) (by rw [z]; exact Nat.zero_add _)
end P16
