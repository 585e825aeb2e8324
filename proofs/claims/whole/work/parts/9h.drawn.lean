section P59
variable {M N S V : vM} {i : Nat}
theorem rnd_eq (x : Int32) : ((x.toUInt32 >>> (Int32.toUInt32 16 &&& Int32.toUInt32 31)).toInt32) &&& 32767 = (x >>> ((16 : Int32) &&& 31)) &&& 32767 := by
  refine b_ext (fun k hk => ?_)
  rw [b_and, b_and, show bt ((x.toUInt32 >>> (Int32.toUInt32 16 &&& Int32.toUInt32 31)).toInt32) k = bt x (16 + k) from b_ushr 16 (by omega) x k, show bt (x >>> ((16 : Int32) &&& 31)) k = if 16 + k < 32 then bt x (16 + k) else bt x 31 from b_sshr 16 (by omega) x hk]
  by_cases q : 16 + k < 32
  · rw [if_pos q]
  · rw [show bt 32767 k = false from (bt_n (x := 32767) hk).trans (Nat.testBit_lt_two_pow (Nat.lt_of_lt_of_le (show 32767 < 2 ^ 15 by decide) (Nat.pow_le_pow_right (by decide) (by omega)))), Bool.and_false, Bool.and_false]
theorem a_kOK (h : rWk V i) (hi : i < 6) (ha : agC N V) : kOK N (qw i) (qC V i) (qco V i) (qmk V i) :=
  kOK_of h (by rw [ha.1 (qw i) (by show 46 + 15 * i < 130; omega)]) (by rw [ha.2])
theorem a_isSp (h : rWk V i) (hi : i < 6) (ha : agC N V) {k : Nat} (hk : k < qC V i) : fX9_isSpent N (qw i) (nI k) = rI (V.1 148 (2000 * i + k)) N := by
  obtain ⟨s1, s2⟩ := wkS h hk
  have hc := (wkC h).2.1
  unfold fX9_isSpent
  rw [k_has (a_kOK h hi ha) hk, bi_I, if_neg (by decide), if_pos (v_in_nI (by omega) (by decide)), nI_clamp (by omega), ha.1 (qw i + 8) (by show 46 + 15 * i + 8 < 130; omega), s1]
  rcases s2 with s | s
  · rw [if_pos s, s]
  · rw [s, if_neg (by decide)]
theorem a_nx (h : rWk V i) (hi : i < 6) (ha : agC N V) : ∀ (n f k : Nat), n < f → k + n = qC V i → fX9_nextUnspent_10 f N (qw i) (nI k) = rI (fndF (fun k => V.1 148 (2000 * i + k) = 0) n k) N := by
  have hc := wkC h
  have hN : N.1 (qw i) 1 = nI (qC V i) := by rw [ha.1 (qw i) (by show 46 + 15 * i < 130; omega)]; exact hc.1
  intro n
  induction n with
  | zero =>
    intro f k hf hk
    cases f with
    | zero => exact absurd hf (Nat.not_lt_zero _)
    | succ f =>
      unfold fX9_nextUnspent_10
      rw [hN, if_pos (nI_le (by omega) (by omega))]
      rfl
  | succ n ih =>
    intro f k hf hk
    cases f with
    | zero => exact absurd hf (Nat.not_lt_zero _)
    | succ f =>
      unfold fX9_nextUnspent_10 fndF
      rw [hN, if_neg (nI_ge (by omega) (by omega)), a_isSp h hi ha (by omega), bi_I]
      by_cases q : V.1 148 (2000 * i + k) = 0
      · rw [if_pos q, if_pos q]
      · rw [if_neg q, if_neg q, nI_1, ih f (k + 1) (by omega) (by omega)]
theorem a_nx0 (h : rWk V i) (hi : i < 6) (ha : agC N V) : fX9_nextUnspent N (qw i) 0 = rI (atL (uL V.1 i) 0) N := by
  have hc := (wkC h).2.1
  unfold fX9_nextUnspent
  rw [if_pos (by decide), ← nI_0, a_nx h hi ha (qC V i) FU 0 (FU_lt (by omega)) (Nat.zero_add _), fnd_at]
  rfl
theorem a_l5 (h : rWk V i) (hi : i < 6) (ha : agR S V) (x : Int32) : ∀ (n f k s : Nat), n < f → k + n = qC V i → fX11_leftAt_5 f S (nI i) x (nI s) (nI k) = rI (nthF (fun k => V.1 148 (2000 * i + k) = 0) x n k s) S := by
  have hc := wkC h
  have h1 : S.1 145 i = nI (qC V i) := by rw [ha.1 145 (by decide) (by decide) (by decide)]; exact hc.2.2
  intro n
  induction n with
  | zero =>
    intro f k s hf hk
    cases f with
    | zero => exact absurd hf (Nat.not_lt_zero _)
    | succ f =>
      unfold fX11_leftAt_5
      rw [if_pos (v_in_nI hi (by decide)), nI_clamp (by omega), h1, if_pos (nI_le (by omega) (by omega))]
      rfl
  | succ n ih =>
    intro f k s hf hk
    cases f with
    | zero => exact absurd hf (Nat.not_lt_zero _)
    | succ f =>
      unfold fX11_leftAt_5 nthF
      rw [if_pos (v_in_nI hi (by decide)), nI_clamp (by omega), h1, if_neg (nI_ge (by omega) (by omega)), e_ix, if_pos (r_in hi (by omega)), nI_clamp (by omega), ha.1 148 (by decide) (by decide) (by decide)]
      by_cases q : V.1 148 (2000 * i + k) = 0
      · rw [if_pos q, if_pos q]
        by_cases q2 : nI s = x
        · rw [if_pos q2, if_pos q2]
        · rw [if_neg q2, if_neg q2, nI_1, nI_1, ih f (k + 1) (s + 1) (by omega) (by omega)]
      · rw [if_neg q, if_neg q, nI_1, ih f (k + 1) s (by omega) (by omega)]
theorem a_left (h : rWk V i) (hi : i < 6) (ha : agR S V) : fX11_leftAt S (nI i) 0 = rI (atL (uL V.1 i) 0) S := by
  have hc := (wkC h).2.1
  have e := a_l5 h hi ha 0 (qC V i) FU 0 0 (FU_lt (by omega)) (by omega)
  rw [← sLeft_at (A := V.1) (i := i) (r := 0) (by decide)]
  exact e
theorem mNx_o {way c : Nat} (hw : i < 6) (hc : c = 146 ∨ 132 ≤ c ∧ c < 148) : (mNx V i way).1 c = V.1 c := by
  have hq : qw i = 46 + 15 * i := rfl
  unfold mNx
  rw [up_c (by omega), si_c (by omega), up_c (by omega)]
  show (v_si (v_si (v_si (cEn V i way (qB V)) 149 _ _) 150 _ _) 130 21 _).1 c = _
  rw [si_c (by omega), si_c (by omega), si_c (by omega), cEn_o (by omega)]
theorem mNx_q {way : Nat} (hw : i < 6) : qW (mNx V i way) = qW V := by
  have hq : qw i = 46 + 15 * i := rfl
  unfold qW mNx
  rw [up_c (by omega), si_c (by omega), up_c (by omega)]
  show qN ((v_si (v_si (v_si (cEn V i way (qB V)) 149 _ _) 150 _ _) 130 21 _).1 130 2) = _
  rw [si_n (by decide), si_c (by omega), si_c (by omega), cEn_o (by omega)]
theorem dr_step (h : Rel V) (hi : i < qW V) (ha : agC N V) : ∃ y N' V', fX10_doCheapest N (nI i) = rI y N' ∧ Rel V' ∧ qW V' = qW V ∧ agC N' V' ∧ (∀ c, 130 ≤ c → N'.1 c = N.1 c) ∧ ∀ S, agR S V →
    (y = -1 ∧ (fX11_leftAt S (nI i) 0 = rI (-1) S ∨ ∃ w, fX11_leftAt S (nI i) 0 = rI (nI w) S ∧ ¬ nI w = -1 ∧ fX11_enter S (nI i) (nI w) = rI 0 S) ∧ agR S V') ∨
    (¬ y = -1 ∧ ∃ w S', fX11_leftAt S (nI i) 0 = rI (nI w) S ∧ ¬ nI w = -1 ∧ w < 2000 ∧ fX11_enter S (nI i) (nI w) = rI 1 S' ∧ S'.1 146 (2000 * i + w) = y ∧ agR S' V' ∧ S'.2 = S.2 ∧ (∀ c, c < 130 ∨ 158 ≤ c → S'.1 c = S.1 c) ∧ ∀ j, j ≠ 21 → S'.1 130 j = S.1 130 j) := by
  have h6 : i < 6 := by have := h.W1.2.1; omega
  have hwk := h.wk hi
  have hq : qw i = 46 + 15 * i := rfl
  have eW : fX10_workOf N (nI i) = rR (qw i) N := e_workOf (by rw [ha.1 0 (by decide)]; exact h.W1.2.2) h.W1.2.1 hi
  have eN := a_nx0 hwk h6 ha
  by_cases q : (uL V.1 i).length = 0
  · rw [atL_out (by omega)] at eN
    refine ⟨-1, N, V, ?_, h, rfl, ha, fun _ _ => rfl, fun S hS => Or.inl ⟨rfl, Or.inl ?_, hS⟩⟩
    · unfold fX10_doCheapest
      rw [eW, br_R, eN, bi_I, if_pos rfl]
    · rw [a_left hwk h6 hS, atL_out (by omega)]
  · have e1 : atL (uL V.1 i) 0 = nI ((uL V.1 i).getD 0 0) := if_pos (by omega)
    have hmem := uL_mem (getD_mem (uL V.1 i) 0 0 (by omega))
    have hne := atL_ne (l := uL V.1 i) (r := 0) (by omega) (uL_2000 hwk)
    rw [e1] at eN hne
    generalize (uL V.1 i).getD 0 0 = w at e1 hmem eN hne
    have hwC : w < qC V i := hmem.1
    have hC := (wkC hwk).2.1
    have hB := h.B1
    have eF : fX1_bookIsFull N 6 = rI (if qB V < 400 then 0 else 1) N := c_full (by rw [ha.1 6 (by decide)]; exact hB.2.2) hB.2.1
    by_cases qf : qB V < 400
    · rw [if_pos qf] at eF
      obtain ⟨N1, N2, n1, n2, n3, n4⟩ := c_do h hi hwC qf ha
      have kO : kOK N2 (qw i) (qC V i) (qco V i) (qmk V i) := kOK_of hwk (by
        rw [n3.1 (qw i) (by omega)]
        unfold mNx
        rw [up_c (by omega), si_n (by decide), up_c (by omega), mBk_lo (by omega), cEn_o (by omega)]) (by rw [n3.2]; rfl)
      have eV : V.1 146 (2000 * i + w) = nI (qco V i w) := (wkW hwk hwC).1
      have hv := (wkW hwk hwC).2.1
      refine ⟨nI (qco V i w), N2, mNx V i w, ?_, Rel_nx h hi hwC qf, mNx_q h6, n3, n4, fun S hS => Or.inr ⟨nI_ne1 (by omega), ?_⟩⟩
      · unfold fX10_doCheapest
        rw [eW, br_R, eN, bi_I, if_neg hne, eF, bi_I, if_pos rfl, n1, bv_V, n2, bv_V, k_costOf kO hwC, bi_I]
      · obtain ⟨S', s1, s2, s3, s4, s5⟩ := r_do h hi hwC qf hmem.2 hS
        refine ⟨w, S', by rw [a_left hwk h6 hS, e1], hne, by omega, s1, ?_, s2, s3, s4, s5⟩
        rw [s2.1 146 (by decide) (by decide) (by decide), mNx_o h6 (Or.inl rfl), eV]
    · rw [if_neg qf] at eF
      refine ⟨-1, N, V, ?_, h, rfl, ha, fun _ _ => rfl, fun S hS => Or.inl ⟨rfl, Or.inr ⟨w, by rw [a_left hwk h6 hS, e1], hne, ?_⟩, hS⟩⟩
      · unfold fX10_doCheapest
        rw [eW, br_R, eN, bi_I, if_neg hne, eF, bi_I, if_neg (by decide)]
      · unfold fX11_enter
        rw [hS.2 21 (by omega), hB.1, show qB V = 400 by have := hB.2.1; omega, if_pos (show nI 400 = 400 from rfl)]
end P59
