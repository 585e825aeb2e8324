section P19
variable {M N : vM} {i : Nat}
/-- the same on the class's side; on the reference's -/
def agC (N M : vM) : Prop := (∀ c, c < 130 → N.1 c = M.1 c) ∧ N.2 = M.2
def agR (N M : vM) : Prop := (∀ c, 132 ≤ c → c < 174 → (c < 158 ∨ 166 ≤ c) → N.1 c = M.1 c) ∧ ∀ j, j = 2 ∨ j = 21 ∨ j = 31 ∨ j = 40 ∨ j = 51 ∨ j = 52 → N.1 130 j = M.1 130 j
theorem Rel_ag (h : Rel M) (h1 : ∀ c, c < 130 → N.1 c = M.1 c) (h2 : agR N M) (h3 : N.2.2 = M.2.2) (h4 : ∀ c, 40 ≤ c → c < 130 → N.2.1 c = M.2.1 c) : Rel N := by
  refine Rel_congr h h3 (fun c hc => ?_) h2.2 h4
  by_cases q : c < 130
  · exact h1 c q
  · exact h2.1 c (by omega) (by omega) (by omega)
/-- the memory behind a way that both have done -/
def mNx (M : vM) (i way : Nat) : vM :=
  v_up1 (v_si (v_up1 (mBk M i way (qB M)) (qw i + 8) (fun j => j = way ∨ (0 ≤ j ∧ j < qC M i ∧ sSame (M.1 134 i) (M.1 (qw i) 3) (M.1 135 i) (qmk M i j ^^^ qmk M i way) = 1))) (qw i) 2
    (nI (zer (v_up1 (mBk M i way (qB M)) (qw i + 8) (fun j => j = way ∨ (0 ≤ j ∧ j < qC M i ∧ sSame (M.1 134 i) (M.1 (qw i) 3) (M.1 135 i) (qmk M i j ^^^ qmk M i way) = 1))) (qw i + 8) (qC M i))))
    148 (fun j => 2000 * i ≤ j ∧ j < 2000 * i + qC M i ∧ sSame (M.1 134 i) (M.1 (qw i) 3) (M.1 135 i) (qmk M i (j - 2000 * i) ^^^ qmk M i way) = 1)
theorem mBk_lo {way B c : Nat} (h : c < 130) : (mBk M i way B).1 c = (cEn M i way B).1 c := by
  show (v_si (v_si (v_si (cEn M i way B) 149 B (nI i)) 150 B (nI way)) 130 21 (nI (B + 1))).1 c = _
  rw [si_c (by omega), si_c (by omega), si_c (by omega)]
theorem cEn_o {way B c : Nat} (h : c ≠ 6 ∧ c ≠ 7 ∧ c ≠ 8) : (cEn M i way B).1 c = M.1 c := by
  show (v_si (v_si (v_si M 7 B (nI i)) 8 B (nI way)) 6 0 (nI (B + 1))).1 c = _
  rw [si_c h.1, si_c h.2.2, si_c h.2.1]
theorem Rel_nx (h : Rel M) (hi : i < qW M) {way : Nat} (hw : way < qC M i) (hB : qB M < 400) : Rel (mNx M i way) := by
  have hW : qW M ≤ 6 := h.wks.2.2
  have hq : qw i = 46 + 15 * i := rfl
  have hb := Rel_bk h hi hw hB
  have hwk := h.wk hi
  obtain ⟨-, l2, -⟩ := wkL hwk
  have s0 : sSame (M.1 134 i) (M.1 (qw i) 3) (M.1 135 i) (qmk M i way ^^^ qmk M i way) = 1 := by
    rw [Nat.xor_self]
    exact same0 l2 (wkO hwk)
  generalize hQ : mNx M i way = Q
  have Q1 : ∀ c, c ≠ 148 → c ≠ qw i → c ≠ qw i + 8 → Q.1 c = (mBk M i way (qB M)).1 c := fun c h1 h2 h3 => by
    rw [← hQ]
    show (v_up1 _ 148 _).1 c = _
    rw [up_c h1, si_c h2, up_c h3]
  have Qw : ∀ j, j ≠ 2 → Q.1 (qw i) j = (mBk M i way (qB M)).1 (qw i) j := fun j hj => by
    rw [← hQ]
    show (v_up1 _ 148 _).1 (qw i) j = _
    rw [up_c (by omega), si_n hj, up_c (by omega)]
  have b8 : ∀ a, a < 6 → (mBk M i way (qB M)).1 (qw a + 8) = M.1 (qw a + 8) := fun a ha => by
    have hqa : qw a = 46 + 15 * a := rfl
    rw [mBk_lo (by omega), cEn_o (by omega)]
  have b148 : (mBk M i way (qB M)).1 148 = M.1 148 := by
    show (v_si (v_si (v_si (cEn M i way (qB M)) 149 _ _) 150 _ _) 130 21 _).1 148 = _
    rw [si_c (by decide), si_c (by decide), si_c (by decide), cEn_o (by decide)]
  have Q8 : ∀ k, Q.1 (qw i + 8) k = (v_up1 (mBk M i way (qB M)) (qw i + 8) (fun j => j = way ∨ (0 ≤ j ∧ j < qC M i ∧ sSame (M.1 134 i) (M.1 (qw i) 3) (M.1 135 i) (qmk M i j ^^^ qmk M i way) = 1))).1 (qw i + 8) k := fun k => by
    rw [← hQ]
    show (v_up1 _ 148 _).1 (qw i + 8) k = _
    rw [up_c (by omega), si_c (by omega)]
  have Q148 : ∀ a k, a < 6 → k < 1458 → Q.1 148 (2000 * a + k) = if a = i ∧ k < qC M i ∧ sSame (M.1 134 i) (M.1 (qw i) 3) (M.1 135 i) (qmk M i k ^^^ qmk M i way) = 1 then 1 else M.1 148 (2000 * a + k) := fun a k ha hk => by
    rw [← hQ]
    show (v_up1 _ 148 _).1 148 (2000 * a + k) = _
    by_cases q : a = i ∧ k < qC M i ∧ sSame (M.1 134 i) (M.1 (qw i) 3) (M.1 135 i) (qmk M i k ^^^ qmk M i way) = 1
    · obtain ⟨rfl, q1, q2⟩ := q
      rw [up_y ⟨by omega, by omega, by rw [Nat.add_sub_cancel_left]; exact q2⟩, if_pos ⟨rfl, q1, q2⟩]
    · rw [if_neg q, up_n, si_c (by omega), up_c (by omega), b148]
      rintro ⟨z1, z2, z3⟩
      have hc := (wkC hwk).2.1
      have ea : a = i := by omega
      subst ea
      rw [Nat.add_sub_cancel_left] at z3
      exact q ⟨rfl, by omega, z3⟩
  have spk : ∀ k, k < qC M i → Q.1 (qw i + 8) k = Q.1 148 (2000 * i + k) ∧ (Q.1 148 (2000 * i + k) = 0 ∨ Q.1 148 (2000 * i + k) = 1) := fun k hk => by
    have hc := (wkC hwk).2.1
    rw [Q8, Q148 i k (by omega) (by omega)]
    by_cases q : sSame (M.1 134 i) (M.1 (qw i) 3) (M.1 135 i) (qmk M i k ^^^ qmk M i way) = 1
    · rw [up_y (Or.inr ⟨Nat.zero_le _, hk, q⟩), if_pos ⟨rfl, hk, q⟩]
      exact ⟨rfl, Or.inr rfl⟩
    · have hne : k ≠ way := fun z => q (by rw [z]; exact s0)
      rw [up_n (fun z => z.elim hne (fun z => q z.2.2)), if_neg (fun z => q z.2.2), b8 i (by omega)]
      exact wkS hwk hk
  refine Rel_sp hb (by rw [← hQ]; rfl) (fun c _ _ => by rw [← hQ]; rfl) (fun c hc h1 h2 => Q1 c h2 (h1 i (by omega)).1 (h1 i (by omega)).2) (fun j hj => by rw [Q1 130 (by decide) (by omega) (by omega)]) (fun a ha j hj => ?_) (fun a ha k hk => ?_) (fun a ha => ?_)
  · by_cases q : a = i
    · rw [q]
      exact Qw j hj
    · rw [Q1 (qw a) (by show 46 + 15 * a ≠ 148; have : a < 6 := Nat.lt_of_lt_of_le ha hW; omega) (by show 46 + 15 * a ≠ 46 + 15 * i; omega) (by show 46 + 15 * a ≠ 46 + 15 * i + 8; omega)]
  · have ha6 : a < 6 := Nat.lt_of_lt_of_le ha hW
    have hk2 : k < qC M a := hk
    by_cases q : a = i
    · rw [q] at hk2 ⊢
      exact spk k hk2
    · have hwa := h.wk (show a < qW M from ha)
      have hca := (wkC hwa).2.1
      rw [Q1 (qw a + 8) (by show 46 + 15 * a + 8 ≠ 148; omega) (by show 46 + 15 * a + 8 ≠ 46 + 15 * i; omega) (by show 46 + 15 * a + 8 ≠ 46 + 15 * i + 8; omega), b8 a ha6, Q148 a k ha6 (by omega), if_neg (fun z => q z.1)]
      exact wkS hwa hk2
  · have ha6 : a < 6 := Nat.lt_of_lt_of_le ha hW
    show Q.1 (qw a) 2 = nI (fb_ct (fun k => Q.1 148 (2000 * a + k) = 0) (qC M a))
    by_cases q : a = i
    · rw [q]
      have e2 : Q.1 (qw i) 2 = nI (zer (v_up1 (mBk M i way (qB M)) (qw i + 8) (fun j => j = way ∨ (0 ≤ j ∧ j < qC M i ∧ sSame (M.1 134 i) (M.1 (qw i) 3) (M.1 135 i) (qmk M i j ^^^ qmk M i way) = 1))) (qw i + 8) (qC M i)) := by
        rw [← hQ]
        show (v_up1 _ 148 _).1 (qw i) 2 = _
        rw [up_c (by omega), si_s]
      rw [e2]
      congr 1
      refine fb_ct_cong (fun k hk => ?_)
      show decide _ = decide _
      rw [← Q8, (spk k hk).1]
    · have hwa := h.wk (show a < qW M from ha)
      have hca := (wkC hwa).2.1
      have hqa : qw a = 46 + 15 * a := rfl
      rw [Q1 (qw a) (by omega) (by omega) (by omega), mBk_lo (by omega), cEn_o (by omega)]
      obtain ⟨-, -, -, -, -, -, -, -, -, -, -, -, un⟩ := hwa
      rw [un]
      congr 1
      refine fb_ct_cong (fun k hk => ?_)
      show decide _ = decide _
      rw [Q148 a k ha6 (by omega), if_neg (fun z => q z.1)]
/-- the class's side of it -/
theorem c_do (h : Rel M) (hi : i < qW M) {way : Nat} (hw : way < qC M i) (hB : qB M < 400) (ha : agC N M) : ∃ N1 N2, fX1_enter N 6 (nI i) (nI way) = rV N1 ∧ fX9_spendLike N1 (qw i) (nI way) = rV N2 ∧ agC N2 (mNx M i way) ∧ ∀ c, 130 ≤ c → N2.1 c = N.1 c := by
  have hW : qW M ≤ 6 := h.wks.2.2
  have hq : qw i = 46 + 15 * i := rfl
  have hP := (qp_P h.pl.1 (show i < 6 by omega)).1
  have hb := h.B1
  have n6 : N.1 6 0 = nI (qB M) := by rw [ha.1 6 (by decide)]; exact hb.2.2
  have e1 : fX1_enter N 6 (nI i) (nI way) = rV (cEn N i way (qB M)) := by
    unfold fX1_enter
    rw [n6, show 6 + 1 = 7 from rfl, e_put (len := 400) rfl hB (by decide), bv_V, show (v_si N 7 (qB M) (nI i)).1 6 0 = nI (qB M) from by rw [si_c (by decide), n6], show 6 + 2 = 8 from rfl, e_put (len := 400) rfl hB (by decide), bv_V, show (v_si (v_si N 7 (qB M) (nI i)) 8 (qB M) (nI way)).1 6 0 = nI (qB M) from by rw [si_c (by decide), si_c (by decide), n6], nI_1]
    rfl
  have en : ∀ c, c < 130 → (cEn N i way (qB M)).1 c = (mBk M i way (qB M)).1 c := fun c hc => by
    rw [mBk_lo hc]
    exact si_g (si_g (si_g (ha.1 c hc)))
  obtain ⟨z, hz, e2⟩ := c_spendLike (N := cEn N i way (qB M)) (h.wk hi) (by omega) hw (fun c h1 h2 => by rw [cEn_o (by omega)]; exact ha.1 c (by omega)) (by show N.2 = M.2; exact ha.2) hP
  refine ⟨_, _, e1, e2, ⟨fun c hc => ?_, ?_⟩, fun c hc => ?_⟩
  · unfold mNx
    rw [up_c (by omega)]
    have eu : ∀ c, c < 130 → (v_up1 (cEn N i way (qB M)) (qw i + 8) (fun j => j = way ∨ (0 ≤ j ∧ j < qC M i ∧ sSame (M.1 134 i) (M.1 (qw i) 3) (M.1 135 i) (qmk M i j ^^^ qmk M i way) = 1))).1 c = (v_up1 (mBk M i way (qB M)) (qw i + 8) (fun j => j = way ∨ (0 ≤ j ∧ j < qC M i ∧ sSame (M.1 134 i) (M.1 (qw i) 3) (M.1 135 i) (qmk M i j ^^^ qmk M i way) = 1))).1 c := fun c hc => by
      funext j
      show (if c = qw i + 8 ∧ _ then 1 else (cEn N i way (qB M)).1 c j) = if c = qw i + 8 ∧ _ then 1 else (mBk M i way (qB M)).1 c j
      rw [en c hc]
    have ez : z = zer (v_up1 (mBk M i way (qB M)) (qw i + 8) (fun j => j = way ∨ (0 ≤ j ∧ j < qC M i ∧ sSame (M.1 134 i) (M.1 (qw i) 3) (M.1 135 i) (qmk M i j ^^^ qmk M i way) = 1))) (qw i + 8) (qC M i) := by
      rw [hz]
      unfold zer
      rw [eu (qw i + 8) (by omega)]
    rw [ez]
    exact si_g (eu c hc)
  · show N.2 = M.2
    exact ha.2
  · rw [si_c (by omega), up_c (by omega), cEn_o (by omega)]
/-- the reference's -/
theorem r_do (h : Rel M) (hi : i < qW M) {way : Nat} (hw : way < qC M i) (hB : qB M < 400) (hs : M.1 148 (2000 * i + way) = 0) (ha : agR N M) : ∃ N2, fX11_enter N (nI i) (nI way) = rI 1 N2 ∧ agR N2 (mNx M i way) ∧ N2.2 = N.2 ∧ (∀ c, c < 130 ∨ 158 ≤ c → N2.1 c = N.1 c) ∧ ∀ j, j ≠ 21 → N2.1 130 j = N.1 130 j := by
  have hW : qW M ≤ 6 := h.wks.2.2
  have hq : qw i = 46 + 15 * i := rfl
  have e := r_enter (N := N) h hi hw hB hs (fun c h1 h2 => ha.1 c h1 (by omega) (Or.inl h2)) (ha.2 21 (by omega))
  refine ⟨_, e, ⟨fun c h1 h2 h3 => ?_, fun j hj => ?_⟩, rfl, fun c hc => ?_, fun j hj => ?_⟩
  · have er : (rEn N i way (qB M)).1 c = (mBk M i way (qB M)).1 c := by
      refine si_g (si_g (si_g ?_))
      rw [show v_si (v_si (v_si M 7 (qB M) (nI i)) 8 (qB M) (nI way)) 6 0 (nI (qB M + 1)) = cEn M i way (qB M) from rfl, cEn_o (by omega)]
      exact ha.1 c h1 h2 h3
    funext j
    show (if c = 148 ∧ _ then 1 else (rEn N i way (qB M)).1 c j) = if c = 148 ∧ _ then 1 else (v_si (v_up1 (mBk M i way (qB M)) (qw i + 8) _) (qw i) 2 _).1 c j
    rw [er, si_c (by omega), up_c (by omega)]
  · rw [up_c (by decide)]
    unfold mNx
    rw [up_c (by decide), si_c (by omega), up_c (by omega)]
    refine si_gj (si_gj (si_gj ?_))
    rw [show v_si (v_si (v_si M 7 (qB M) (nI i)) 8 (qB M) (nI way)) 6 0 (nI (qB M + 1)) = cEn M i way (qB M) from rfl, cEn_o (by decide)]
    exact ha.2 j hj
  · rw [up_c (by omega)]
    show (v_si (v_si (v_si N 149 _ _) 150 _ _) 130 21 _).1 c = _
    rw [si_c (by omega), si_c (by omega), si_c (by omega)]
  · rw [up_c (by decide)]
    show (v_si (v_si (v_si N 149 _ _) 150 _ _) 130 21 _).1 130 j = _
    rw [si_n hj, si_c (by decide), si_c (by decide)]
end P19
