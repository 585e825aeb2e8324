section P64
variable {M N S : vM} {k : Nat}
theorem pC_o {c : Nat} (h : c ≠ 3) : (pCm M k).1 c = M.1 c := by
  unfold pCm
  rw [si_c h, si_c h, si_c h, si_c h]
theorem pR_o {c : Nat} (h : c ≠ 130) : (pRm S k).1 c = S.1 c := by
  unfold pRm
  rw [si_c h, si_c h, si_c h, si_c h, si_c h, si_c h, si_c h]
theorem pR_n {j : Nat} (h : j ≠ 1 ∧ j ≠ 31 ∧ j ≠ 33 ∧ j ≠ 32 ∧ j ≠ 38 ∧ j ≠ 40 ∧ j ≠ 3) : (pRm S k).1 130 j = S.1 130 j := by
  unfold pRm
  rw [si_n h.2.2.2.2.2.2, si_n h.2.2.2.2.2.1, si_n h.2.2.2.2.1, si_n h.2.2.2.1, si_n h.2.2.1, si_n h.2.1, si_n h.1]
theorem pR_1 : (pRm S k).1 130 1 = 0 := by
  unfold pRm
  rw [si_n (by decide), si_n (by decide), si_n (by decide), si_n (by decide), si_n (by decide), si_n (by decide), si_s]
theorem pR_31 : (pRm S k).1 130 31 = 0 := by
  unfold pRm
  rw [si_n (by decide), si_n (by decide), si_n (by decide), si_n (by decide), si_n (by decide), si_s]
theorem pR_40 : (pRm S k).1 130 40 = -1 := by
  unfold pRm
  rw [si_n (by decide), si_s]
theorem sp_pC (a : Nat) : sp (pCm M k) a = sp M a := rfl
/-- a cell that no spare plan lies in -/
theorem spare_o (h : rPl M) {c : Nat} (hc : c < 40 ∨ 130 ≤ c) {a : Nat} (ha : a < 6) : c < sp M a ∨ sp M a + 5 < c := by
  have := v_isP_b (sp_P h.1 ha).1
  omega
theorem town_r (h1 : S.1 130 31 = nI (qN (S.1 130 31))) (h2 : qN (S.1 130 31) ≤ 700) (hk : k ≤ qN (S.1 130 31)) : fX11_town S (nI k) = bv (fX11_stepOn (pRm S k)) fun M31 => fX11_town_57 FU M31 := by
  unfold fX11_town
  rw [if_neg (nI_pos (by omega)), si_n (by decide), h1, if_pos (nI_le hk (by omega))]
  rfl
/-- a text with a fault -/
theorem town_bad (h : Rel M) (hk : k ≤ qN (M.1 130 31)) {Nf S1 : vM} (r1 : fX4_readTown M (nI k) = rI (Nf.1 3 7) Nf) (r2 : endR (pCm M k) (pRm M k) Nf S1) (hb : bd Nf S1) : okS (fun K => gWr (fL_town M (nI k)) (fun M1 => fX11_town M1 (nI k)) K) := by
  obtain ⟨t1, t2, t3, t4⟩ := h.tape
  obtain ⟨kk, e, b1, b2, b3, b4, b5, b6⟩ := hb
  obtain ⟨f1, f2⟩ := r2.1
  have hsp := h.pl
  have nC : ∀ c, c ≠ 3 → (c < 40 ∨ 130 ≤ c) → Nf.1 c = M.1 c := fun c i1 i2 => by
    rw [f2 c i1 (fun a ha => spare_o hsp i2 ha), pC_o i1]
  have n14 : Nf.1 14 0 = M.1 14 0 := by rw [nC 14 (by decide) (by decide)]
  have l0 : M.1 14 0 = M.1 156 0 := h.led.2.2.2.2.2 0 (by decide)
  generalize hA : v_si (v_si (v_si Nf 1 1 0) 0 13 (nI e)) 14 0 (M.1 14 0 + 1) = A
  have eC : fX10_town M (nI k) = rI (nI kk) A := by
    unfold fX10_town
    rw [if_neg (nI_pos (by omega)), t3, t2, if_pos (nI_le hk (by omega)), r1, bi_I, b3, if_neg (nI_ne0 (by omega) (by omega)), si_c (show (3 : Nat) ≠ 1 by decide), b5, show fX1_refuse (v_si (v_si Nf 1 1 0) 0 13 (nI e)) 6 0 = rV (v_si (v_si (v_si Nf 1 1 0) 0 13 (nI e)) 14 0 ((v_si (v_si Nf 1 1 0) 0 13 (nI e)).1 14 0 + 1)) from c_refuse (k := 0) (by decide), bv_V, si_c (by decide), si_c (by decide), n14, hA]
  have aC : ∀ c, c ≠ 0 → c ≠ 1 → c ≠ 14 → A.1 c = Nf.1 c := fun c i1 i2 i3 => by rw [← hA, si_c i3, si_c i1, si_c i2]
  generalize hS : v_sl A 174 0 (nI kk).toInt64 = S
  have sA : ∀ c, S.1 c = A.1 c := fun c => by rw [← hS]; rfl
  obtain ⟨N2, S2, x1, x2, x3, x4, x5⟩ := rd_run (S := S) h hk (by rw [sA, aC 157 (by decide) (by decide) (by decide), nC 157 (by decide) (by decide)])
  have eN := (rI_inj (r1.symm.trans x1)).2
  subst eN
  have hb2 : bd Nf S2 := by
    rcases x5 with ⟨w', -, y1, -⟩ | y
    · rw [b3] at y1
      exact absurd y1 (nI_ne0 (by omega) (by omega))
    · exact y
  obtain ⟨kk', e', -, -, z3, z4, z5, z6⟩ := hb2
  rw [b3] at z3
  rw [b5] at z5
  rw [← z3] at z4
  rw [← z5] at z6
  have s130 : ∀ j, j ≠ 3 → (j < 32 ∨ 39 < j) → S2.1 130 j = (pRm S k).1 130 j := fun j i1 i2 => x4.2.2 j i1 i2
  have sC : ∀ c, c ≠ 130 → (c < 132 ∨ 145 ≤ c) → S2.1 c = A.1 c := fun c i1 i2 => by
    funext j
    rw [x4.2.1 c j i1 (fun a ha => by unfold rwQ; omega), pR_o i1, sA]
  have s156 : S2.1 156 0 = M.1 156 0 := by rw [sC 156 (by decide) (by decide), aC 156 (by decide) (by decide) (by decide), nC 156 (by decide) (by decide)]
  have eR : fX11_town S (nI k) = rI (nI kk) (v_si (v_si S2 130 40 (nI e)) 156 0 (M.1 156 0 + 1)) := by
    have c31 : S.1 130 31 = M.1 130 31 := by rw [sA, aC 130 (by decide) (by decide) (by decide), nC 130 (by decide) (by decide)]
    rw [town_r (by rw [c31]; exact t2) (by rw [c31]; exact t1) (by rw [c31]; exact hk), x2]
    unfold fX11_town_78
    rw [z4, if_neg (nI_ne0 (by omega) (by omega)), if_pos (show v_in 0 4 = true by decide), if_pos (show v_in 0 4 = true by decide), z6, show Int32.toNatClampNeg 0 = 0 by decide, si_c (show (156 : Nat) ≠ 130 by decide), s156, si_c (show (130 : Nat) ≠ 156 by decide), si_n (by decide), z4]
  generalize hU : v_si (v_si S2 130 40 (nI e)) 156 0 (M.1 156 0 + 1) = U at eR
  -- the same memory by another road
  generalize hX : v_si (v_si U 14 0 (M.1 14 0)) 156 0 (M.1 156 0) = X
  have hRX : Rel X := by
    have xC : ∀ c, c ≠ 130 → (c < 132 ∨ 145 ≤ c) → ∀ j, X.1 c j = if c = 1 ∧ j = 1 then 0 else if c = 0 ∧ j = 13 then nI e else Nf.1 c j := fun c i1 i2 j => by
      rw [← hX, ← hU]
      show (if c = 156 ∧ j = 0 then M.1 156 0 else if c = 14 ∧ j = 0 then M.1 14 0 else if c = 156 ∧ j = 0 then M.1 156 0 + 1 else if c = 130 ∧ j = 40 then nI e else S2.1 c j) = _
      rw [sC c i1 i2, ← hA]
      show _ = _
      by_cases g1 : c = 156 ∧ j = 0
      · rw [if_pos g1, if_neg (by omega), if_neg (by omega), g1.1, g1.2, nC 156 (by decide) (by decide)]
      · rw [if_neg g1]
        by_cases g2 : c = 14 ∧ j = 0
        · rw [if_pos g2, if_neg (by omega), if_neg (by omega), g2.1, g2.2, n14]
        · rw [if_neg g2, if_neg g1, if_neg (show ¬ (c = 130 ∧ j = 40) by omega)]
          show (if c = 14 ∧ j = 0 then M.1 14 0 + 1 else if c = 0 ∧ j = 13 then nI e else if c = 1 ∧ j = 1 then 0 else Nf.1 c j) = _
          rw [if_neg g2]
          by_cases g3 : c = 0 ∧ j = 13
          · rw [if_pos g3, if_neg (by omega), if_pos g3]
          · rw [if_neg g3, if_neg g3]
    have x130 : ∀ j, j ≠ 3 → (j < 32 ∨ 39 < j) → j ≠ 40 → X.1 130 j = (pRm S k).1 130 j := fun j i1 i2 i3 => by
      rw [← hX, ← hU, si_c (by decide), si_c (by decide), si_c (by decide), si_n i3, s130 j i1 i2]
    have sM : ∀ j, S.1 130 j = M.1 130 j := fun j => by rw [sA, aC 130 (by decide) (by decide) (by decide), nC 130 (by decide) (by decide)]
    have e2 : X.2.2 = M.2.2 := by
      rw [← hX, ← hU]
      show S2.2.2 = _
      rw [x4.1, ← hS]
      show A.2.2 = _
      rw [← hA]
      show Nf.2.2 = _
      rw [f1]
      rfl
    refine Rel_town0 h e2 (fun c i1 i2 => ?_) (fun c i1 => ?_) (fun c i1 i2 i3 => ?_) (fun c j i1 i2 i3 => ?_) (fun j hj => ?_) (fun j hj => ?_) ?_ ?_ ?_
    · rw [← hX, ← hU]
      show S2.2.1 c = _
      rw [x4.1, ← hS]
      show (v_sl A 174 0 _).2.1 c = _
      rw [sl_c (by omega), ← hA]
      show Nf.2.1 c = _
      rw [f1]
      rfl
    · funext j
      rw [xC c (by omega) (by omega), if_neg (by omega), if_neg (by omega), nC c (by omega) (by omega)]
    · funext j
      rw [xC c (by omega) (by omega), if_neg (by omega), if_neg (by omega), f2 c (by omega) i3, pC_o (by omega)]
    · rw [← hX, ← hU, si_c (by omega), si_c (by omega), si_c (by omega), si_c (by omega), x4.2.1 c j (by omega) i3, pR_o (by omega), sA, aC c (by omega) (by omega) (by omega), nC c (by omega) (by omega)]
    · rw [xC 0 (by decide) (by decide), if_neg (by omega), if_neg (by omega), nC 0 (by decide) (by decide)]
    · rw [x130 j (by omega) (by omega) (by omega), pR_n (by omega), sM]
    · rw [xC 0 (by decide) (by decide), if_neg (by decide), if_pos ⟨rfl, rfl⟩, ← hX, ← hU, si_c (by decide), si_c (by decide), si_c (by decide), si_s]
    · rw [xC 1 (by decide) (by decide), if_pos ⟨rfl, rfl⟩]
    · rw [x130 31 (by decide) (by decide) (by decide), pR_31]
  have eU : U = v_si (v_si X 14 0 (M.1 14 0 + 1)) 156 0 (M.1 14 0 + 1) := by
    have u14 : U.1 14 0 = M.1 14 0 + 1 := by rw [← hU, si_c (by decide), si_c (by decide), sC 14 (by decide) (by decide), ← hA, si_s]
    have u156 : U.1 156 0 = M.1 14 0 + 1 := by rw [← hU, si_s, l0]
    refine Prod.ext ?_ (by rw [← hX]; rfl)
    funext c j
    show U.1 c j = (if c = 156 ∧ j = 0 then M.1 14 0 + 1 else if c = 14 ∧ j = 0 then M.1 14 0 + 1 else X.1 c j)
    rw [← hX]
    show _ = (if c = 156 ∧ j = 0 then M.1 14 0 + 1 else if c = 14 ∧ j = 0 then M.1 14 0 + 1 else if c = 156 ∧ j = 0 then M.1 156 0 else if c = 14 ∧ j = 0 then M.1 14 0 else U.1 c j)
    by_cases g1 : c = 156 ∧ j = 0
    · rw [if_pos g1, g1.1, g1.2, u156]
    · by_cases g2 : c = 14 ∧ j = 0
      · rw [if_neg g1, if_pos g2, g2.1, g2.2, u14]
      · rw [if_neg g1, if_neg g2, if_neg g1, if_neg g2]
  refine ⟨U, ?_, fun K => gWr_val (z := nI kk) (M1 := A) (M2 := U) eC (by rw [hS]; exact eR) ?_ ?_⟩
  · rw [eU]
    exact Rel_ref hRX
  · rw [← hU, si_c (by decide), si_n (by decide), s130 1 (by decide) (by decide), pR_1]
  · rw [← hU]
    show S2.2.1 174 0 = _
    rw [x4.1]
    show S.2.1 174 0 = _
    rw [← hS, sl_s]
end P64
