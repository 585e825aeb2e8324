section P65
variable {M N S : vM} {k : Nat}
theorem town_good (h : Rel M) (hk : k ≤ qN (M.1 130 31)) {Nf S1 : vM} {w : Nat} (r1 : fX4_readTown M (nI k) = rI (Nf.1 3 7) Nf) (r2 : frS (pCm M k) Nf) (hw : w ≤ 6) (g7 : Nf.1 3 7 = 0) (g8 : Nf.1 3 8 = nI w) (gE : ∀ a, a < w → plE Nf S1 (sp (pCm M k) a) (6 + a)) : okS (fun K => gWr (fL_town M (nI k)) (fun M1 => fX11_town M1 (nI k)) K) := by
  obtain ⟨t1, t2, t3, t4⟩ := h.tape
  obtain ⟨f1, f2⟩ := r2
  have hsp := h.pl
  have nC : ∀ c, c ≠ 3 → (c < 40 ∨ 130 ≤ c) → Nf.1 c = M.1 c := fun c i1 i2 => by
    rw [f2 c i1 (fun a ha => spare_o hsp i2 ha), pC_o i1]
  generalize hA1 : v_si (v_si (v_si Nf 1 1 0) 0 13 (-1)) 0 12 (nI w) = A1
  have a1C : ∀ c, c ≠ 0 → c ≠ 1 → A1.1 c = Nf.1 c := fun c i1 i2 => by rw [← hA1, si_c i1, si_c i1, si_c i2]
  have a1r : A1.2.2 = M.2.2 := by
    rw [← hA1]
    show Nf.2.2 = _
    rw [f1]
    rfl
  have a1l : A1.2.1 = M.2.1 := by
    rw [← hA1]
    show Nf.2.1 = _
    rw [f1]
    rfl
  have spA : ∀ a, sp A1 a = sp M a := fun a => by unfold sp; rw [a1r]
  have hrA : rPl A1 := rPl_congr hsp a1r
  have plA : ∀ a, a < 6 → ∀ c, sp M a ≤ c → c ≤ sp M a + 5 → A1.1 c = Nf.1 c := fun a ha c i1 i2 => by
    have := v_isP_b (sp_P hsp.1 ha).1
    exact a1C c (by omega) (by omega)
  obtain ⟨N2, c1, c2⟩ := c_settle (A := A1) (w := w) (by rw [← hA1, si_s]) hw hrA (fun a ha => by
    obtain ⟨kd, z, lw, ot, m, nr, fr, F, T, C, Kd, A, B, hX⟩ := gE a ha
    rw [sp_pC] at hX
    refine ⟨kd, z, m, nr, fr, F, T, C, Kd, A, B, hX.1, ?_⟩
    rw [spA]
    exact plC_c hX.2.1 (plA a (by omega))) w FU 0 A1 (FU_lt (by omega)) (Nat.zero_add w) ⟨hrA, fun _ _ => rfl, fun _ _ => rfl, fun _ _ _ => ⟨rfl, rfl⟩, fun a ha => absurd ha (Nat.not_lt_zero _), fun a ha => absurd ha (Nat.not_lt_zero _)⟩
  obtain ⟨j1, j2, j3, j4, j5, j6⟩ := c2
  obtain ⟨N3, d1, d2, d3, d4, d5, d6⟩ := c_clear (N := N2)
  generalize hA : v_si N3 0 14 0 = A
  have eC : fX10_town M (nI k) = rI 0 A := by
    unfold fX10_town
    rw [if_neg (nI_pos (by omega)), t3, t2, if_pos (nI_le hk (by omega)), r1, bi_I, g7, if_pos rfl, si_c (show (3 : Nat) ≠ 0 by decide), si_c (show (3 : Nat) ≠ 1 by decide), g8]
    unfold fX10_settleTown
    rw [if_neg (show ¬ (6 : Int32) < nI w from nI_nlt hw (by decide)), hA1, show fX10_settleTown_12 FU A1 0 = _ from c1, d1, bv_V, bv_V, hA]
  have lowq : ∀ c, c < 46 ∨ 130 ≤ c → ∀ a, a < w → c ≠ qw a ∧ c ≠ qw a + 8 := fun c hc a ha => by
    show c ≠ 46 + 15 * a ∧ c ≠ 46 + 15 * a + 8
    omega
  have aC : ∀ c, c ≠ 0 → c ≠ 6 → c ≠ 9 → c ≠ 11 → c ≠ 13 → A.1 c = N2.1 c := fun c i0 i1 i2 i3 i4 => by rw [← hA, si_c i0, d3 c i1 i2 i3 i4]
  have aM : ∀ c, 1 < c → c ≠ 3 → c ≠ 6 → c ≠ 9 → c ≠ 11 → c ≠ 13 → (c < 40 ∨ 130 ≤ c) → A.1 c = M.1 c := fun c i0 i1 i2 i3 i4 i5 i6 => by
    rw [aC c (by omega) i2 i3 i4 i5, j2 c (lowq c (by omega)), a1C c (by omega) (by omega), nC c i1 i6]
  generalize hS : v_sl A 174 0 (0 : Int32).toInt64 = S
  have sA : ∀ c, S.1 c = A.1 c := fun c => by rw [← hS]; rfl
  have c31 : S.1 130 31 = M.1 130 31 := by rw [sA, aM 130 (by decide) (by decide) (by decide) (by decide) (by decide) (by decide) (by decide)]
  obtain ⟨Nx, S2, x1, x2, x3, x4, x5⟩ := rd_run (S := S) h hk (by rw [sA, aM 157 (by decide) (by decide) (by decide) (by decide) (by decide) (by decide) (by decide)])
  have eN := (rI_inj (r1.symm.trans x1)).2
  subst eN
  have hx : S2.1 130 38 = 0 ∧ S2.1 130 3 = nI w ∧ ∀ a, a < w → plE Nf S2 (sp M a) (6 + a) := by
    rcases x5 with ⟨w', y1, y2, y3, y4, y5, y6⟩ | ⟨kk, e, y1, y2, y3, -⟩
    · rw [g8] at y4
      have ew : w = w' := (nI_eq (by omega) (by omega)).mp y4
      subst ew
      exact ⟨y3, y5, fun a ha => y6 a ha⟩
    · rw [g7] at y3
      exact absurd y3.symm (nI_ne0 (by omega) (by omega))
  obtain ⟨g38, g3, gE2⟩ := hx
  generalize hT : v_si (v_si S2 130 2 (nI w)) 130 21 0 = T
  have t130 : ∀ j, j ≠ 2 → j ≠ 21 → T.1 130 j = S2.1 130 j := fun j i1 i2 => by rw [← hT, si_n i2, si_n i1]
  have tC : ∀ c, c ≠ 130 → T.1 c = S2.1 c := fun c i1 => by rw [← hT, si_c i1, si_c i1]
  have tT : ∀ a c j, rwQ (6 + a) c j → T.1 c j = S2.1 c j := fun a c j hq => by
    rw [tC c (by unfold rwQ at hq; omega)]
  obtain ⟨S3, e1, e2, e3, e4⟩ := r_takes (S0 := T) (w := w) (by rw [← hT, si_n (by decide), si_s]) (by rw [← hT, si_s]) hw (fun a ha => by
    obtain ⟨kd, z, lw, ot, m, nr, fr, F, T', C, Kd, A', B, hX⟩ := gE2 a ha
    exact ⟨kd, z, m, nr, fr, F, T', C, Kd, A', B, hX.1, plR_c hX.1 hX.2.2.1 (fun c j hq => tT a c j hq)⟩) w FU 0 T (FU_lt (by omega)) (Nat.zero_add w) ⟨rfl, fun _ _ _ => rfl, fun a ha => absurd ha (Nat.not_lt_zero _)⟩
  obtain ⟨S4, k1, k2, k3, k4⟩ := r_144 100 FU 0 S3 (FU_lt (by decide)) rfl (fun y hy => absurd hy (Nat.not_lt_zero _))
  have eR : fX11_town S (nI k) = rI 0 (v_si S4 130 51 0) := by
    rw [town_r (by rw [c31]; exact t2) (by rw [c31]; exact t1) (by rw [c31]; exact hk), x2]
    unfold fX11_town_78
    rw [if_pos g38, g3, hT, show fX11_town_123 FU T 0 = fX11_town_144 FU S3 0 from e1]
    exact k1
  generalize hU : v_si S4 130 51 0 = U at eR
  -- what the last memory holds
  have u130 : ∀ j, j ≠ 51 → U.1 130 j = T.1 130 j := fun j i1 => by
    rw [← hU, si_n i1, k3 130 (by decide), e3 130 j (fun a _ hb => by unfold rwB at hb; omega)]
  have uC : ∀ c j, c ≠ 130 → c ≠ 155 → (∀ a, a < w → ¬ rwB a c j) → U.1 c j = S2.1 c j := fun c j i1 i2 i3 => by
    rw [← hU, si_c i1, k3 c i2, e3 c j i3, tC c i1]
  have uLo : ∀ c, c < 130 → U.1 c = A.1 c := fun c hc => by
    funext j
    rw [uC c j (by omega) (by omega) (fun a _ hb => by unfold rwB at hb; omega), x4.2.1 c j (by omega) (fun a _ => by unfold rwQ; omega), pR_o (by omega), sA]
  have uHi : ∀ c, 130 < c → c ≠ 155 → ∀ j, (∀ a, a < w → ¬ rwB a c j) → (∀ a, a < 6 → ¬ rwQ (6 + a) c j) → U.1 c j = M.1 c j := fun c i1 i2 j i3 i4 => by
    rw [uC c j (by omega) i2 i3, x4.2.1 c j (by omega) i4, pR_o (by omega), sA, aM c (by omega) (by omega) (by omega) (by omega) (by omega) (by omega) (by omega)]
  have uRow : ∀ a c j, rwB a c j → U.1 c j = S3.1 c j := fun a c j hb => by
    rw [← hU, si_c (by unfold rwB at hb; omega), k3 c (by unfold rwB at hb; omega)]
  have u2 : U.2 = S.2 := by
    rw [← hU]
    show S4.2 = _
    rw [k2, e2, ← hT]
    exact x4.1
  have ur : U.2.2 = N2.2.2 := by
    rw [u2, ← hS]
    show A.2.2 = _
    rw [← hA]
    show N3.2.2 = _
    rw [d2]
  have ul : ∀ c, c ≠ 174 → U.2.1 c = N2.2.1 c := fun c hc => by
    rw [u2, ← hS]
    show (v_sl A 174 0 _).2.1 c = _
    rw [sl_c hc, ← hA]
    show N3.2.1 c = _
    rw [d2]
  have s1 : ∀ j, j ≠ 3 → (j < 32 ∨ 39 < j) → j ≠ 2 → j ≠ 21 → j ≠ 51 → U.1 130 j = (pRm S k).1 130 j := fun j i1 i2 i3 i4 i5 => by
    rw [u130 j i5, t130 j i3 i4, x4.2.2 j i1 i2]
  have p2 : U.1 130 2 = nI w := by rw [u130 2 (by decide), ← hT, si_n (by decide), si_s]
  have p21 : U.1 130 21 = 0 := by rw [u130 21 (by decide), ← hT, si_s]
  have eW : qW U = w := by unfold qW; rw [p2, qN_nI (by omega)]
  have q0 : qN (0 : Int32) = 0 := by decide
  have a0 : ∀ j, j ≠ 12 → j ≠ 13 → j ≠ 14 → A.1 0 j = M.1 0 j := fun j i1 i2 i3 => by
    rw [← hA, si_n i3, d3 0 (by decide) (by decide) (by decide) (by decide), j2 0 (lowq 0 (by decide)), ← hA1, si_n i1, si_n i2, si_c (by decide), nC 0 (by decide) (by decide)]
  have a012 : A.1 0 12 = nI w := by rw [← hA, si_n (by decide), d3 0 (by decide) (by decide) (by decide) (by decide), j2 0 (lowq 0 (by decide)), ← hA1, si_s]
  have a013 : A.1 0 13 = -1 := by rw [← hA, si_n (by decide), d3 0 (by decide) (by decide) (by decide) (by decide), j2 0 (lowq 0 (by decide)), ← hA1, si_n (by decide), si_s]
  have a014 : A.1 0 14 = 0 := by rw [← hA, si_s]
  have a11 : A.1 1 1 = 0 := by rw [aC 1 (by decide) (by decide) (by decide) (by decide) (by decide), j2 1 (lowq 1 (by decide)), ← hA1, si_c (by decide), si_c (by decide), si_s]
  have hRel : Rel U := by
    refine ⟨rPl_congr j1 ur, ⟨?_, ?_, ?_, fun j hj => ?_⟩, ?_, ⟨?_, ?_⟩, fun a ha => ?_, ⟨⟨?_, ?_⟩, fun j hj => ?_, fun a ha => ⟨?_, ?_, fun j hj => ?_⟩, fun a ha => ⟨?_, ?_, fun j hj => ?_⟩, fun y hy => ⟨?_, ?_⟩, fun j hj => ?_⟩, ⟨?_, ?_, fun h1 => ?_⟩⟩
    · rw [s1 31 (by decide) (by decide) (by decide) (by decide) (by decide), pR_31]; decide
    · rw [s1 31 (by decide) (by decide) (by decide) (by decide) (by decide), pR_31]; decide
    · rw [s1 31 (by decide) (by decide) (by decide) (by decide) (by decide), pR_31, uLo 1 (by decide), a11]
    · rw [s1 31 (by decide) (by decide) (by decide) (by decide) (by decide), pR_31, q0] at hj
      omega
    · rw [uLo 0 (by decide), a013, s1 40 (by decide) (by decide) (by decide) (by decide) (by decide), pR_40]
    · rw [uLo 0 (by decide), a012, p2]
    · rw [p2]; exact nIb_nI hw (by decide)
    · rw [eW] at ha
      have ha6 : a < 6 := by omega
      have hqa : qw a = 46 + 15 * a := rfl
      obtain ⟨kd, z, lw, ot, m, nr, fr, F, T', C, Kd, A', B, hX⟩ := gE2 a ha
      have hm20 := plV_m hX.1
      have hP := sp_P hsp.1 ha6
      have hpb := v_isP_b hP.1
      have pc : ∀ c, sp M a ≤ c → c ≤ sp M a + 5 → U.1 c = Nf.1 c := fun c i1 i2 => by
        rw [uLo c (by omega), aC c (by omega) (by omega) (by omega) (by omega) (by omega), j2 c (fun b hb => ?_), a1C c (by omega) (by omega)]
        have m0 := plan_ne hP.1 0 (by decide) b (by omega)
        have m1 := plan_ne hP.1 1 (by decide) b (by omega)
        have m2 := plan_ne hP.1 2 (by decide) b (by omega)
        have m3 := plan_ne hP.1 3 (by decide) b (by omega)
        have m4 := plan_ne hP.1 4 (by decide) b (by omega)
        have m5 := plan_ne hP.1 5 (by decide) b (by omega)
        omega
      obtain ⟨K, o1, o2, o3, o4, o5, o6, o7⟩ := j6 a ha kd z m nr fr F T' C Kd A' B hX.1 (by
        rw [spA]
        exact plC_c hX.2.1 (plA a ha6))
      obtain ⟨v1, v2, v3, v4, v5⟩ := e4 a ha
      obtain ⟨K2, y1, y2, y3, y4, y5⟩ := v5 kd z m nr fr F T' C Kd A' B hX.1 (plR_c hX.1 hX.2.2.1 (fun c j hq => tT a c j hq))
      have hl := (way_ok hX.1).1
      obtain ⟨hV, hC, hR, ⟨l2, l3⟩, ⟨l4, l5⟩, l6, l7, l8⟩ := hX
      have z7 : ∀ c, 132 ≤ c → c < 139 → U.1 c a = S2.1 c (6 + a) := fun c i1 i2 => by
        rw [uRow a c a (Or.inl ⟨by omega, rfl⟩), v1 c i1 i2]
        exact tT a c _ (Or.inl ⟨⟨i1, i2⟩, rfl⟩)
      have z20 : ∀ c, 139 ≤ c → c < 142 → ∀ t, t < 20 → U.1 c (20 * a + t) = S2.1 c (20 * (6 + a) + t) := fun c i1 i2 t i3 => by
        rw [uRow a c _ (Or.inr (Or.inl ⟨⟨i1, i2⟩, by omega, by omega⟩)), v2 c i1 i2 t i3]
        exact tT a c _ (Or.inr (Or.inl ⟨⟨i1, i2⟩, by omega, by omega⟩))
      have z2k : ∀ c k, 146 ≤ c → c < 149 → k < 1458 → U.1 c (2000 * a + k) = S3.1 c (2000 * a + k) := fun c k i1 i2 i3 => uRow a c _ (Or.inr (Or.inr (Or.inr ⟨⟨i1, i2⟩, by omega, by omega⟩)))
      have wC : ∀ c, c = qw a ∨ c = qw a + 8 → U.1 c = N2.1 c := fun c hc => by
        rw [uLo c (by omega), aC c (by omega) (by omega) (by omega) (by omega) (by omega)]
      refine rWk_new (p := sp M a) (lw := lw) (ot := ot) (K := K) (K2 := K2) ha6 hV ?_ (plC_c hC pc) ?_ ?_ l6 l7 l8 ?_ ?_ ?_ ?_ ?_ ?_ (fun s hs => ?_) (fun hk0 s hs => ⟨?_, ?_⟩) ?_ ?_ ?_ (fun kk hkk => ?_) o5 o6 (fun kk hkk => ?_) ?_ (fun kk hkk => ?_) y3 y4 (fun kk hkk => ?_)
      · unfold qp
        rw [ur, j5 a ha, a1r]
        rfl
      · rw [pc _ (Nat.le_refl _) (by omega)]; exact l2
      · rw [pc _ (Nat.le_refl _) (by omega)]; exact l3
      · rw [z7 132 (by decide) (by decide)]; exact hR.1
      · rw [z7 133 (by decide) (by decide)]; exact hR.2.1
      · rw [z7 134 (by decide) (by decide)]; exact l4
      · rw [z7 135 (by decide) (by decide)]; exact l5
      · rw [z7 136 (by decide) (by decide)]; exact hR.2.2.1
      · rw [z7 137 (by decide) (by decide)]; exact hR.2.2.2.1
      · rw [z20 141 (by decide) (by decide) s (by omega)]; exact hR.2.2.2.2.2.1 s hs
      · rw [z20 139 (by decide) (by decide) s (by omega)]; exact (hR.2.2.2.2.2.2.1 hk0 s hs).1
      · rw [z20 140 (by decide) (by decide) s (by omega)]; exact (hR.2.2.2.2.2.2.1 hk0 s hs).2
      · rw [wC (qw a) (Or.inl rfl)]; exact o1
      · rw [wC (qw a) (Or.inl rfl)]; exact o2
      · rw [wC (qw a) (Or.inl rfl)]; exact o3
      · rw [ul (qw a + 7) (by omega)]; exact o4 kk hkk
      · rw [wC (qw a + 8) (Or.inr rfl)]; exact o7 kk hkk
      · rw [uRow a 145 a (Or.inl ⟨by omega, rfl⟩)]; exact y1
      · rw [z2k 146 kk (by decide) (by decide) (by omega), z2k 147 kk (by decide) (by decide) (by omega)]; exact y2 kk hkk
      · rw [z2k 148 kk (by decide) (by decide) (by omega)]; exact y5 kk hkk
    · rw [uLo 6 (by decide), p21, ← hA, si_c (by decide), d4]
    · rw [p21]; exact ⟨by decide, by decide⟩
    · rw [p21, q0] at hj
      omega
    · rw [eW] at ha
      rw [uLo 9 (by decide), ← hA, si_c (by decide), (d5 a (by omega)).1, uRow a 151 a (Or.inl ⟨by omega, rfl⟩), (e4 a ha).2.2.1]
    · rw [eW] at ha
      rw [uRow a 151 a (Or.inl ⟨by omega, rfl⟩), (e4 a ha).2.2.1]; exact ⟨by decide, by decide⟩
    · rw [eW] at ha
      rw [uRow a 151 a (Or.inl ⟨by omega, rfl⟩), (e4 a ha).2.2.1, q0] at hj
      omega
    · rw [eW] at ha
      rw [uLo 11 (by decide), ← hA, si_c (by decide), (d5 a (by omega)).2, uRow a 153 a (Or.inl ⟨by omega, rfl⟩), (e4 a ha).2.2.2.1]
    · rw [eW] at ha
      rw [uRow a 153 a (Or.inl ⟨by omega, rfl⟩), (e4 a ha).2.2.2.1]; exact ⟨by decide, by decide⟩
    · rw [eW] at ha
      rw [uRow a 153 a (Or.inl ⟨by omega, rfl⟩), (e4 a ha).2.2.2.1, q0] at hj
      omega
    · rw [uLo 13 (by decide), ← hA, si_c (by decide), d6 y hy, ← hU, si_c (by decide), k4 y hy]
    · rw [← hU, si_c (by decide), k4 y hy]; exact ⟨by decide, by decide⟩
    · rw [uLo 14 (by decide), aM 14 (by decide) (by decide) (by decide) (by decide) (by decide) (by decide) (by decide), uHi 156 (by decide) (by decide) j (fun a _ => by unfold rwB; omega) (fun a _ => by unfold rwQ; omega)]
      exact h.led.2.2.2.2.2 j hj
    · rw [uLo 0 (by decide), a014, ← hU, si_s]
    · rw [← hU, si_s]
      exact Or.inl rfl
    · rw [← hU, si_s] at h1
      exact absurd h1 (by decide)
  refine ⟨U, hRel, fun K => gWr_val (z := 0) (M1 := A) (M2 := U) eC (by rw [hS]; exact eR) ?_ ?_⟩
  · rw [s1 1 (by decide) (by decide) (by decide) (by decide) (by decide), pR_1]
  · rw [u2, ← hS, sl_s]
theorem o1 (h : Rel M) (x : Int32) : okS (fun K => gWr (fL_town M x) (fun M1 => fX11_town M1 x) K) := by
  obtain ⟨t1, t2, t3, t4⟩ := h.tape
  have bad : fX10_town M x = rT 2 M → fX11_town M x = rI 0 (v_si (v_si M 130 1 0) 130 1 1) → okS (fun K => gWr (fL_town M x) (fun M1 => fX11_town M1 x) K) := fun e1 e2 =>
    ⟨v_si (v_si M 130 1 0) 130 1 1, Rel_si (c0 h) (by omega), fun K => gWr_thr (k := 2) (c := 1) (z := 0) (M1 := M) e1 rfl (by decide) e2 si_s⟩
  rcases i32 x with hx | ⟨k, hk, rfl⟩
  · refine bad ?_ ?_
    · unfold fX10_town
      rw [if_pos hx]
    · unfold fX11_town fX11_town_17
      rw [if_pos hx]
      rfl
  · by_cases q : k ≤ qN (M.1 130 31)
    · obtain ⟨Nf, S1, r1, r2, r3⟩ := rd_run (S := M) h q rfl
      obtain ⟨f1, f2, f3⟩ := r3
      rcases f3 with ⟨w, y1, y2, y3, y4, y5, y6⟩ | y
      · exact town_good h q r1 f1 y1 y2 y4 y6
      · exact town_bad h q r1 ⟨f1, f2, Or.inr y⟩ y
    · refine bad ?_ ?_
      · unfold fX10_town
        rw [if_neg (nI_pos hk), t3, t2, if_neg (nI_ge (by omega) (by omega))]
      · unfold fX11_town fX11_town_17
        rw [if_neg (nI_pos hk), si_n (by decide), t2, if_neg (nI_ge (by omega) (by omega))]
        rfl
end P65
