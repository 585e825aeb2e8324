section P63
variable {M N S : vM} {i p kd z lw ot m nr fr w : Nat} {F T C Kd A B K K2 : Nat → Nat}
/-- a new work is one that both know -/
theorem rWk_new (hi : i < 6) (hV : plV kd z m nr fr F T C Kd A B) (hp : qp M i = p) (hC : plC M p kd z m nr fr F T C Kd A B) (hl2 : M.1 p 2 = nI lw) (hl3 : M.1 p 3 = nI ot) (hlw : lw ≤ 2) (hot : ot ≤ 9) (hlo : lw = 2 → 1 ≤ ot)
    (r2 : M.1 132 i = nI kd) (r3 : M.1 133 i = nI z) (r4 : M.1 134 i = nI lw) (r5 : M.1 135 i = nI ot) (r6 : M.1 136 i = nI m) (r7 : M.1 137 i = nI fr) (rc : ∀ s, s < m → M.1 141 (20 * i + s) = nI (C s)) (rn : kd = 0 → ∀ s, s < m → M.1 139 (20 * i + s) = nI (F s) ∧ M.1 140 (20 * i + s) = nI (T s))
    (o1 : M.1 (qw i) 1 = nI (wayL kd z m nr F T C Kd A B).length) (o2 : M.1 (qw i) 2 = nI (wayL kd z m nr F T C Kd A B).length) (o3 : M.1 (qw i) 3 = fbits (nI kd) (nI fr) m) (o4 : cKy M (qw i) (wayL kd z m nr F T C Kd A B).length K) (o5 : pmN (wayL kd z m nr F T C Kd A B).length K (gK (wayL kd z m nr F T C Kd A B))) (o6 : stN (wayL kd z m nr F T C Kd A B).length K) (o7 : ∀ k, k < 1458 → M.1 (qw i + 8) k = 0)
    (q1 : M.1 145 i = nI (wayL kd z m nr F T C Kd A B).length) (q2 : rKy M i (wayL kd z m nr F T C Kd A B).length K2) (q3 : pmN (wayL kd z m nr F T C Kd A B).length K2 (gK (wayL kd z m nr F T C Kd A B))) (q4 : stN (wayL kd z m nr F T C Kd A B).length K2) (q5 : ∀ k, k < (wayL kd z m nr F T C Kd A B).length → M.1 148 (2000 * i + k) = 0) : rWk M i := by
  obtain ⟨w1, w2, w3, w4⟩ := way_ok hV
  have hm20 := plV_m hV
  obtain ⟨v1, v2, v3, v4, v5, v6, v7, v8, v9⟩ := hV
  obtain ⟨c0, c1, c4, c5, c6, cc, cn, cs⟩ := hC
  generalize wayL kd z m nr F T C Kd A B = L at w1 w2 w3 w4 o1 o2 o4 o5 o6 q1 q2 q3 q4 q5
  have dif : ∀ j k, j < L.length → k < L.length → j ≠ k → mkR (gK L j) (gK L k) := fun j k hj hk hjk => by
    rcases Nat.lt_or_gt_of_ne hjk with y | y
    · exact pw_get L w2 j k y hk
    · exact fun e => pw_get L w2 k j y hj e.symm
  have inj : inN L.length (gK L) := fun j k hj hk e => by
    by_cases y : j = k
    · exact y
    · have := dif j k hj hk y
      rw [e] at this
      exact absurd rfl this
  have eK : ∀ k, k < L.length → K k = K2 k := srt2 inj o5 q3 o6 q4
  have eit : qit M i = m := by unfold qit; rw [r6, qN_nI (by omega)]
  have eC : qC M i = L.length := by unfold qC; rw [q1, qN_nI (by omega)]
  have eco : ∀ k, k < L.length → qco M i k = K2 k / 1048576 := fun k hk => by
    have := (q2 k hk).2.2
    unfold qco
    rw [(q2 k hk).1, qN_nI (by omega)]
  have emk : ∀ k, k < L.length → qmk M i k = K2 k % 1048576 := fun k hk => by
    unfold qmk
    rw [(q2 k hk).2.1, qN_nI (by omega)]
  have kd1 : M.1 132 i = 1 → kd = 1 := fun e => by
    rw [r2] at e
    exact (nI_eq (a := kd) (b := 1) (by omega) (by decide)).mp e
  have kd2 : M.1 132 i = 2 → kd = 2 := fun e => by
    rw [r2] at e
    exact (nI_eq (a := kd) (b := 2) (by omega) (by decide)).mp e
  have kd0 : M.1 132 i = 0 → kd = 0 := fun e => by
    rw [r2] at e
    exact (nI_eq (a := kd) (b := 0) (by omega) (by decide)).mp (by rw [nI_0]; exact e)
  refine ⟨⟨?_, ?_⟩, ⟨?_, ?_⟩, ⟨?_, ?_⟩, ⟨?_, ?_, fun e => ?_⟩, ⟨?_, ?_, fun e => ?_, fun e => ?_⟩, ?_, fun j hj => ⟨?_, ?_⟩, fun e => ⟨?_, fun j hj => ?_⟩, ?_, ⟨?_, ?_⟩, ⟨fun k hk => ?_, fun j k hjk hk => ?_⟩, fun k hk => ⟨?_, ?_⟩, ?_⟩
  · rw [hp, c0, r2]
  · rw [r2]; exact nIb_nI v1 (by decide)
  · rw [hp, c1, r3]
  · rw [r3]; exact nIb_nI v2 (by decide)
  · rw [hp, hl2, r4]
  · rw [r4]; exact nIb_nI hlw (by decide)
  · rw [hp, hl3, r5]
  · rw [r5]; exact nIb_nI hot (by decide)
  · rw [r5, qN_nI (by omega)]
    exact hlo ((nI_eq (a := lw) (b := 2) (by omega) (by decide)).mp (by rw [← r4]; exact e))
  · rw [hp, c4, r6]
  · rw [r6]; exact nIb_nI hm20 (by decide)
  · rw [eit]; exact v7 (kd1 e)
  · rw [eit]; exact v8 (kd2 e)
  · rw [hp, c6, r7]
  · rw [eit] at hj
    rw [hp, cc j hj, rc j hj]
  · rw [eit] at hj
    rw [rc j hj]
    exact nIb_nI (v5 j hj) (by decide)
  · rw [r3, qN_nI (by omega)]
    exact (v6 (kd0 e)).1
  · rw [eit] at hj
    have hk0 := kd0 e
    obtain ⟨x1, x2⟩ := (v6 hk0).2.2 j hj
    rw [hp, (cn hk0 j hj).1, (cn hk0 j hj).2, (rn hk0 j hj).1, (rn hk0 j hj).2, r3, qN_nI (by omega), qN_nI (by omega), qN_nI (by omega)]
    exact ⟨rfl, rfl, nIb_nI (by omega) (by decide), nIb_nI (by omega) (by decide), x1, x2⟩
  · rw [o3, r2, r7, eit]
  · rw [o1, q1]
  · rw [q1]; exact nIb_nI w1 (by decide)
  · rw [eC] at hk
    obtain ⟨x1, x2, x3⟩ := q2 k hk
    refine ⟨?_, ?_, ?_, fun e => ?_⟩
    · rw [x1]; exact nIb_nI (by omega) (by decide)
    · rw [x2]; exact nIb_nI (by omega) (by decide)
    · rw [(o4 k hk).1, eK k hk, eco k hk, emk k hk]
      congr 1
      omega
    · rw [emk k hk, eit]
      exact pm_all (P := fun v => v % 1048576 < 2 ^ m) q3 (fun k hk => gK_all (w4 (kd1 e)) hk) k hk
  · rw [eC] at hk
    rw [emk j (by omega), emk k hk]
    obtain ⟨s, s1, s2, s3⟩ := q3
    rw [s3 j (by omega), s3 k hk]
    exact dif (s j) (s k) (s1 j (by omega)) (s1 k hk) (fun e => by have := s2 j k (by omega) hk e; omega)
  · rw [eC] at hk
    rw [o7 k (by omega), q5 k hk]
  · rw [eC] at hk
    exact Or.inl (q5 k hk)
  · rw [o2, eC]
    refine congrArg nI ?_
    exact (fb_ct_all.mpr (fun k hk => decide_eq_true (q5 k hk))).symm
theorem c_clear : ∃ N', fX1_clearForTown N 6 = rV N' ∧ N'.2 = N.2 ∧ (∀ c, c ≠ 6 → c ≠ 9 → c ≠ 11 → c ≠ 13 → N'.1 c = N.1 c) ∧ N'.1 6 0 = 0 ∧ (∀ j, j < 6 → N'.1 9 j = 0 ∧ N'.1 11 j = 0) ∧ ∀ y, y < 100 → N'.1 13 y = 1 := by
  unfold fX1_clearForTown
  obtain ⟨N1, a1, a2, a3, a4⟩ := c_fill0 (N := v_si N 6 0 0) (c := 6 + 3) (len := 6) (x := 0) rfl (by decide)
  obtain ⟨N2, b1, b2, b3, b4⟩ := c_fill0 (N := N1) (c := 6 + 5) (len := 6) (x := 0) rfl (by decide)
  obtain ⟨N3, c1, c2, c3, c4⟩ := c_fill0 (N := N2) (c := 6 + 7) (len := 100) (x := 1) rfl (by decide)
  refine ⟨N3, by rw [a1, bv_V, b1, bv_V, c1, bv_V], by rw [c2, b2, a2]; rfl, fun c i1 i2 i3 i4 => by rw [c3 c i4, b3 c i3, a3 c i2, si_c i1], by rw [c3 6 (by decide), b3 6 (by decide), a3 6 (by decide), si_s], fun j hj => ⟨?_, ?_⟩, c4⟩
  · rw [c3 9 (by decide), b3 9 (by decide)]
    exact a4 j hj
  · rw [c3 11 (by decide)]
    exact b4 j hj
/-! town -/
def pCm (M : vM) (k : Nat) : vM := v_si (v_si (v_si (v_si M 3 1 (nI k)) 3 2 0) 3 7 0) 3 8 0
def pRm (S : vM) (k : Nat) : vM := v_si (v_si (v_si (v_si (v_si (v_si (v_si S 130 1 0) 130 31 0) 130 33 (nI k)) 130 32 0) 130 38 0) 130 40 (-1)) 130 3 0
theorem rd_run (h : Rel M) {k : Nat} (hk : k ≤ qN (M.1 130 31)) (h157 : S.1 157 = M.1 157) : ∃ N' S', fX4_readTown M (nI k) = rI (N'.1 3 7) N' ∧ (bv (fX11_stepOn (pRm S k)) fun M31 => fX11_town_57 FU M31) = fX11_town_78 S' ∧ endR (pCm M k) (pRm S k) N' S' := by
  obtain ⟨t1, t2, t3, t4⟩ := h.tape
  have hk7 : k ≤ 700 := by omega
  have hC : tpC (pCm M k) k (fun j => qN (M.1 157 j)) := ⟨hk7, fun j hj => ⟨(t4 j (by omega)).1.le, by
    show M.1 2 j = _
    have e := (t4 j (by omega)).1.e
    rw [(t4 j (by omega)).2]
    unfold cB
    rw [← e]⟩⟩
  have hS : tpS (pRm S k) k (fun j => qN (M.1 157 j)) := ⟨hk7, fun j hj => ⟨(t4 j (by omega)).1.le, by
    show S.1 157 j = _
    rw [h157]
    exact (t4 j (by omega)).1.e⟩⟩
  have a1 : (pCm M k).1 3 1 = nI k := by
    unfold pCm
    rw [si_n (by decide), si_n (by decide), si_n (by decide), si_s]
  have a2 : (pCm M k).1 3 2 = nI 0 := by
    unfold pCm
    rw [si_n (by decide), si_n (by decide), si_s, nI_0]
  have a7 : (pCm M k).1 3 7 = 0 := by
    unfold pCm
    rw [si_n (by decide), si_s]
  have a8 : (pCm M k).1 3 8 = 0 := by
    unfold pCm
    rw [si_s]
  have b3 : (pRm S k).1 130 3 = 0 := by
    unfold pRm
    rw [si_s]
  have b33 : (pRm S k).1 130 33 = nI k := by
    unfold pRm
    rw [si_n (by decide), si_n (by decide), si_n (by decide), si_n (by decide), si_s]
  have b32 : (pRm S k).1 130 32 = nI 0 := by
    unfold pRm
    rw [si_n (by decide), si_n (by decide), si_n (by decide), si_s, nI_0]
  have b38 : (pRm S k).1 130 38 = 0 := by
    unfold pRm
    rw [si_n (by decide), si_n (by decide), si_s]
  obtain ⟨N1, S1, t, e, q, c1, c2, c3, c4, c5, c6⟩ := adv0 hC hS a1 b33 a2 b32 (Nat.zero_le _) a7 b38
  have hK : spK N1 := spK_e (c3.1.trans rfl) (spK_of h.pl)
  obtain ⟨N', S', d1, d2, d3⟩ := plLoop (b := fun j => qN (M.1 157 j)) (L := k) (k + 1) FU 0 0 N1 S1 t e q (FU_lt (by omega)) (by omega) (by omega) (Nat.zero_le _) (Nat.zero_le _) c5 hK (by rw [c3.2.2, a8, nI_0]) (by rw [c4.2.2 3 (by omega), b3, nI_0]) (fun a ha => absurd ha (Nat.not_lt_zero _)) FU FU (FU_lt (by omega)) (FU_lt (by omega))
  refine ⟨N', S', ?_, ?_, endR_t ⟨c3.1, fun c i1 _ => c3.2.1 c i1⟩ (frT_B c4) d3⟩
  · show (bv (fX4_advance (pCm M k)) fun M35 => fX4_readTown_26 FU M35 0) = _
    rw [c1, bv_V]
    rw [nI_0] at d1
    exact d1
  · rw [c2, bv_V]
    unfold refF at d2
    rw [if_pos rfl] at d2
    exact d2
end P63
