section P58
variable {M N S : vM} {i : Nat}
theorem o13 (h : Rel M) (x y z : Int32) : okS (fun K => gWr (fL_apart M x y z) (fun M1 => fX11_apart M1 x y z) K) := by
  unfold fL_apart
  rcases isWk h x with ⟨a, b⟩ | ⟨i, hi, rfl⟩
  · refine fin_f1 h (by unfold fX10_apart; rw [a]; rfl) rfl ?_
    unfold fX11_apart
    rw [b (v_si M 130 1 0) rfl, bi_I, if_pos rfl]
    rfl
  have h6 : i < 6 := by have := h.W1.2.1; omega
  have hwk := h.wk hi
  rcases wWhat (M := M) (x := z) (n := 3) (by decide) with ⟨a, b⟩ | ⟨v, hv, rfl⟩
  · refine fin_f1 h (by unfold fX10_apart; rw [wOf h hi, br_R, show (3 : Int32) = nI 3 from rfl, a]; rfl) rfl ?_
    unfold fX11_apart
    rw [rOf (c0 h) hi, bi_I, if_neg (by decide), rWhat3 b, bi_I, if_pos rfl]
    rfl
  have w3 : fX10_refuseUnlessWhat M (nI v) 3 = rV M := wWhatY (n := 3) hv (by decide)
  have i3 : ∀ S : vM, fX11_isIn S (nI v) 0 2 = rI 1 S := fun S => e_isIn1 (a := 0) (b := 2) (Nat.zero_le _) (by omega) (by decide)
  rcases wWithin (M := M) (x := y) (a := 0) (b := 30) (by decide) (by decide) with ⟨a, b⟩ | ⟨far, -, hf, rfl⟩
  · refine fin_f2 h (by unfold fX10_apart; rw [wOf h hi, br_R, w3, bv_V, show fX10_refuseUnlessWithin M y 0 30 = rT 2 M from a]; rfl) rfl ?_
    unfold fX11_apart
    rw [rOf (c0 h) hi, bi_I, if_neg (by decide), i3, bi_I, if_neg (by decide), show fX11_isIn (v_si M 130 1 0) y 0 30 = rI 0 (v_si M 130 1 0) from b _, bi_I, if_pos rfl]
    rfl
  have hU := uL_le hwk
  obtain ⟨n, hn⟩ : ∃ n, n = min 14 (uL M.1 i).length := ⟨_, rfl⟩
  have hn14 : n ≤ 14 := by omega
  generalize hmk : (fun t => qmk M i ((uL M.1 i).getD t 0)) = mk
  generalize hco : (fun t => qco M i ((uL M.1 i).getD t 0)) = co
  have emk : ∀ t, qmk M i ((uL M.1 i).getD t 0) = mk t := fun t => by rw [← hmk]
  have eco : ∀ t, qco M i ((uL M.1 i).getD t 0) = co t := fun t => by rw [← hco]
  have hw : ∀ t, t < n → (uL M.1 i).getD t 0 < qC M i := fun t ht => (uL_mem (getD_mem (uL M.1 i) t 0 (by omega))).1
  have hmk20 : ∀ t, t < n → mk t < 1048576 := fun t ht => by
    rw [← emk]
    have := (wkW hwk (hw t ht)).2.2.2.1
    omega
  have hco20 : ∀ t, t < n → co t < 1048576 := fun t ht => by
    rw [← eco]
    have := (wkW hwk (hw t ht)).2.1
    omega
  -- the class
  have r28 : Rel (v_si M 28 3 0) := Rel_28 h rfl (fun c h1 _ _ _ => si_c h1)
  have i28 : i < qW (v_si M 28 3 0) := by show i < qN ((v_si M 28 3 0).1 130 2); rw [si_c (by decide)]; exact hi
  have e0 := c_nx0 (r28.wk i28)
  rw [show uL (v_si M 28 3 0).1 i = uL M.1 i from uL_g (si_c (by decide)) (si_c (by decide))] at e0
  obtain ⟨N1, a1, a2, a3, a4, a5⟩ := c_s11 (far := far) h hi hn n FU 0 (v_si M 28 3 0) (FU_lt (by omega)) (Nat.zero_add _) rfl (fun c h1 _ _ _ => si_c h1) si_s (fun t ht => absurd ht (Nat.not_lt_zero _))
  obtain ⟨N2, b, b1, b2, b3, b4, b5, b6, b7, b8, b9⟩ := c_s80 (N0 := N1) (far := far) (mk := mk) (co := co) hn14 hf hmk20 hco20 a4 (fun t ht => by rw [(a5 t ht).1, emk]) (fun t ht => by rw [(a5 t ht).2, eco]) n FU 0 N1 (FU_lt (by omega)) (Nat.zero_add _) rfl (fun _ _ => rfl) (fun t ht => absurd ht (Nat.not_lt_zero _))
  have n2 : N2.2 = M.2 := by rw [b2, a2]
  have nc : ∀ c, c ≠ 28 → c ≠ 29 → c ≠ 30 → c ≠ 31 → N2.1 c = M.1 c := fun c h1 h2 h3 h4 => by rw [b3 c h1 h4]; exact a3 c h1 h2 h3 h4
  have hseek : fX6_seek M (qw i) (nI far) = rV N2 := by
    unfold fX6_seek
    rw [e0, bi_I]
    refine Eq.trans a1 ?_
    exact b1
  generalize hz : (if v = 0 then nI (wS (fun _ => 1) n b) else if v = 1 then nI (wS co n b) else nI b : Int32) = q
  have hr : fX10_apart M (nI i) (nI far) (nI v) = rI q N2 := by
    unfold fX10_apart
    rw [wOf h hi, br_R, w3, bv_V, show fX10_refuseUnlessWithin M (nI far) 0 30 = rV M from wWithinY (a := 0) (b := 30) (Nat.zero_le _) hf (by decide), bv_V, hseek, bv_V, b4, b5, b6, ← hz]
    rcases (show v = 0 ∨ v = 1 ∨ v = 2 by omega) with rfl | rfl | rfl <;> rfl
  have hR1 : Rel N2 := Rel_28 h n2 nc
  -- the reference
  generalize hS : v_si (v_sl N2 174 0 q.toInt64) 130 1 0 = S
  have hRS : Rel S := by rw [← hS]; exact c0 (Rel_sl hR1 (by omega))
  have so : ∀ c, c ≠ 28 → c ≠ 29 → c ≠ 30 → c ≠ 31 → c ≠ 130 → S.1 c = M.1 c := fun c h1 h2 h3 h4 h5 => by rw [← hS, si_c h5]; exact nc c h1 h2 h3 h4
  have hiS : i < qW S := by show i < qN (S.1 130 2); rw [← hS, si_n (by decide)]; show i < qN (N2.1 130 2); rw [nc 130 (by decide) (by decide) (by decide) (by decide)]; exact hi
  have eu : uL S.1 i = uL M.1 i := uL_g (so 148 (by decide) (by decide) (by decide) (by decide) (by decide)) (so 145 (by decide) (by decide) (by decide) (by decide) (by decide))
  obtain ⟨S1, c1, c2, c3, c4⟩ := r_59 (M := S) (far := far) (v := nI v) hRS hiS (n := n) (by rw [eu]; exact hn) n FU 0 S (FU_lt (by omega)) (Nat.zero_add _) rfl (fun _ _ => rfl) (fun t ht => absurd ht (Nat.not_lt_zero _))
  have hfew : fewS S1 i n mk co := fun t ht => by
    have hq := hw t ht
    obtain ⟨w1, -, w3, -, -⟩ := wkW hwk hq
    have hq2 := (wkC hwk).2.1
    refine ⟨(uL M.1 i).getD t 0, by omega, by rw [c4 t ht, eu], ?_, ?_, hmk20 t ht, hco20 t ht⟩
    · rw [c3 147 (by decide), so 147 (by decide) (by decide) (by decide) (by decide) (by decide), w3, emk]
    · rw [c3 146 (by decide), so 146 (by decide) (by decide) (by decide) (by decide) (by decide), w1, eco]
  have z1 : ∀ w, wS w n 0 = 0 := fun w => by
    have := wS_hi (w := w) (s := 0) (k := 0) (fun j _ => Nat.zero_testBit j) n
    rw [Nat.zero_add] at this
    exact this
  have hv0 : vSt far mk 0 := fun a b _ ha _ => by rw [Nat.zero_testBit] at ha; cases ha
  have p14 : 2 ^ n ≤ 16384 := Nat.pow_le_pow_right (j := 14) (by decide) hn14
  have p1 := Nat.two_pow_pos n
  obtain ⟨b', d1, d2, d3, d4⟩ := r_98 (far := far) (mk := mk) (co := co) h6 hn14 hf hfew hv (2 ^ n - 1) FU 1 0 (FU_lt (by omega)) (by omega) (by decide) hv0 (fun t ht _ => by rw [show t = 0 by omega]; exact Nat.le_refl _)
  have ebb : b' = b := ky_inj (n := n) (co := co) (by omega) (by omega) (Nat.le_antisymm (d3 b b7 b8) (b9 b' d1 d2))
  rw [ebb, hz, z1, z1] at d4
  have hR2 : Rel S1 := Rel_congr hRS (by rw [c2]) (fun c hc => c3 c (by omega)) (fun j _ => by rw [c3 130 (by decide)]) (fun c _ _ => by rw [c2])
  refine fin_val hr ?_ (M2 := S1) ?_ ?_ hR2
  · unfold fX11_apart
    rw [hS, rOf hRS hiS, bi_I, if_neg (by decide), i3, bi_I, if_neg (by decide), show fX11_isIn S (nI far) 0 30 = rI 1 S from e_isIn1 (a := 0) (b := 30) (Nat.zero_le _) hf (by decide), bi_I, if_neg (by decide), r_leftOf (hRS.wk hiS) h6, bi_I, show (if nI (sCnt S.1 i) < 14 then nI (sCnt S.1 i) else 14 : Int32) = nI n by
      rw [← uL_len, eu]
      by_cases w : (uL M.1 i).length < 14
      · rw [if_pos (show nI (uL M.1 i).length < 14 from nI_lt w (by decide)), show n = (uL M.1 i).length by omega]
      · rw [if_neg (show ¬ nI (uL M.1 i).length < 14 from nI_nlt (show 14 ≤ _ by omega) (by omega)), show n = 14 by omega]
        rfl]
    refine Eq.trans c1 ?_
    exact d4
  · rw [c3 130 (by decide), ← hS, si_s]
  · rw [c2, ← hS]
    rfl
end P58
