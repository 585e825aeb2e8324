section P56
variable {N N' S S' : vM} {L t e q p r kd z lw ot m nr fr : Nat} {b F T C Kd A B : Nat → Nat}
theorem bd_cg {sel sel' : Nat → Bool} {B B' : Nat → Nat} : ∀ n, (∀ k, k < n → sel k = sel' k ∧ B k = B' k) → bdF sel B n = bdF sel' B' n
  | 0, _ => rfl
  | n + 1, h => by
    have ih := bd_cg (sel := sel) (sel' := sel') (B := B) (B' := B') n (fun k hk => h k (by omega))
    have hn := h n (by omega)
    show (if sel n = true then bdF sel B n ||| 2 ^ B n else bdF sel B n) = (if sel' n = true then bdF sel' B' n ||| 2 ^ B' n else bdF sel' B' n)
    rw [ih, hn.1, hn.2]
theorem ndS_s {w a c s : Nat} : ndS (put1 Kd nr w) (put1 A nr a) (put1 B nr c) (nr + 1) s = if w ≠ 0 ∧ a = s then ndS Kd A B nr s ||| 2 ^ c else ndS Kd A B nr s := by
  have e : bdF (fun k => decide (put1 Kd nr w k ≠ 0) && decide (put1 A nr a k = s)) (put1 B nr c) nr = ndS Kd A B nr s := bd_cg nr (fun k hk => ⟨by rw [put1_n (by omega), put1_n (by omega)], put1_n (by omega)⟩)
  show (if (decide (put1 Kd nr w nr ≠ 0) && decide (put1 A nr a nr = s)) = true then bdF (fun k => decide (put1 Kd nr w k ≠ 0) && decide (put1 A nr a k = s)) (put1 B nr c) nr ||| 2 ^ put1 B nr c nr else bdF (fun k => decide (put1 Kd nr w k ≠ 0) && decide (put1 A nr a k = s)) (put1 B nr c) nr) = _
  rw [e, put1_s, put1_s, put1_s]
  by_cases q1 : w ≠ 0 ∧ a = s
  · rw [if_pos q1, if_pos (by rw [decide_eq_true q1.1, decide_eq_true q1.2]; rfl)]
  · rw [if_neg q1, if_neg (by rw [Bool.and_eq_true, decide_eq_true_eq, decide_eq_true_eq]; exact q1)]
theorem brS_s {w a c s : Nat} : brS (put1 Kd nr w) (put1 A nr a) (put1 B nr c) (nr + 1) s = if w = 0 ∧ a = s then brS Kd A B nr s ||| 2 ^ c else brS Kd A B nr s := by
  have e : bdF (fun k => decide (put1 Kd nr w k = 0) && decide (put1 A nr a k = s)) (put1 B nr c) nr = brS Kd A B nr s := bd_cg nr (fun k hk => ⟨by rw [put1_n (by omega), put1_n (by omega)], put1_n (by omega)⟩)
  show (if (decide (put1 Kd nr w nr = 0) && decide (put1 A nr a nr = s)) = true then bdF (fun k => decide (put1 Kd nr w k = 0) && decide (put1 A nr a k = s)) (put1 B nr c) nr ||| 2 ^ put1 B nr c nr else bdF (fun k => decide (put1 Kd nr w k = 0) && decide (put1 A nr a k = s)) (put1 B nr c) nr) = _
  rw [e, put1_s, put1_s, put1_s]
  by_cases q1 : w = 0 ∧ a = s
  · rw [if_pos q1, if_pos (by rw [decide_eq_true q1.1, decide_eq_true q1.2]; rfl)]
  · rw [if_neg q1, if_neg (by rw [Bool.and_eq_true, decide_eq_true_eq, decide_eq_true_eq]; exact q1)]
theorem ndO_s {a c s : Nat} : ndO (put1 A nr a) (put1 B nr c) (nr + 1) s = if c = s then ndO A B nr s ||| 2 ^ a else ndO A B nr s := by
  have e : bdF (fun k => decide (put1 B nr c k = s)) (put1 A nr a) nr = ndO A B nr s := bd_cg nr (fun k hk => ⟨by rw [put1_n (by omega)], put1_n (by omega)⟩)
  show (if decide (put1 B nr c nr = s) = true then bdF (fun k => decide (put1 B nr c k = s)) (put1 A nr a) nr ||| 2 ^ put1 A nr a nr else bdF (fun k => decide (put1 B nr c k = s)) (put1 A nr a) nr) = _
  rw [e, put1_s, put1_s]
  by_cases q1 : c = s
  · rw [if_pos q1, if_pos (decide_eq_true q1)]
  · rw [if_neg q1, if_neg (by rw [decide_eq_true_eq]; exact q1)]
theorem c_need {x y : Nat} (hP : v_isP p) (hx : x < 12) (hy : y < 31) : fX3_need N p (nI x) (nI y) = rV (v_si N (p + 4) x (N.1 (p + 4) x ||| nI (2 ^ y))) := by
  have l4 : (v_LAY (p + 4)).2.2 = 12 := by rw [(v_LP hP).2.2.1.2.2.2.1]
  unfold fX3_need
  rw [e_at l4 hx (by decide), bi_I, sh1 y hy, e_put l4 hx (by decide), bv_V]
theorem c_bar {x y : Nat} (hP : v_isP p) (hx : x < 12) (hy : y < 31) : fX3_bar N p (nI x) (nI y) = rV (v_si N (p + 5) x (N.1 (p + 5) x ||| nI (2 ^ y))) := by
  have l5 : (v_LAY (p + 5)).2.2 = 12 := by rw [(v_LP hP).2.2.1.2.2.2.2]
  unfold fX3_bar
  rw [e_at l5 hx (by decide), bi_I, sh1 y hy, e_put l5 hx (by decide), bv_V]
/-- one rule more: a and c, of the kind w -/
theorem plX_bond (h : plX N S p r kd z lw ot m nr fr F T C Kd A B) (hn : nr < 12) {w a c dd jj kk : Nat} (ha : a < m) (hc : c < m) (hw : w ≤ 1) (hd : (kd = 1 ∧ w = 0 ∧ dd = p + 5 ∧ jj = a ∧ kk = c) ∨ (kd = 1 ∧ w = 1 ∧ dd = p + 4 ∧ jj = a ∧ kk = c) ∨ (kd = 2 ∧ dd = p + 4 ∧ jj = c ∧ kk = a))
    (hN : ∀ d j, p ≤ d → d ≤ p + 5 → N'.1 d j = if d = p ∧ j = 5 then nI (nr + 1) else if d = dd ∧ j = jj then N.1 d j ||| nI (2 ^ kk) else N.1 d j)
    (hS : ∀ d j, rwQ r d j → S'.1 d j = if d = 138 ∧ j = r then nI (nr + 1) else if d = 142 ∧ j = 12 * r + nr then nI w else if d = 143 ∧ j = 12 * r + nr then nI a else if d = 144 ∧ j = 12 * r + nr then nI c else S.1 d j) :
    plX N' S' p r kd z lw ot m (nr + 1) fr F T C (put1 Kd nr w) (put1 A nr a) (put1 B nr c) := by
  obtain ⟨hV, hC, hR, h1, h2, h3⟩ := h
  have hm20 := plV_m hV
  obtain ⟨v1, v2, v3, v4, v5, v6, v7, v8, v9⟩ := hV
  obtain ⟨c0, c1, c4, c5, c6, cc, cn, cs⟩ := hC
  obtain ⟨r0, r1, r4, r6, r5, rc, rn, rs⟩ := hR
  have pn : ∀ j, j ≠ 5 → N'.1 p j = N.1 p j := fun j hj => by
    rw [hN p j (by omega) (by omega), if_neg (by omega), if_neg (by omega)]
  have p3 : ∀ i j, 1 ≤ i → i ≤ 3 → N'.1 (p + i) j = N.1 (p + i) j := fun i j i1 i2 => by
    rw [hN (p + i) j (by omega) (by omega), if_neg (by omega), if_neg (by omega)]
  have s7 : ∀ d, 132 ≤ d → d < 138 → S'.1 d r = S.1 d r := fun d i1 i2 => by
    rw [hS d r (Or.inl ⟨by omega, rfl⟩), if_neg (by omega), if_neg (by omega), if_neg (by omega), if_neg (by omega)]
  have s20 : ∀ d s, 139 ≤ d → d < 142 → s < m → S'.1 d (20 * r + s) = S.1 d (20 * r + s) := fun d s i1 i2 i3 => by
    rw [hS d _ (Or.inr (Or.inl ⟨by omega, by omega, by omega⟩)), if_neg (by omega), if_neg (by omega), if_neg (by omega), if_neg (by omega)]
  refine ⟨⟨v1, v2, by omega, v4, v5, v6, v7, v8, fun k hk => ?_⟩, ⟨?_, ?_, ?_, ?_, ?_, fun s hs => ?_, fun hk s hs => ?_, fun s hs => ⟨fun hk => ⟨?_, ?_⟩, fun hk => ?_⟩⟩, ⟨?_, ?_, ?_, ?_, ?_, fun s hs => ?_, fun hk s hs => ?_, fun k hk => ?_⟩, ⟨?_, ?_⟩, ⟨?_, ?_⟩, h3⟩
  · by_cases q1 : k = nr
    · rw [q1, put1_s, put1_s, put1_s]
      exact ⟨ha, hc, hw⟩
    · rw [put1_n q1, put1_n q1, put1_n q1]
      exact v9 k (by omega)
  · rw [pn 0 (by decide)]; exact c0
  · rw [pn 1 (by decide)]; exact c1
  · rw [pn 4 (by decide)]; exact c4
  · rw [hN p 5 (by omega) (by omega), if_pos ⟨rfl, rfl⟩]
  · rw [pn 6 (by decide)]; exact c6
  · rw [p3 1 s (by omega) (by omega)]; exact cc s hs
  · rw [p3 2 s (by omega) (by omega), p3 3 s (by omega) (by omega)]; exact cn hk s hs
  · have o := ((cs s hs).1 hk).1
    rw [hN (p + 4) s (by omega) (by omega), if_neg (by omega), ndS_s]
    by_cases q1 : w ≠ 0 ∧ a = s
    · rw [if_pos q1, if_pos (by omega), o, fa_or, show kk = c by omega]
    · rw [if_neg q1, if_neg (by omega), o]
  · have o := ((cs s hs).1 hk).2
    rw [hN (p + 5) s (by omega) (by omega), if_neg (by omega), brS_s]
    by_cases q1 : w = 0 ∧ a = s
    · rw [if_pos q1, if_pos (by omega), o, fa_or, show kk = c by omega]
    · rw [if_neg q1, if_neg (by omega), o]
  · have o := (cs s hs).2 hk
    rw [hN (p + 4) s (by omega) (by omega), if_neg (by omega), ndO_s]
    by_cases q1 : c = s
    · rw [if_pos q1, if_pos (by omega), o, fa_or, show kk = a by omega]
    · rw [if_neg q1, if_neg (by omega), o]
  · rw [s7 132 (by decide) (by decide)]; exact r0
  · rw [s7 133 (by decide) (by decide)]; exact r1
  · rw [s7 136 (by decide) (by decide)]; exact r4
  · rw [s7 137 (by decide) (by decide)]; exact r6
  · rw [hS 138 r (Or.inl ⟨by omega, rfl⟩), if_pos ⟨rfl, rfl⟩]
  · rw [s20 141 s (by decide) (by decide) hs]; exact rc s hs
  · rw [s20 139 s (by decide) (by decide) hs, s20 140 s (by decide) (by decide) hs]; exact rn hk s hs
  · have hq : ∀ d, 142 ≤ d → d < 145 → rwQ r d (12 * r + k) := fun d i1 i2 => Or.inr (Or.inr ⟨by omega, by omega, by omega⟩)
    by_cases q1 : k = nr
    · rw [q1] at hq ⊢
      rw [put1_s, put1_s, put1_s]
      refine ⟨?_, ?_, ?_⟩
      · rw [hS 142 _ (hq 142 (by decide) (by decide)), if_neg (by omega), if_pos ⟨rfl, rfl⟩]
      · rw [hS 143 _ (hq 143 (by decide) (by decide)), if_neg (by omega), if_neg (by omega), if_pos ⟨rfl, rfl⟩]
      · rw [hS 144 _ (hq 144 (by decide) (by decide)), if_neg (by omega), if_neg (by omega), if_neg (by omega), if_pos ⟨rfl, rfl⟩]
    · rw [put1_n q1, put1_n q1, put1_n q1]
      have o := rs k (by omega)
      refine ⟨?_, ?_, ?_⟩
      · rw [hS 142 _ (hq 142 (by decide) (by decide)), if_neg (by omega), if_neg (by omega), if_neg (by omega), if_neg (by omega)]; exact o.1
      · rw [hS 143 _ (hq 143 (by decide) (by decide)), if_neg (by omega), if_neg (by omega), if_neg (by omega), if_neg (by omega)]; exact o.2.1
      · rw [hS 144 _ (hq 144 (by decide) (by decide)), if_neg (by omega), if_neg (by omega), if_neg (by omega), if_neg (by omega)]; exact o.2.2
  · rw [pn 2 (by decide)]; exact h1.1
  · rw [pn 3 (by decide)]; exact h1.2
  · rw [s7 134 (by decide) (by decide)]; exact h2.1
  · rw [s7 135 (by decide) (by decide)]; exact h2.2
theorem cb_58 (h : ¬ N.1 3 7 = 0) (x y s : Int32) : fX4_readBond_58 N p x y s = rI 0 N := by
  unfold fX4_readBond_58
  rw [if_neg h]
/-- a rule -/
theorem rdBond (hP : v_isP p) (hr : r < 12) (h : gd N S L b t e q) (hX : plX N S p r kd z lw ot m nr fr F T C Kd A B) {w : Nat} (hk : (kd = 1 ∧ w = (if wdB b t e q 8 = true then 0 else 1)) ∨ (kd = 2 ∧ w = 0 ∧ ¬ wdB b t e q 8 = true)) :
    ∃ N' S' x, fX4_readBond N p = rI x N' ∧ fX11_readRule S (nI r) (nI w) = rV S' ∧ frP p N N' ∧ frQ r S S' ∧ ((x = 1 ∧ (∃ t' e' q', gd N' S' L b t' e' q' ∧ q ≤ e') ∧ plE N' S' p r) ∨ (x = 0 ∧ bd N' S')) := by
  have hpb := v_isP_b hP
  have hm20 := plV_m hX.1
  have hnr : nr ≤ 12 := hX.1.2.2.1
  have c4 : N.1 p 4 = nI m := hX.2.1.2.2.1
  have c5 : N.1 p 5 = nI nr := hX.2.1.2.2.2.1
  have c0 : N.1 p 0 = nI kd := hX.2.1.1
  have r6 : S.1 136 r = nI m := hX.2.2.1.2.2.1
  have r8 : S.1 138 r = nI nr := hX.2.2.1.2.2.2.2.1
  have v12 : v_in (nI r) 12 = true := v_in_nI (by omega) (by decide)
  have e12 : ∀ k : Nat, (12 : Int32) * nI r + nI k = nI (12 * r + k) := fun k => by rw [show (12 : Int32) = nI 12 from rfl, nI_mul, nI_add]
  have hw1 : w ≤ 1 := by
    rcases hk with hk | hk
    · rw [hk.2]
      split <;> decide
    · omega
  have hm12 : m ≤ 12 := by
    obtain ⟨-, -, -, -, -, -, h6, h7, -⟩ := hX.1
    rcases hk with hk | hk
    · exact h6 hk.1
    · have := h7 hk.1
      omega
  unfold fX4_readBond fX11_readRule
  rw [c5, if_pos h.2.2, if_pos v12, nI_clamp (n := r) (by omega), r8]
  by_cases hn : nr = 12
  · have hb := mkbad h (k := 2) (by decide) (by decide)
    have nb := bd_b hb.2.2.1
    refine ⟨_, _, 0, ?_, ?_, frP_A hb.2.2.2.1, frQ_B hb.2.2.2.2, Or.inr ⟨rfl, hb.2.2.1⟩⟩
    · rw [if_neg (show ¬ nI nr < 12 from nI_nlt (show 12 ≤ nr by omega) (by omega)), show fX4_fail N 2 = rI 0 (v_si N 3 7 (nI 2)) from hb.1, bi_I, if_pos (show v_nz 0 = 0 by decide)]
    · rw [if_pos (show nI nr = 12 by rw [hn]; rfl), show fX11_wrong S 2 = rV (v_si (v_si S 130 38 (nI 2)) 130 39 (nI e)) from hb.2.1, bv_V]
      unfold fX11_readRule_23
      rw [if_neg nb.1]
  · have hn' : nr < 12 := by omega
    have v144 : v_in (nI (12 * r + nr)) 144 = true := v_in_nI (by omega) (by decide)
    have hA2 : rwQ r 142 (12 * r + nr) := Or.inr (Or.inr ⟨by omega, by omega, by omega⟩)
    have hA3 : rwQ r 143 (12 * r + nr) := Or.inr (Or.inr ⟨by omega, by omega, by omega⟩)
    have hA4 : rwQ r 144 (12 * r + nr) := Or.inr (Or.inr ⟨by omega, by omega, by omega⟩)
    have hA8 : rwQ r 138 r := Or.inl ⟨by omega, rfl⟩
    obtain ⟨N1, S1, t1, e1, q1, a1, a2, a3, a4, a5, a6⟩ := adv h
    have hee : e1 ≤ q1 := a5.1.2.2.2.2.2.2.2.2.2.2.2.2.2.1
    have n0 : N1.1 p = N.1 p := a3.2.1 p (by omega)
    rw [if_pos (show nI nr < 12 from nI_lt hn' (by decide)), c_isW h.1 (id := 8) (by decide), bi_I, a1, bv_V, n0, c4, if_neg (show ¬ nI nr = 12 from fun zz => hn ((nI_eq (b := 12) (by omega) (by decide)).mp zz))]
    unfold fX11_readRule_23
    rw [if_pos h.2.2, a2, bv_V, if_pos v12, nI_clamp (n := r) (by omega), a4.2.1 138 (by decide), r8, e12, if_pos v144, if_pos v12, nI_clamp (n := 12 * r + nr) (by omega)]
    generalize hQ1 : v_si S1 142 (12 * r + nr) (nI w) = Q1
    have g1 : gd N1 Q1 L b t1 e1 q1 := by rw [← hQ1]; exact gd_Q a5 (by decide)
    have f1 : frQ r S Q1 := by rw [← hQ1]; exact frQ_t (frQ_B a4) (frQ_s hA2)
    have Q16 : Q1.1 136 r = nI m := by rw [← hQ1, si_c (by decide), a4.2.1 136 (by decide)]; exact r6
    have x1 : ∀ d j, d ≠ 130 → Q1.1 d j = if d = 142 ∧ j = 12 * r + nr then nI w else S.1 d j := fun d j hd => by
      rw [← hQ1]
      show (if d = 142 ∧ j = 12 * r + nr then nI w else S1.1 d j) = _
      rw [a4.2.1 d hd]
    obtain ⟨N2, S2, x2, y2, u1, u2, u3, u4, u5⟩ := rdOne g1 (n := m) (by omega) (P := fun _ => False) (x2 := -1) (x3 := -1) (y2 := -1) (y3 := 0) (fun v hv X Y => one_F hv X Y) (fun v _ X Y => two_F v X Y)
    rw [u1, bi_I, Q16, u2, bi_I, if_pos v144, if_pos v12, if_pos v144]
    generalize hQ2 : v_si S2 143 (12 * r + nr) y2 = Q2
    have f2 : frQ r S Q2 := by rw [← hQ2]; exact frQ_t (frQ_t f1 (frQ_B u4)) (frQ_s hA3)
    have Q26 : Q2.1 136 r = nI m := by rw [← hQ2, si_c (by decide), u4.2.1 136 (by decide)]; exact Q16
    have Q23 : Q2.1 143 (12 * r + nr) = y2 := by rw [← hQ2, si_s]
    have x2' : ∀ d j, d ≠ 130 → Q2.1 d j = if d = 142 ∧ j = 12 * r + nr then nI w else if d = 143 ∧ j = 12 * r + nr then y2 else S.1 d j := fun d j hd => by
      rw [← hQ2]
      show (if d = 143 ∧ j = 12 * r + nr then y2 else S2.1 d j) = _
      rw [u4.2.1 d hd, x1 d j hd]
      by_cases zz : d = 142 ∧ j = 12 * r + nr
      · rw [if_pos zz, if_neg (by omega), if_pos zz]
      · rw [if_neg zz, if_neg zz]
    rw [Q26, Q23]
    have tail : ∀ (M : vM) (y : Int32), M.1 138 r = nI nr → (bi (rI y M) fun y28 M29 => if v_in (nI (12 * r + nr)) 144 = true then if v_in (nI r) 12 = true then if v_in (nI r) 12 = true then bv (fX11_semi (v_si (v_si M29 144 (12 * r + nr) y28) 138 r (((v_si M29 144 (12 * r + nr) y28).1 138 r) + 1))) fun M35 => rV M35 else none else none else none) = bv (fX11_semi (v_si (v_si M 144 (12 * r + nr) y) 138 r (nI (nr + 1)))) fun M35 => rV M35 := fun M y hM => by
      rw [bi_I, if_pos v144, if_pos v12, if_pos v12, si_c (by decide), hM, nI_1]
    rcases u5 with ⟨a, t2, e2, q2, rfl, rfl, ha, -, g2, g2'⟩ | hbad
    · have hee2 : e2 ≤ q2 := g2.1.2.2.2.2.2.2.2.2.2.2.2.2.2.1
      have gQ2 : gd N2 Q2 L b t2 e2 q2 := by rw [← hQ2]; exact gd_Q g2 (by decide)
      have n2 : N2.1 p 4 = nI m := by rw [u3.2.1 p (by omega), n0]; exact c4
      obtain ⟨N3, S3, x3, y3, w1, w2, w3, w4, w5⟩ := rdOne gQ2 (n := m) (by omega) (P := fun v => v = a) (x2 := -1) (x3 := nI a) (y2 := nI a) (y3 := 0) (fun v hv X Y => by
        rw [if_neg (fun zz => nI_pos (show v < 2 ^ 31 by omega) (Int32.lt_of_le_of_lt zz (by decide)))]
        by_cases zz : v = a
        · rw [if_pos (congrArg nI zz), if_pos zz]
        · rw [if_neg (fun yy => zz ((nI_eq (by omega) (by omega)).mp yy)), if_neg zz]) (fun v hv X Y => by
        rw [if_neg (nI_ne1 (by omega)), if_pos rfl]
        by_cases zz : v = a
        · rw [if_pos (congrArg nI zz), if_pos zz]
        · rw [if_neg (fun yy => zz ((nI_eq (by omega) (by omega)).mp yy)), if_neg zz])
      have m38 : S3.1 138 r = nI nr := by rw [w4.2.1 138 (by decide), x2' 138 r (by decide), if_neg (by omega), if_neg (by omega)]; exact r8
      rw [if_pos g2.2.1, n2, w1, bi_I, w2, tail S3 y3 m38]
      generalize hU : v_si (v_si S3 144 (12 * r + nr) y3) 138 r (nI (nr + 1)) = U
      have fU : frQ r S U := by rw [← hU]; exact frQ_t (frQ_t (frQ_t f2 (frQ_B w4)) (frQ_s hA4)) (frQ_s hA8)
      have xU : ∀ d j, d ≠ 130 → U.1 d j = if d = 138 ∧ j = r then nI (nr + 1) else if d = 144 ∧ j = 12 * r + nr then y3 else if d = 142 ∧ j = 12 * r + nr then nI w else if d = 143 ∧ j = 12 * r + nr then nI a else S.1 d j := fun d j hd => by
        rw [← hU]
        show (if d = 138 ∧ j = r then nI (nr + 1) else if d = 144 ∧ j = 12 * r + nr then y3 else S3.1 d j) = _
        rw [w4.2.1 d hd, x2' d j hd]
      rcases w5 with ⟨c, t3, e3, q3, rfl, rfl, hc, hca, g3, g3'⟩ | hbad
      · have gU : gd N3 U L b t3 e3 q3 := by rw [← hU]; exact gd_Q (gd_Q g3 (by decide)) (by decide)
        have hee3 : e3 ≤ q3 := g3.1.2.2.2.2.2.2.2.2.2.2.2.2.2.1
        obtain ⟨N4, S4, x, k1, k2, k3, k4, k5⟩ := rdSemi gU
        have fA : frA N N4 := frA_t a3 (frA_t u3 (frA_t w3 k3))
        rw [k2, bv_V]
        unfold fX4_readBond_58
        rw [if_pos g3.2.1, k1, bi_I]
        rcases k5 with ⟨rfl, t4, e4, q4, g4, g4'⟩ | ⟨rfl, g4⟩
        · rw [if_neg (show ¬ (1 : Int32) = 0 by decide)]
          have n4 : ∀ d, 3 < d → N4.1 d = N.1 d := fun d hd => fA.2.1 d (by omega)
          rw [show N4.1 p 5 = nI nr from by rw [n4 p (by omega)]; exact c5, nI_1, si_n (show (0 : Nat) ≠ 5 by decide), show N4.1 p 0 = nI kd from by rw [n4 p (by omega)]; exact c0]
          -- all three kinds end so
          have fin : ∀ dd jj kk : Nat, ((kd = 1 ∧ w = 0 ∧ dd = p + 5 ∧ jj = a ∧ kk = c) ∨ (kd = 1 ∧ w = 1 ∧ dd = p + 4 ∧ jj = a ∧ kk = c) ∨ (kd = 2 ∧ dd = p + 4 ∧ jj = c ∧ kk = a)) →
              ∃ N' S' x, rI 1 (v_si (v_si N4 p 5 (nI (nr + 1))) dd jj ((v_si N4 p 5 (nI (nr + 1))).1 dd jj ||| nI (2 ^ kk))) = rI x N' ∧ rV S4 = rV S' ∧ frP p N N' ∧ frQ r S S' ∧ ((x = 1 ∧ (∃ t' e' q', gd N' S' L b t' e' q' ∧ q ≤ e') ∧ plE N' S' p r) ∨ (x = 0 ∧ bd N' S')) := by
            intro dd jj kk hd
            have hdd : p + 4 ≤ dd ∧ dd ≤ p + 5 := by omega
            refine ⟨_, S4, 1, rfl, rfl, frP_t (frP_A fA) (frP_t (frP_s (by omega) (by omega) (by omega)) (frP_s (by omega) (by omega) (by omega))), frQ_t fU (frQ_B k4), Or.inl ⟨rfl, ⟨t4, e4, q4, gd_P (p' := 0) (gd_P (p' := 0) g4 (by omega)) (by omega), by omega⟩, ?_⟩⟩
            refine ⟨kd, z, lw, ot, m, nr + 1, fr, F, T, C, put1 Kd nr w, put1 A nr a, put1 B nr c, plX_bond hX hn' ha hc hw1 hd (fun d j i1 i2 => ?_) (fun d j hq => ?_)⟩
            · show (if d = dd ∧ j = jj then ((if dd = p ∧ jj = 5 then nI (nr + 1) else N4.1 dd jj) ||| nI (2 ^ kk)) else if d = p ∧ j = 5 then nI (nr + 1) else N4.1 d j) = _
              rw [n4 d (by omega), if_neg (show ¬ (dd = p ∧ jj = 5) by omega), n4 dd (by omega)]
              by_cases zz : d = dd ∧ j = jj
              · rw [if_pos zz, if_neg (by omega), if_pos zz, zz.1, zz.2]
              · rw [if_neg zz, if_neg zz]
            · have hd0 : d ≠ 130 := by
                unfold rwQ at hq
                omega
              rw [k4.2.1 d hd0, xU d j hd0]
              by_cases z1 : d = 138 ∧ j = r
              · rw [if_pos z1, if_pos z1]
              · rw [if_neg z1, if_neg z1]
                by_cases z2 : d = 144 ∧ j = 12 * r + nr
                · rw [if_pos z2, if_neg (by omega), if_neg (by omega), if_pos z2]
                · rw [if_neg z2, if_neg z2]
          rcases hk with ⟨hk1, hk2⟩ | ⟨hk1, hk2, hk3⟩
          · by_cases q8 : wdB b t e q 8 = true
            · rw [if_pos q8] at hk2
              rw [if_pos q8, if_neg (show ¬ (1 : Int32) = 0 by decide), c_bar hP (by omega) (by omega), bv_V]
              exact fin (p + 5) a c (Or.inl ⟨hk1, hk2, rfl, rfl, rfl⟩)
            · rw [if_neg q8] at hk2
              rw [if_neg q8, if_pos (show (0 : Int32) = 0 from rfl), if_pos (show nI kd = 1 by rw [hk1]; rfl), c_need hP (by omega) (by omega), bv_V]
              exact fin (p + 4) a c (Or.inr (Or.inl ⟨hk1, hk2, rfl, rfl, rfl⟩))
          · rw [if_neg hk3, if_pos (show (0 : Int32) = 0 from rfl), if_neg (show ¬ nI kd = 1 by rw [hk1]; decide), c_need hP (by omega) (by omega), bv_V]
            exact fin (p + 4) c a (Or.inr (Or.inr ⟨hk1, rfl, rfl, rfl⟩))
        · rw [if_pos (show (0 : Int32) = 0 from rfl)]
          exact ⟨N4, S4, 0, rfl, rfl, frP_A fA, frQ_t fU (frQ_B k4), Or.inr ⟨rfl, g4⟩⟩
      · have bU : bd N3 U := by rw [← hU]; exact bd_Q (bd_Q hbad (by decide)) (by decide)
        have nb := bd_b bU
        exact ⟨N3, U, 0, cb_58 nb.2 _ _ _, by rw [b_semi nb.1, bv_V], frP_A (frA_t a3 (frA_t u3 w3)), fU, Or.inr ⟨rfl, bU⟩⟩
    · have bQ : bd N2 Q2 := by rw [← hQ2]; exact bd_Q hbad (by decide)
      have nb := bd_b bQ
      have m38 : Q2.1 138 r = nI nr := by rw [x2' 138 r (by decide), if_neg (by omega), if_neg (by omega)]; exact r8
      rw [if_neg nb.2, b_one nb.1, tail Q2 0 m38]
      have bU : bd N2 (v_si (v_si Q2 144 (12 * r + nr) 0) 138 r (nI (nr + 1))) := bd_Q (bd_Q bQ (by decide)) (by decide)
      exact ⟨N2, _, 0, cb_58 nb.2 _ _ _, by rw [b_semi (bd_b bU).1, bv_V], frP_A (frA_t a3 u3), frQ_t (frQ_t f2 (frQ_s hA4)) (frQ_s hA8), Or.inr ⟨rfl, bU⟩⟩
end P56
