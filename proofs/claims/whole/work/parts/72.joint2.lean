section P32
variable {M N : vM} {i j : Nat}
theorem jBet_r {A : Nat → Nat → Int32} {k : Nat} {b c : Int32} (hne : ¬ b = -1) : jBet A i j k b c = (decide (gcC A i j (qN (A 147 (2000 * i + k))) < c) || (decide (gcC A i j (qN (A 147 (2000 * i + k))) = c) && decide (A 147 (2000 * i + k) < b))) := by
  unfold jBet
  rw [decide_eq_false hne, Bool.false_or]
theorem r_j70 (h : rWk M i) (h2 : rWk M j) (hi : i < 6) (hj : j < 6) (hk2 : M.1 132 j = 1) {v : Int32} : ∀ (n f k : Nat) (b c : Int32), n < f → k + n = qC M i → jInv M.1 i j b c →
    fX11_joint_70 f M (nI i) (nI j) v b c (nI k) = fX11_joint_70 (f - n) M (nI i) (nI j) v (jF M.1 i j n k b c).1 (jF M.1 i j n k b c).2 (nI (qC M i)) := by
  have hcc := wkC h
  have hcj := wkC h2
  intro n
  induction n with
  | zero =>
    intro f k b c hf hk hv
    rw [show k = qC M i by omega]
    rfl
  | succ n ih =>
    intro f k b c hf hk hv
    cases f with
    | zero => exact absurd hf (Nat.not_lt_zero _)
    | succ f =>
      have hkc : k < qC M i := by omega
      obtain ⟨k1, k2⟩ := mk_lt h hkc
      have ej : jF M.1 i j (n + 1) k b c = if (jOk M.1 i j k && jBet M.1 i j k b c) = true then jF M.1 i j n (k + 1) (M.1 147 (2000 * i + k)) (gcC M.1 i j (qN (M.1 147 (2000 * i + k)))) else jF M.1 i j n (k + 1) b c := rfl
      have stay : (jOk M.1 i j k && jBet M.1 i j k b c) = false → fX11_joint_70 f M (nI i) (nI j) v b c (nI (k + 1)) = fX11_joint_70 (f + 1 - (n + 1)) M (nI i) (nI j) v (jF M.1 i j (n + 1) k b c).1 (jF M.1 i j (n + 1) k b c).2 (nI (qC M i)) := fun e => by
        rw [ej, e, if_neg (by decide), show f + 1 - (n + 1) = f - n by omega]
        exact ih f (k + 1) b c (by omega) (by omega) hv
      have take : jOk M.1 i j k = true → jBet M.1 i j k b c = true → fX11_joint_70 f M (nI i) (nI j) v (M.1 147 (2000 * i + k)) (gcC M.1 i j (qN (M.1 147 (2000 * i + k)))) (nI (k + 1)) = fX11_joint_70 (f + 1 - (n + 1)) M (nI i) (nI j) v (jF M.1 i j (n + 1) k b c).1 (jF M.1 i j (n + 1) k b c).2 (nI (qC M i)) := fun e1 e2 => by
        rw [ej, e1, e2, if_pos (by decide), show f + 1 - (n + 1) = f - n by omega]
        exact ih f (k + 1) _ _ (by omega) (by omega) (Or.inr ⟨k, hkc, e1, rfl, rfl⟩)
      rw [show fX11_joint_70 (f + 1) M (nI i) (nI j) v b c (nI k) = _ from by unfold fX11_joint_70; rfl]
      rw [if_pos (v_in_nI hi (by decide)), nI_clamp (by omega), hcc.2.2, if_neg (nI_ge (by omega) (by omega)), r_markOf hi (by omega), bi_I, r_findOf h2 hj, bi_I]
      by_cases o : jOk M.1 i j k = true
      · have o9 := o
        unfold jOk at o9
        simp only [Bool.and_eq_true, Bool.not_eq_true', decide_eq_false_iff_not, decide_eq_true_eq] at o9
        obtain ⟨o1, o2, o3⟩ := o9
        rcases sFind_in (A := M.1) (i := j) (x := M.1 147 (2000 * i + k)) with z | ⟨w, a1, a2, a3⟩
        · exact absurd z o2
        have hw : w < qC M j := a2
        rw [a1, qN_nI (by omega)] at o3
        rw [a1, if_neg (nI_ne1 (by omega)), e_ix, if_pos (r_in hi (by omega)), nI_clamp (by omega), if_pos o1, e_ix, if_pos (r_in hj (by omega)), nI_clamp (by omega), if_pos o3]
        have ejc : fX11_jointCost M (nI i) (nI j) (M.1 147 (2000 * i + k)) = rI (gcC M.1 i j (qN (M.1 147 (2000 * i + k)))) M := by
          unfold fX11_jointCost
          have := r_jc (M := M) (m := qN (M.1 147 (2000 * i + k))) hi hj 12 FU 0 0 (FU_lt (by decide)) rfl
          rw [show nI (qN (M.1 147 (2000 * i + k))) = M.1 147 (2000 * i + k) from k1.symm] at this
          exact this
        rw [ejc, bi_I, nI_1]
        by_cases b1 : b = -1
        · rw [if_pos b1]
          exact take o (by unfold jBet; rw [decide_eq_true b1, Bool.true_or])
        · rw [if_neg b1]
          by_cases b2 : c < gcC M.1 i j (qN (M.1 147 (2000 * i + k)))
          · rw [if_pos b2]
            refine stay ?_
            rw [jBet_r b1, decide_eq_false (fa_of_lt b2).2.2.1, decide_eq_false (fa_of_lt b2).2.2.2.2, Bool.false_and, Bool.or_false, Bool.and_false]
          · rw [if_neg b2]
            by_cases b3 : gcC M.1 i j (qN (M.1 147 (2000 * i + k))) = c
            · rw [if_pos b3]
              by_cases b4 : M.1 147 (2000 * i + k) < b
              · rw [if_pos (fa_of_lt b4).1]
                exact take o (by rw [jBet_r b1, decide_eq_true b3, decide_eq_true b4, Bool.and_true, Bool.or_true])
              · have e5 : (jOk M.1 i j k && jBet M.1 i j k b c) = false := by
                  rw [jBet_r b1, decide_eq_false b4, Bool.and_false, Bool.or_false, decide_eq_false (by rw [b3]; exact fun z => (fa_of_lt z).2.2.1 z), Bool.and_false]
                by_cases b5 : M.1 147 (2000 * i + k) ≤ b
                · rw [if_pos b5]
                  have b6 : M.1 147 (2000 * i + k) = b := Classical.byContradiction fun z => b4 (fa_le_ne b5 z)
                  rw [b3, b6]
                  exact stay e5
                · rw [if_neg b5]
                  exact stay e5
            · rw [if_neg b3]
              refine take o ?_
              rw [jBet_r b1, decide_eq_true (fa_le_ne (fa_of_nlt b2) b3), Bool.true_or]
      · have e5 : (jOk M.1 i j k && jBet M.1 i j k b c) = false := by rw [Bool.eq_false_iff.mpr o, Bool.false_and]
        have st := stay e5
        rcases sFind_in (A := M.1) (i := j) (x := M.1 147 (2000 * i + k)) with z | ⟨w, a1, a2, a3⟩
        · rw [z, if_pos rfl, nI_1]
          exact st
        · have hw : w < qC M j := a2
          rw [a1, if_neg (nI_ne1 (by omega)), e_ix, if_pos (r_in hi (by omega)), nI_clamp (by omega)]
          by_cases o1 : M.1 148 (2000 * i + k) = 0
          · have o3 : ¬ M.1 148 (2000 * j + w) = 0 := fun z => o (by
              unfold jOk
              rw [a1, qN_nI (by omega), decide_eq_true o1, decide_eq_true z, decide_eq_false (nI_ne1 (by omega))]
              rfl)
            rw [if_pos o1, e_ix, if_pos (r_in hj (by omega)), nI_clamp (by omega), if_neg o3, nI_1]
            exact st
          · rw [if_neg o1, nI_1]
            exact st
theorem jF_g {A B : Nat → Nat → Int32} (h1 : A 141 = B 141) (h2 : A 145 = B 145) (h3 : A 147 = B 147) (h4 : A 148 = B 148) : ∀ n k b c, jF A i j n k b c = jF B i j n k b c := by
  have e1 : ∀ m n k a, gcS A i j m n k a = gcS B i j m n k a := by
    intro m n
    induction n with
    | zero => intro k a; rfl
    | succ n ih =>
      intro k a
      show gcS A i j m n (k + 1) _ = gcS B i j m n (k + 1) _
      rw [ih, h1]
  have e2 : ∀ x, sFind A j x = sFind B j x := fun x => by
    unfold sFind
    simp only [h2, h3]
  have e3 : ∀ k, jOk A i j k = jOk B i j k := fun k => by
    unfold jOk
    simp only [h3, h4, e2]
  have e4 : ∀ k b c, jBet A i j k b c = jBet B i j k b c := fun k b c => by
    unfold jBet gcC
    simp only [h3, e1]
  intro n
  induction n with
  | zero => intro k b c; rfl
  | succ n ih =>
    intro k b c
    unfold jF gcC
    simp only [e3, e4, h3, e1, ih]
theorem uL_at0 {A : Nat → Nat → Int32} {k : Nat} (h1 : k < qN (A 145 i)) (h2 : A 148 (2000 * i + k) = 0) : 0 < (uL A i).length := by
  have := uL_in (A := A) (i := i) h1 h2
  exact List.length_pos_of_mem this
theorem nI_eq_iff {a b : Nat} (ha : a < 2 ^ 31) (hb : b < 2 ^ 31) : nI a = nI b ↔ a = b := ⟨fun e => Classical.byContradiction fun z => nI_ne ha hb z e, fun e => by rw [e]⟩
theorem o18 (h : Rel M) (x y z : Int32) : okS (fun K => gWr (fL_joint M x y z) (fun M1 => fX11_joint M1 x y z) K) := by
  unfold fL_joint
  have hW6 : qW M ≤ 6 := h.wks.2.2
  rcases isWk h x with ⟨a, b⟩ | ⟨i, hi, rfl⟩
  · refine fin_f1 h (by unfold fX10_joint; rw [a]; rfl) rfl ?_
    unfold fX11_joint
    rw [b (v_si M 130 1 0) rfl, bi_I, if_pos rfl]
    rfl
  rcases isWk h y with ⟨a, b⟩ | ⟨j, hj, rfl⟩
  · refine fin_f1 h (by unfold fX10_joint; rw [wOf h hi, br_R, a]; rfl) rfl ?_
    unfold fX11_joint
    rw [rOf (c0 h) hi, bi_I, if_neg (by decide), b (v_si M 130 1 0) rfl, bi_I, if_pos rfl]
    rfl
  have h6 : i < 6 := by omega
  have hj6 : j < 6 := by omega
  have hwk := h.wk hi
  have hwj := h.wk hj
  have ki : M.1 (qp M i) 0 = M.1 132 i := hwk.1.1
  have kj : M.1 (qp M j) 0 = M.1 132 j := hwj.1.1
  -- the reference's questions, all with the one refusal
  have r0 : ∀ S : vM, Rel S → i < qW S → j < qW S → S.1 132 = M.1 132 → S.1 130 1 = 0 → fX11_joint S (nI i) (nI j) z = if nI i = nI j then fX11_joint_55 S else if M.1 132 i = 1 then if M.1 132 j = 1 then bi (fX11_isIn S z 0 2) fun y82 M83 => if y82 = 0 then fX11_joint_55 M83 else fX11_joint_70 FU M83 (nI i) (nI j) z (-1) 0 0 else fX11_joint_55 S else fX11_joint_55 S := fun S hS h1 h3 h132 h01 => by
    unfold fX11_joint
    rw [si_id h01, rOf hS h1, bi_I, if_neg (by decide), rOf hS h3, bi_I, if_neg (by decide), if_pos (v_in_nI (by omega) (by decide)), if_pos (v_in_nI (by omega) (by decide)), nI_clamp (by omega), nI_clamp (by omega), h132]
  have rM : fX11_joint M (nI i) (nI j) z = fX11_joint (v_si M 130 1 0) (nI i) (nI j) z := by
    unfold fX11_joint
    rw [si_id (N := v_si M 130 1 0) (c := 130) (j := 1) (x := 0) si_s]
  have bad : (¬ (∃ v, v < 3 ∧ z = nI v)) ∨ i = j ∨ ¬ M.1 132 i = 1 ∨ ¬ M.1 132 j = 1 → fX11_joint M (nI i) (nI j) z = rI 0 (v_si (v_si M 130 1 0) 130 1 1) := fun hb => by
    rw [rM, r0 _ (c0 h) hi hj (si_c (by decide)) si_s]
    by_cases q1 : i = j
    · rw [q1, if_pos rfl]
      rfl
    rw [if_neg (nI_ne (by omega) (by omega) q1)]
    by_cases q2 : M.1 132 i = 1
    · rw [if_pos q2]
      by_cases q3 : M.1 132 j = 1
      · rw [if_pos q3]
        have q4 : ¬ (∃ v, v < 3 ∧ z = nI v) := by
          rcases hb with w | w | w | w
          · exact w
          · exact absurd w q1
          · exact absurd q2 w
          · exact absurd q3 w
        rcases wWhat (M := M) (x := z) (n := 3) (by decide) with ⟨-, b⟩ | w
        · rw [rWhat3 b, bi_I, if_pos rfl]
          rfl
        · exact absurd w q4
      · rw [if_neg q3]
        rfl
    · rw [if_neg q2]
      rfl
  rcases wWhat (M := M) (x := z) (n := 3) (by decide) with ⟨a, b⟩ | ⟨v, hv, rfl⟩
  · refine fin_f1 h (by unfold fX10_joint; rw [wOf h hi, br_R, wOf h hj, br_R, show (3 : Int32) = nI 3 from rfl, a]; rfl) rfl (bad (Or.inl ?_))
    rintro ⟨v, hv, rfl⟩
    rcases b with b | ⟨k, b1, b2, b3⟩
    · exact nI_pos (by omega) b
    · exact absurd ((nI_eq_iff (by omega) b2).mp b3) (by omega)
  have c0' : fX10_joint M (nI i) (nI j) (nI v) = if nI i = nI j then rT 1 M else if M.1 132 i = 1 then if M.1 132 j = 1 then bi (fX9_cheapestShared M (qw i) (qw j)) fun y22 M23 => if y22 = ((-1)) then if nI v = 2 then rI 0 M23 else rI ((-1)) M23 else bi (fX3_greaterCosts M23 (M23.2.2 (qw i) 0 - 1) (M23.2.2 (qw j) 0 - 1) y22) fun y27 M28 => if nI v = 0 then rI y22 M28 else if nI v = 1 then rI y27 M28 else bi (fX9_nextUnspent M28 (qw i) 0) fun y33 M34 => bi (fX9_costOf M34 (qw i) y33) fun y37 M38 => bi (fX9_nextUnspent M38 (qw j) 0) fun y41 M42 => bi (fX9_costOf M42 (qw j) y41) fun y45 M46 => rI ((y37 + y45) - y27) M46 else rT 1 M else rT 1 M := by
    unfold fX10_joint
    rw [wOf h hi, br_R, wOf h hj, br_R, show fX10_refuseUnlessWhat M (nI v) 3 = rV M from wWhatY (n := 3) hv (by decide), bv_V, show M.2.2 (qw i) 0 - 1 = qp M i from rfl, show M.2.2 (qw j) 0 - 1 = qp M j from rfl, ki, kj]
  by_cases q1 : i = j
  · exact fin_f1 h (by rw [c0', q1, if_pos rfl]) rfl (bad (Or.inr (Or.inl q1)))
  by_cases q2 : ¬ M.1 132 i = 1
  · exact fin_f1 h (by rw [c0', if_neg (nI_ne (by omega) (by omega) q1), if_neg q2]) rfl (bad (Or.inr (Or.inr (Or.inl q2))))
  have q2 := Classical.not_not.mp q2
  by_cases q3 : ¬ M.1 132 j = 1
  · exact fin_f1 h (by rw [c0', if_neg (nI_ne (by omega) (by omega) q1), if_pos q2, if_neg q3]) rfl (bad (Or.inr (Or.inr (Or.inr q3))))
  have q3 := Classical.not_not.mp q3
  have hP := (qp_P h.pl.1 h6).1
  have hP2 := (qp_P h.pl.1 hj6).1
  have hcc := wkC hwk
  have hcj := wkC hwj
  have hinv := jF_inv (A := M.1) (i := i) (j := j) (qC M i) 0 (-1) 0 (Nat.zero_add _) (Or.inl rfl)
  have ecs : fX9_cheapestShared M (qw i) (qw j) = rI (jF M.1 i j (qC M i) 0 (-1) 0).1 M := c_sh hwk hwj h6 hj6 q2 q3 hP hP2 (qC M i) FU 0 (-1) 0 (FU_lt (by omega)) (Nat.zero_add _)
  generalize hJ : jF M.1 i j (qC M i) 0 (-1) 0 = J at hinv ecs
  generalize hz : (if J.1 = -1 then (if v = 2 then 0 else -1) else if v = 0 then J.1 else if v = 1 then J.2 else M.1 146 (2000 * i + (uL M.1 i).getD 0 0) + M.1 146 (2000 * j + (uL M.1 j).getD 0 0) - J.2 : Int32) = zz
  have lens2 : ¬ J.1 = -1 → 0 < (uL M.1 i).length ∧ 0 < (uL M.1 j).length ∧ ∃ m, m < 2 ^ qit M i ∧ m < 2 ^ qit M j ∧ J.1 = nI m ∧ J.2 = gcC M.1 i j m := fun hne => by
    rcases hinv with w | ⟨k, k1, k2, k3, k4⟩
    · exact absurd w hne
    · obtain ⟨m1, w, m2, m3, m4⟩ := jOk_mk hwj q3 k2
      have ho : M.1 148 (2000 * i + k) = 0 := by
        unfold jOk at k2
        exact of_decide_eq_true (Bool.and_eq_true_iff.mp k2).1
      refine ⟨uL_at0 k1 ho, uL_at0 m3 m4, qN J.1, ?_, by rw [k3]; exact m1, ?_, k4⟩
      · rw [k3]
        exact (wkSet hwk q2).2.2.2 k k1
      · rw [k3]
        exact (mk_lt hwk k1).1
  have hr : fX10_joint M (nI i) (nI j) (nI v) = rI zz M := by
    rw [c0', if_neg (nI_ne (by omega) (by omega) q1), if_pos q2, if_pos q3, ecs, bi_I, ← hz]
    by_cases w : J.1 = -1
    · rw [if_pos w, if_pos w]
      rcases (show v = 0 ∨ v = 1 ∨ v = 2 by omega) with rfl | rfl | rfl <;> rfl
    · obtain ⟨l1, l2, m, m1, m2, m3, m4⟩ := lens2 w
      have u1 := (uL_mem (getD_mem (uL M.1 i) 0 0 l1)).1
      have u2 := (uL_mem (getD_mem (uL M.1 j) 0 0 l2)).1
      rw [if_neg w, if_neg w, show M.2.2 (qw i) 0 - 1 = qp M i from rfl, show M.2.2 (qw j) 0 - 1 = qp M j from rfl, m4]
      rw [show fX3_greaterCosts M (qp M i) (qp M j) J.1 = rI (gcC M.1 i j m) M by rw [m3]; exact c_gcC hwk hwj q2 q3 hP hP2 m1 m2, bi_I]
      rcases (show v = 0 ∨ v = 1 ∨ v = 2 by omega) with rfl | rfl | rfl
      · rfl
      · rfl
      · rw [if_neg (by decide), if_neg (by decide), if_neg (by decide), if_neg (by decide), c_nx0 hwk, bi_I, show atL (uL M.1 i) 0 = nI ((uL M.1 i).getD 0 0) from if_pos l1, e_costOf hwk u1, bi_I, c_nx0 hwj, bi_I, show atL (uL M.1 j) 0 = nI ((uL M.1 j).getD 0 0) from if_pos l2, e_costOf hwj u2, bi_I]
  refine fin_ro h hr (fun M1 e hM1 => ?_)
  have h2 := c0 hM1
  have hi1 := qW_c (i := i) e hi
  have hj1 := qW_c (i := j) e hj
  have rd : ∀ c, c ≠ 130 → (v_si M1 130 1 0).1 c = M.1 c := fun c hc => by rw [si_c hc, e]
  have e9 : fX11_joint M1 (nI i) (nI j) (nI v) = fX11_joint (v_si M1 130 1 0) (nI i) (nI j) (nI v) := by
    unfold fX11_joint
    rw [si_id (N := v_si M1 130 1 0) (c := 130) (j := 1) (x := 0) si_s]
  rw [e9, r0 _ h2 hi1 hj1 (rd 132 (by decide)) si_s, if_neg (nI_ne (by omega) (by omega) q1), if_pos q2, if_pos q3, show fX11_isIn (v_si M1 130 1 0) (nI v) 0 2 = rI 1 _ from e_isIn1 (a := 0) (b := 2) (Nat.zero_le _) (by omega) (by decide), bi_I, if_neg (by decide)]
  generalize hS : v_si M1 130 1 0 = S at h2 hi1 hj1 rd
  have wi := h2.wk hi1
  have wj := h2.wk hj1
  have eC : qC S i = qC M i := by show qN (S.1 145 i) = _; rw [rd 145 (by decide)]; rfl
  have e70 := r_j70 wi wj h6 hj6 (by rw [rd 132 (by decide)]; exact q3) (v := nI v) (qC S i) FU 0 (-1) 0 (FU_lt (by omega)) (Nat.zero_add _) (Or.inl rfl)
  rw [nI_0] at e70
  rw [e70, eC, jF_g (rd 141 (by decide)) (rd 145 (by decide)) (rd 147 (by decide)) (rd 148 (by decide)), hJ]
  obtain ⟨f, hf⟩ : ∃ f, FU - qC M i = f + 1 := ⟨FU - qC M i - 1, by have : qC M i < FU := FU_lt (by omega); omega⟩
  rw [hf]
  unfold fX11_joint_70
  have eu : ∀ a, uL S.1 a = uL M.1 a := fun a => uL_g (rd 148 (by decide)) (rd 145 (by decide))
  rw [if_pos (v_in_nI h6 (by decide)), nI_clamp (by omega), rd 145 (by decide), hcc.2.2, if_pos (nI_le (Nat.le_refl _) (by omega)), ← hz]
  by_cases w : J.1 = -1
  · rw [if_pos w, if_pos w]
    rcases (show v = 0 ∨ v = 1 ∨ v = 2 by omega) with rfl | rfl | rfl <;> rfl
  · obtain ⟨l1, l2, -⟩ := lens2 w
    have u1 := uL_2000 hwk _ (getD_mem (uL M.1 i) 0 0 l1)
    have u2 := uL_2000 hwj _ (getD_mem (uL M.1 j) 0 0 l2)
    rw [if_neg w, if_neg w]
    rcases (show v = 0 ∨ v = 1 ∨ v = 2 by omega) with rfl | rfl | rfl
    · rfl
    · rfl
    · rw [if_neg (by decide), if_neg (by decide), if_neg (by decide), if_neg (by decide), r_leftAt wi h6, bi_I, show sLeft S.1 i 0 = nI ((uL M.1 i).getD 0 0) from (by rw [← nI_0, sLeft_at (r := 0) (by decide), eu]; exact if_pos l1), e_ix, if_pos (r_in h6 u1), r_leftAt wj hj6, bi_I, show sLeft S.1 j 0 = nI ((uL M.1 j).getD 0 0) from (by rw [← nI_0, sLeft_at (r := 0) (by decide), eu]; exact if_pos l2), e_ix, if_pos (r_in hj6 u2), nI_clamp (by omega), nI_clamp (by omega), rd 146 (by decide)]
end P32
