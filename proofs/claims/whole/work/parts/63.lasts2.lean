section P23
variable {M N : vM} {i : Nat}
theorem Rel_scr (h : Rel M) (h2 : N.2 = M.2) (hc : ∀ c, c ≠ 24 → c ≠ 25 → c ≠ 26 → N.1 c = M.1 c) : Rel N :=
  Rel_congr h (by rw [h2]) (fun c hcc => hc c (by omega) (by omega) (by omega)) (fun j hj => by rw [hc 130 (by decide) (by decide) (by decide)]) (fun c _ _ => by rw [h2])
theorem l_f17 (h : Rel M) (hi : i < qW M) {x : Int32} : ∀ (n f k : Nat) (N : vM), n < f → k + n = qC M i → N.2 = M.2 → (∀ c, c ≠ 24 → c ≠ 25 → c ≠ 26 → N.1 c = M.1 c) → (∀ j, j < k → N.1 25 j = M.1 148 (2000 * i + j)) →
    ∃ N', fX7_follow_17 f N (qw i) x (nI k) = fX7_follow_53 FU N' (qw i) x 0 ∧ N'.2 = M.2 ∧ (∀ c, c ≠ 24 → c ≠ 25 → c ≠ 26 → N'.1 c = M.1 c) ∧ N'.1 24 = N.1 24 ∧ N'.1 26 = N.1 26 ∧ ∀ j, j < qC M i → N'.1 25 j = M.1 148 (2000 * i + j) := by
  have hW : qW M ≤ 6 := h.wks.2.2
  have hcc := wkC (h.wk hi)
  have hq : qw i = 46 + 15 * i := rfl
  intro n
  induction n with
  | zero =>
    intro f k N hf hk h2 hc hg
    cases f with
    | zero => exact absurd hf (Nat.not_lt_zero _)
    | succ f =>
      refine ⟨N, ?_, h2, hc, rfl, rfl, fun j hj => hg j (by omega)⟩
      unfold fX7_follow_17
      rw [hc (qw i) (by omega) (by omega) (by omega), hcc.1, if_pos (nI_le (by omega) (by omega))]
  | succ n ih =>
    intro f k N hf hk h2 hc hg
    cases f with
    | zero => exact absurd hf (Nat.not_lt_zero _)
    | succ f =>
      have hR := Rel_scr h h2 hc
      have hiN : i < qW N := by show i < qN (N.1 130 2); rw [hc 130 (by decide) (by decide) (by decide)]; exact hi
      have eC : qC N i = qC M i := by show qN (N.1 145 i) = _; rw [hc 145 (by decide) (by decide) (by decide)]; rfl
      have es := e_isSp (hR.wk hiN) (k := k) (by omega)
      rw [hc 148 (by decide) (by decide) (by decide)] at es
      have hn : v_nz (M.1 148 (2000 * i + k)) = M.1 148 (2000 * i + k) := by
        rcases (wkS (h.wk hi) (k := k) (by omega)).2 with s | s <;> rw [s] <;> decide
      unfold fX7_follow_17
      rw [hc (qw i) (by omega) (by omega) (by omega), hcc.1, if_neg (nI_ge (by omega) (by omega)), if_neg (nI_ge (show k < 1458 by omega) (by decide)), es, bi_I, if_pos (v_in_nI (by omega) (by decide)), nI_clamp (by omega), hn, nI_1]
      obtain ⟨N', a, b, c, d, e, g⟩ := ih f (k + 1) (v_si N 25 k (M.1 148 (2000 * i + k))) (by omega) (by omega) h2 (fun c h1 h3 h4 => by rw [si_c h3]; exact hc c h1 h3 h4) (fun j hj => by
        by_cases q : j = k
        · rw [q, si_s]
        · rw [si_n q]; exact hg j (by omega))
      exact ⟨N', a, b, c, by rw [d, si_c (by decide)], by rw [e, si_c (by decide)], g⟩
theorem l_f53 (h : Rel M) (hi : i < qW M) {most : Nat} (hmost : most ≤ 1458) : ∀ (n f k : Nat) (N : vM) (g : Nat → Bool) (m mny : Nat), n < f → k + n = qC M i → N.2 = M.2 → (∀ c, c ≠ 24 → c ≠ 25 → c ≠ 26 → N.1 c = M.1 c) → N.1 24 3 = nI mny → mny + m = most → (∀ j, j < qC M i → N.1 25 j = 0 ∨ N.1 25 j = 1) → (∀ j, k ≤ j → j < qC M i → (N.1 25 j = 0 ↔ ¬ g j = true)) →
    ∃ N', fX7_follow_53 f N (qw i) (nI most) (nI k) = rV N' ∧ N'.2 = M.2 ∧ (∀ c, c ≠ 24 → c ≠ 25 → c ≠ 26 → N'.1 c = M.1 c) ∧ N'.1 24 3 = nI (mny + (lsF (smB M.1 i) n k g m).length) ∧ N'.1 24 4 = lastL (lsF (smB M.1 i) n k g m) (N.1 24 4) ∧ N'.1 24 5 = sumL M.1 i (lsF (smB M.1 i) n k g m) (N.1 24 5) ∧
      ∀ t, t < 100 → N'.1 26 t = if mny ≤ t ∧ t < mny + (lsF (smB M.1 i) n k g m).length then M.1 146 (2000 * i + (lsF (smB M.1 i) n k g m).getD (t - mny) 0) else N.1 26 t := by
  have hW : qW M ≤ 6 := h.wks.2.2
  have hcc := wkC (h.wk hi)
  have hq : qw i = 46 + 15 * i := rfl
  have stop : ∀ (f k : Nat) (N : vM) (g : Nat → Bool) (m mny : Nat) (l : List Nat), l = [] → N.2 = M.2 → (∀ c, c ≠ 24 → c ≠ 25 → c ≠ 26 → N.1 c = M.1 c) → N.1 24 3 = nI mny → fX7_follow_53 f N (qw i) (nI most) (nI k) = rV N →
      ∃ N', fX7_follow_53 f N (qw i) (nI most) (nI k) = rV N' ∧ N'.2 = M.2 ∧ (∀ c, c ≠ 24 → c ≠ 25 → c ≠ 26 → N'.1 c = M.1 c) ∧ N'.1 24 3 = nI (mny + l.length) ∧ N'.1 24 4 = lastL l (N.1 24 4) ∧ N'.1 24 5 = sumL M.1 i l (N.1 24 5) ∧ ∀ t, t < 100 → N'.1 26 t = if mny ≤ t ∧ t < mny + l.length then M.1 146 (2000 * i + l.getD (t - mny) 0) else N.1 26 t := by
    intro f k N g m mny l hl h2 hc h3 he
    subst hl
    exact ⟨N, he, h2, hc, h3, rfl, rfl, fun t ht => by rw [if_neg (by simp)]⟩
  intro n
  induction n with
  | zero =>
    intro f k N g m mny hf hk h2 hc h3 hm hr hg
    cases f with
    | zero => exact absurd hf (Nat.not_lt_zero _)
    | succ f =>
      refine stop (f + 1) k N g m mny _ rfl h2 hc h3 ?_
      unfold fX7_follow_53
      rw [hc (qw i) (by omega) (by omega) (by omega), hcc.1, if_pos (nI_le (by omega) (by omega))]
  | succ n ih =>
    intro f k N g m mny hf hk h2 hc h3 hm hr hg
    cases f with
    | zero => exact absurd hf (Nat.not_lt_zero _)
    | succ f =>
      have el : lsF (smB M.1 i) (n + 1) k g m = if m = 0 then [] else if g k = true then lsF (smB M.1 i) n (k + 1) g m else k :: lsF (smB M.1 i) n (k + 1) (fun j => g j || smB M.1 i j k) (m - 1) := rfl
      by_cases h0 : m = 0
      · rw [if_pos h0] at el
        refine stop (f + 1) k N g m mny _ el h2 hc h3 ?_
        unfold fX7_follow_53
        rw [hc (qw i) (by omega) (by omega) (by omega), hcc.1, if_neg (nI_ge (by omega) (by omega)), if_neg (nI_ge (show k < 1458 by omega) (by decide)), h3, if_pos (nI_le (by omega) (by omega))]
      · rw [if_neg h0] at el
        unfold fX7_follow_53
        rw [hc (qw i) (by omega) (by omega) (by omega), hcc.1, if_neg (nI_ge (by omega) (by omega)), if_neg (nI_ge (show k < 1458 by omega) (by decide)), h3, if_neg (nI_ge (show mny < most by omega) (by omega)), if_pos (v_in_nI (by omega) (by decide)), nI_clamp (by omega)]
        by_cases hgk : g k = true
        · rw [if_pos hgk] at el
          rw [if_neg (fun z => (hg k (Nat.le_refl _) (by omega)).mp z hgk), nI_1, el]
          exact ih f (k + 1) N g m mny (by omega) (by omega) h2 hc h3 hm hr (fun j h5 h6 => hg j (by omega) h6)
        · rw [if_neg hgk] at el
          rw [if_pos ((hg k (Nat.le_refl _) (by omega)).mpr hgk)]
          obtain ⟨N1, a1, a2, a3, a4, a5, a6, a7, a8⟩ := c_take h hi (k := k) (by omega) h2 hc h3 (by omega) hr
          rw [a1, bv_V, nI_1]
          obtain ⟨N', b1, b2, b3, b4, b5, b6, b7⟩ := ih f (k + 1) N1 (fun j => g j || smB M.1 i j k) (m - 1) (mny + 1) (by omega) (by omega) a2 a3 a4 (by omega) (fun j hj => by
            rw [a8]
            by_cases z : j = k ∨ (k + 1 ≤ j ∧ j < qC M i ∧ smB M.1 i j k = true)
            · rw [if_pos z]; exact Or.inr rfl
            · rw [if_neg z]; exact hr j hj) (fun j h5 h6 => by
            rw [a8]
            show _ ↔ ¬ (g j || smB M.1 i j k) = true
            by_cases z : smB M.1 i j k = true
            · rw [if_pos (Or.inr ⟨h5, h6, z⟩), z, Bool.or_true]
              exact ⟨fun y => absurd y (by decide), fun y => absurd rfl y⟩
            · rw [if_neg (fun y => y.elim (fun y => by omega) (fun y => z y.2.2)), Bool.eq_false_iff.mpr z, Bool.or_false]
              exact hg j (by omega) h6)
          rw [el]
          refine ⟨N', b1, b2, b3, ?_, ?_, ?_, fun t ht => ?_⟩
          · rw [b4, List.length_cons, Nat.add_assoc, Nat.add_comm 1]
          · rw [b5, a5]
            rfl
          · rw [b6, a6]
            rfl
          · rw [b7 t ht, a7, List.length_cons]
            by_cases z : mny + 1 ≤ t ∧ t < mny + 1 + (lsF (smB M.1 i) n (k + 1) (fun j => g j || smB M.1 i j k) (m - 1)).length
            · rw [if_pos z, if_pos (by omega), show t - mny = (t - (mny + 1)) + 1 by omega]
              rfl
            · rw [if_neg z]
              by_cases y : t = mny
              · rw [if_pos ⟨y, ht⟩, if_pos (by omega), y, Nat.sub_self]
                rfl
              · rw [if_neg (fun w => y w.1), if_neg (by omega)]
/-! the reference's -/
theorem l_t2 {S : vM} (h : Rel S) (hi : i < qW S) {x : Int32} : ∀ (n f k : Nat) (N : vM), n < f → k + n = qC S i → N.2 = S.2 → (∀ c, c ≠ 159 → N.1 c = S.1 c) → (∀ j, j < k → N.1 159 j = S.1 148 (2000 * i + j)) →
    ∃ N', fX11_tellLasts_2 f N (nI i) x (nI k) = fX11_tellLasts_43 FU (v_si N' 130 44 0) (nI i) x 0 ∧ N'.2 = S.2 ∧ (∀ c, c ≠ 159 → N'.1 c = S.1 c) ∧ ∀ j, j < qC S i → N'.1 159 j = S.1 148 (2000 * i + j) := by
  have hW : qW S ≤ 6 := h.wks.2.2
  have hcc := wkC (h.wk hi)
  intro n
  induction n with
  | zero =>
    intro f k N hf hk h2 hc hg
    cases f with
    | zero => exact absurd hf (Nat.not_lt_zero _)
    | succ f =>
      refine ⟨N, ?_, h2, hc, fun j hj => hg j (by omega)⟩
      unfold fX11_tellLasts_2
      rw [if_pos (v_in_nI (by omega) (by decide)), nI_clamp (by omega), hc 145 (by decide), hcc.2.2, if_pos (nI_le (by omega) (by omega))]
  | succ n ih =>
    intro f k N hf hk h2 hc hg
    cases f with
    | zero => exact absurd hf (Nat.not_lt_zero _)
    | succ f =>
      have hn : v_nz (S.1 148 (2000 * i + k)) = S.1 148 (2000 * i + k) := by
        rcases (wkS (h.wk hi) (k := k) (by omega)).2 with s | s <;> rw [s] <;> decide
      unfold fX11_tellLasts_2
      rw [if_pos (v_in_nI (by omega) (by decide)), nI_clamp (by omega), hc 145 (by decide), hcc.2.2, if_neg (nI_ge (by omega) (by omega)), e_ix, if_pos (r_in (by omega) (by omega)), if_pos (v_in_nI (by omega) (by decide)), nI_clamp (by omega), nI_clamp (by omega), hc 148 (by decide), hn, nI_1]
      obtain ⟨N', a, b, c, g⟩ := ih f (k + 1) (v_si N 159 k (S.1 148 (2000 * i + k))) (by omega) (by omega) h2 (fun c h1 => by rw [si_c h1]; exact hc c h1) (fun j hj => by
        by_cases q : j = k
        · rw [q, si_s]
        · rw [si_n q]; exact hg j (by omega))
      exact ⟨N', a, b, c, g⟩
theorem l_t43 {S : vM} (h : Rel S) (hi : i < qW S) {most : Nat} (hmost : most ≤ 2000) : ∀ (n f k : Nat) (N : vM) (g : Nat → Bool) (m mny : Nat), n < f → k + n = qC S i → N.2 = S.2 → (∀ c, c ≠ 130 → c ≠ 159 → c ≠ 160 → N.1 c = S.1 c) → (∀ j, j ≠ 44 → N.1 130 j = S.1 130 j) → N.1 130 44 = nI mny → mny ≤ k → mny + m = most → (∀ j, k ≤ j → j < qC S i → (N.1 159 j = 0 ↔ ¬ g j = true)) →
    ∃ N', fX11_tellLasts_43 f N (nI i) (nI most) (nI k) = rV N' ∧ N'.2 = S.2 ∧ (∀ c, c ≠ 130 → c ≠ 159 → c ≠ 160 → N'.1 c = S.1 c) ∧ (∀ j, j ≠ 44 → N'.1 130 j = S.1 130 j) ∧ N'.1 130 44 = nI (mny + (lsF (smB S.1 i) n k g m).length) ∧
      ∀ t, N'.1 160 t = if mny ≤ t ∧ t < mny + (lsF (smB S.1 i) n k g m).length then nI ((lsF (smB S.1 i) n k g m).getD (t - mny) 0) else N.1 160 t := by
  have hW : qW S ≤ 6 := h.wks.2.2
  have hwk := h.wk hi
  have hcc := wkC hwk
  have hq : qw i = 46 + 15 * i := rfl
  have hlo : S.1 (qw i) 3 = fbits (S.1 132 i) (S.1 137 i) (qit S i) := by
    obtain ⟨-, -, -, -, -, -, -, -, lo, -⟩ := hwk
    exact lo
  have hm' : S.1 136 i = nI (qit S i) ∧ (S.1 132 i = 2 → qit S i ≤ 19) := by
    obtain ⟨-, -, -, -, ⟨-, m2, -, m4⟩, -⟩ := hwk
    exact ⟨m2.1, fun q => by have := m4 q; omega⟩
  have stop : ∀ (f k : Nat) (N : vM) (mny : Nat) (l : List Nat), l = [] → N.2 = S.2 → (∀ c, c ≠ 130 → c ≠ 159 → c ≠ 160 → N.1 c = S.1 c) → (∀ j, j ≠ 44 → N.1 130 j = S.1 130 j) → N.1 130 44 = nI mny → fX11_tellLasts_43 f N (nI i) (nI most) (nI k) = rV N →
      ∃ N', fX11_tellLasts_43 f N (nI i) (nI most) (nI k) = rV N' ∧ N'.2 = S.2 ∧ (∀ c, c ≠ 130 → c ≠ 159 → c ≠ 160 → N'.1 c = S.1 c) ∧ (∀ j, j ≠ 44 → N'.1 130 j = S.1 130 j) ∧ N'.1 130 44 = nI (mny + l.length) ∧ ∀ t, N'.1 160 t = if mny ≤ t ∧ t < mny + l.length then nI (l.getD (t - mny) 0) else N.1 160 t := by
    intro f k N mny l hl h2 hc hj h3 he
    subst hl
    exact ⟨N, he, h2, hc, hj, h3, fun t => by rw [if_neg (by simp)]⟩
  intro n
  induction n with
  | zero =>
    intro f k N g m mny hf hk h2 hc h130 h3 hmk hm hg
    cases f with
    | zero => exact absurd hf (Nat.not_lt_zero _)
    | succ f =>
      refine stop (f + 1) k N mny _ rfl h2 hc h130 h3 ?_
      unfold fX11_tellLasts_43
      rw [if_pos (v_in_nI (by omega) (by decide)), nI_clamp (by omega), hc 145 (by decide) (by decide) (by decide), hcc.2.2, if_pos (nI_le (by omega) (by omega))]
  | succ n ih =>
    intro f k N g m mny hf hk h2 hc h130 h3 hmk hm hg
    cases f with
    | zero => exact absurd hf (Nat.not_lt_zero _)
    | succ f =>
      have el : lsF (smB S.1 i) (n + 1) k g m = if m = 0 then [] else if g k = true then lsF (smB S.1 i) n (k + 1) g m else k :: lsF (smB S.1 i) n (k + 1) (fun j => g j || smB S.1 i j k) (m - 1) := rfl
      by_cases h0 : m = 0
      · rw [if_pos h0] at el
        refine stop (f + 1) k N mny _ el h2 hc h130 h3 ?_
        unfold fX11_tellLasts_43
        rw [if_pos (v_in_nI (by omega) (by decide)), nI_clamp (by omega), hc 145 (by decide) (by decide) (by decide), hcc.2.2, if_neg (nI_ge (by omega) (by omega)), h3, if_pos (nI_le (by omega) (by omega))]
      · rw [if_neg h0] at el
        unfold fX11_tellLasts_43
        rw [if_pos (v_in_nI (by omega) (by decide)), nI_clamp (by omega), hc 145 (by decide) (by decide) (by decide), hcc.2.2, if_neg (nI_ge (by omega) (by omega)), h3, if_neg (nI_ge (show mny < most by omega) (by omega)), if_pos (v_in_nI (by omega) (by decide)), nI_clamp (by omega)]
        by_cases hgk : g k = true
        · rw [if_pos hgk] at el
          rw [if_neg (fun z => (hg k (Nat.le_refl _) (by omega)).mp z hgk), nI_1, el]
          exact ih f (k + 1) N g m mny (by omega) (by omega) h2 hc h130 h3 (by omega) hm (fun j h5 h6 => hg j (by omega) h6)
        · rw [if_neg hgk] at el
          rw [if_pos ((hg k (Nat.le_refl _) (by omega)).mpr hgk), if_pos (v_in_nI (by omega) (by decide)), nI_clamp (by omega), si_c (show (130 : Nat) ≠ 160 by decide), h3, nI_1]
          generalize hN1 : v_si (v_si N 160 mny (nI k)) 130 44 (nI (mny + 1)) = N1
          have n1 : ∀ c, c ≠ 130 → c ≠ 160 → N1.1 c = N.1 c := fun c h5 h6 => by rw [← hN1, si_c h5, si_c h6]
          have n1s : ∀ c, c ≠ 130 → c ≠ 159 → c ≠ 160 → N1.1 c = S.1 c := fun c h5 h6 h7 => by rw [n1 c h5 h7, hc c h5 h6 h7]
          have hO : rOK N1 i (qC S i) (qmk S i) := by
            refine ⟨by rw [n1s 145 (by decide) (by decide) (by decide)]; exact hcc.2.2, hcc.2.1, fun k' hk' => ?_⟩
            rw [n1s 147 (by decide) (by decide) (by decide)]
            exact mk_lt hwk hk'
          have sp := r_spend (N := N1) (i := i) (by omega) (m := qit S i) (by rw [n1s 136 (by decide) (by decide) (by decide)]; exact hm'.1) (by rw [n1s 132 (by decide) (by decide) (by decide)]; exact hm'.2) (R := 159) (base := 0) (len := 2000) rfl (by decide) (Or.inr rfl) (by omega) hO (way := k) (by omega)
          rw [n1s 134 (by decide) (by decide) (by decide), n1s 135 (by decide) (by decide) (by decide), n1s 132 (by decide) (by decide) (by decide), n1s 137 (by decide) (by decide) (by decide), ← hlo, nI_0] at sp
          rw [sp, bv_V, nI_1]
          generalize hN2 : v_up1 N1 159 (fun j => 0 ≤ j ∧ j < 0 + qC S i ∧ sSame (S.1 134 i) (S.1 (qw i) 3) (S.1 135 i) (qmk S i (j - 0) ^^^ qmk S i k) = 1) = N2
          have n2 : ∀ c, c ≠ 159 → N2.1 c = N1.1 c := fun c h5 => by rw [← hN2, up_c h5]
          obtain ⟨N', b1, b2, b3, b4, b5, b6⟩ := ih f (k + 1) N2 (fun j => g j || smB S.1 i j k) (m - 1) (mny + 1) (by omega) (by omega) (by rw [← hN2, ← hN1]; exact h2) (fun c h5 h6 h7 => by rw [n2 c h6, n1s c h5 h6 h7]) (fun j hj => by rw [n2 130 (by decide), ← hN1, si_n hj, si_c (by decide)]; exact h130 j hj) (by rw [n2 130 (by decide), ← hN1, si_s]) (by omega) (by omega) (fun j h5 h6 => by
            show _ ↔ ¬ (g j || smB S.1 i j k) = true
            have es : (smB S.1 i j k = true) = (sSame (S.1 134 i) (S.1 (qw i) 3) (S.1 135 i) (qmk S i j ^^^ qmk S i k) = 1) := by
              unfold smB
              rw [decide_eq_true_eq]
              rfl
            rw [← hN2]
            by_cases z : smB S.1 i j k = true
            · rw [up_y ⟨Nat.zero_le _, by omega, by rw [Nat.sub_zero, ← es]; exact z⟩, z, Bool.or_true]
              exact ⟨fun y => absurd y (by decide), fun y => absurd rfl y⟩
            · rw [up_n (fun y => z (by rw [es]; have := y.2.2; rw [Nat.sub_zero] at this; exact this)), n1 159 (by decide) (by decide), Bool.eq_false_iff.mpr z, Bool.or_false]
              exact hg j (by omega) h6)
          rw [el]
          refine ⟨N', b1, b2, b3, b4, ?_, fun t => ?_⟩
          · rw [b5, List.length_cons, Nat.add_assoc, Nat.add_comm 1]
          · rw [b6 t, n2 160 (by decide), ← hN1, si_c (by decide), List.length_cons]
            by_cases z : mny + 1 ≤ t ∧ t < mny + 1 + (lsF (smB S.1 i) n (k + 1) (fun j => g j || smB S.1 i j k) (m - 1)).length
            · rw [if_pos z, if_pos (by omega), show t - mny = (t - (mny + 1)) + 1 by omega]
              rfl
            · rw [if_neg z]
              by_cases y : t = mny
              · rw [y, si_s, if_pos (by omega), Nat.sub_self]
                rfl
              · rw [si_n y, if_neg (by omega)]
end P23
