section P24
variable {M N : vM} {i : Nat}
theorem lsF_m (sm : Nat → Nat → Bool) : ∀ n k g m m', n ≤ m → n ≤ m' → lsF sm n k g m = lsF sm n k g m'
  | 0, _, _, _, _, _, _ => rfl
  | n + 1, k, g, m, m', h, h' => by
    show (if m = 0 then [] else if g k = true then lsF sm n (k + 1) g m else k :: lsF sm n (k + 1) (fun j => g j || sm j k) (m - 1)) = (if m' = 0 then [] else if g k = true then lsF sm n (k + 1) g m' else k :: lsF sm n (k + 1) (fun j => g j || sm j k) (m' - 1))
    rw [if_neg (show ¬ m = 0 by omega), if_neg (show ¬ m' = 0 by omega), lsF_m sm n (k + 1) g m m' (by omega) (by omega), lsF_m sm n (k + 1) (fun j => g j || sm j k) (m - 1) (m' - 1) (by omega) (by omega)]
theorem lastL_at : ∀ (l : List Nat) (d : Int32), lastL l d = if l.length = 0 then d else nI (l.getD (l.length - 1) 0)
  | [], d => rfl
  | w :: l, d => by
    show lastL l (nI w) = _
    rw [lastL_at l (nI w), List.length_cons, if_neg (Nat.succ_ne_zero _), Nat.add_sub_cancel]
    cases l with
    | nil => rfl
    | cons a t => rw [if_neg (show ¬ (a :: t).length = 0 from Nat.succ_ne_zero _)]; rfl
def g0 (A : Nat → Nat → Int32) (i : Nat) (k : Nat) : Bool := decide (A 148 (2000 * i + k) = 1)
def lsW (A : Nat → Nat → Int32) (i m : Nat) : List Nat := lsF (smB A i) (qN (A 145 i)) 0 (g0 A i) m
theorem g0_iff (h : Rel M) (hi : i < qW M) {j : Nat} (hj : j < qC M i) : (M.1 148 (2000 * i + j) = 0 ↔ ¬ g0 M.1 i j = true) := by
  unfold g0
  rw [decide_eq_true_eq]
  rcases (wkS (h.wk hi) hj).2 with s | s <;> rw [s] <;> decide
theorem lsW_lt {A : Nat → Nat → Int32} {m w : Nat} (h : w ∈ lsW A i m) : w < qN (A 145 i) := by
  have := lsF_lt _ _ _ _ _ w h
  omega
theorem c_follow (h : Rel M) (hi : i < qW M) {most : Nat} (hmost : most ≤ 1458) : ∃ N', fX7_follow M (qw i) (nI most) = rV N' ∧ N'.2 = M.2 ∧ (∀ c, c ≠ 24 → c ≠ 25 → c ≠ 26 → N'.1 c = M.1 c) ∧ N'.1 24 3 = nI (lsW M.1 i most).length ∧ N'.1 24 4 = lastL (lsW M.1 i most) (-1) ∧ N'.1 24 5 = sumL M.1 i (lsW M.1 i most) 0 ∧
      ∀ t, t < 100 → t < (lsW M.1 i most).length → N'.1 26 t = M.1 146 (2000 * i + (lsW M.1 i most).getD t 0) := by
  have hcc := wkC (h.wk hi)
  generalize hN : v_si (v_si (v_si M 24 3 0) 24 4 (-1)) 24 5 0 = N0
  have nc : ∀ c, c ≠ 24 → N0.1 c = M.1 c := fun c h1 => by rw [← hN, si_c h1, si_c h1, si_c h1]
  have n2 : N0.2 = M.2 := by rw [← hN]; rfl
  obtain ⟨N1, a1, a2, a3, a4, a5, a6⟩ := l_f17 h hi (x := nI most) (qC M i) FU 0 N0 (FU_lt (by omega)) (Nat.zero_add _) n2 (fun c h1 _ _ => nc c h1) (fun j hj => absurd hj (Nat.not_lt_zero _))
  obtain ⟨N2, b1, b2, b3, b4, b5, b6, b7⟩ := l_f53 h hi hmost (qC M i) FU 0 N1 (g0 M.1 i) most 0 (FU_lt (by omega)) (Nat.zero_add _) a2 a3 (by rw [a4, ← hN, si_n (by decide), si_n (by decide), si_s]; rfl) (Nat.zero_add _) (fun j hj => by rw [a6 j hj]; exact (wkS (h.wk hi) hj).2) (fun j _ hj => by rw [a6 j hj]; exact g0_iff h hi hj)
  have el : lsF (smB M.1 i) (qC M i) 0 (g0 M.1 i) most = lsW M.1 i most := rfl
  rw [el] at b4 b5 b6 b7
  refine ⟨N2, ?_, b2, b3, by rw [b4, Nat.zero_add], ?_, ?_, fun t h1 h2 => ?_⟩
  · unfold fX7_follow
    rw [hN]
    exact a1.trans b1
  · rw [b5, a4, ← hN, si_n (by decide), si_s]
  · rw [b6, a4, ← hN, si_s]
  · rw [b7 t h1, if_pos ⟨Nat.zero_le _, by omega⟩, Nat.sub_zero]
theorem r_lasts {S : vM} (h : Rel S) (hi : i < qW S) {most : Nat} (hmost : most ≤ 2000) : ∃ N', fX11_tellLasts S (nI i) (nI most) = rV N' ∧ N'.2 = S.2 ∧ (∀ c, c ≠ 130 → c ≠ 159 → c ≠ 160 → N'.1 c = S.1 c) ∧ (∀ j, j ≠ 44 → N'.1 130 j = S.1 130 j) ∧ N'.1 130 44 = nI (lsW S.1 i most).length ∧
      ∀ t, t < (lsW S.1 i most).length → N'.1 160 t = nI ((lsW S.1 i most).getD t 0) := by
  have hcc := wkC (h.wk hi)
  obtain ⟨N1, a1, a2, a3, a4⟩ := l_t2 h hi (x := nI most) (qC S i) FU 0 S (FU_lt (by omega)) (Nat.zero_add _) rfl (fun c h1 => rfl) (fun j hj => absurd hj (Nat.not_lt_zero _))
  obtain ⟨N2, b1, b2, b3, b4, b5, b6⟩ := l_t43 h hi hmost (qC S i) FU 0 (v_si N1 130 44 0) (g0 S.1 i) most 0 (FU_lt (by omega)) (Nat.zero_add _) a2 (fun c h1 h2 h3 => by rw [si_c h1]; exact a3 c h2) (fun j hj => by rw [si_n hj, a3 130 (by decide)]) (by rw [si_s]; rfl) (Nat.le_refl 0) (Nat.zero_add _) (fun j _ hj => by rw [si_c (by decide), a4 j hj]; exact g0_iff h hi hj)
  have el : lsF (smB S.1 i) (qC S i) 0 (g0 S.1 i) most = lsW S.1 i most := rfl
  rw [el] at b5 b6
  refine ⟨N2, ?_, b2, b3, b4, by rw [b5, Nat.zero_add], fun t h2 => ?_⟩
  · unfold fX11_tellLasts
    exact a1.trans b1
  · rw [b6 t, if_pos ⟨Nat.zero_le _, by omega⟩, Nat.sub_zero]
theorem getD_mem : ∀ (l : List Nat) (t d : Nat), t < l.length → l.getD t d ∈ l
  | [], _, _, h => absurd h (Nat.not_lt_zero _)
  | a :: l, 0, _, _ => List.mem_cons_self
  | a :: l, t + 1, d, h => List.mem_cons_of_mem _ (getD_mem l t d (Nat.lt_of_succ_lt_succ h))
theorem drop_at : ∀ (l : List Nat) (t : Nat), t < l.length → l.drop t = l.getD t 0 :: l.drop (t + 1)
  | [], _, h => absurd h (Nat.not_lt_zero _)
  | a :: l, 0, _ => rfl
  | a :: l, t + 1, h => drop_at l t (Nat.lt_of_succ_lt_succ h)
theorem l_l80 {l : List Nat} (hl : l.length ≤ 2000) (hi : i < 6) (hm : N.1 130 44 = nI l.length) (ht : ∀ t, t < l.length → N.1 160 t = nI (l.getD t 0)) (hw : ∀ w, w ∈ l → w < 2000) : ∀ (n f k : Nat) (s : Int32), n < f → k + n = l.length → fX11_lasts_80 f N (nI i) s (nI k) = rI (sumL N.1 i (l.drop k) s) N := by
  intro n
  induction n with
  | zero =>
    intro f k s hf hk
    cases f with
    | zero => exact absurd hf (Nat.not_lt_zero _)
    | succ f =>
      unfold fX11_lasts_80
      rw [hm, if_pos (nI_le (by omega) (by omega)), List.drop_eq_nil_of_le (by omega)]
      rfl
  | succ n ih =>
    intro f k s hf hk
    cases f with
    | zero => exact absurd hf (Nat.not_lt_zero _)
    | succ f =>
      have hw2 := hw _ (getD_mem l k 0 (by omega))
      unfold fX11_lasts_80
      rw [hm, if_neg (nI_ge (by omega) (by omega)), if_pos (v_in_nI (by omega) (by decide)), nI_clamp (by omega), ht k (by omega), e_ix, if_pos (r_in hi hw2), nI_clamp (by omega), nI_1, ih f (k + 1) _ (by omega) (by omega), drop_at l k (by omega)]
      rfl
theorem lsW_c {M1 : vM} (e : M1.1 = M.1) (hi : i < 6) (m : Nat) : lsW (v_si M1 130 1 0).1 i m = lsW M.1 i m := by
  have hq : qw i ≠ 130 := by show 46 + 15 * i ≠ 130; omega
  have rd : ∀ c, c ≠ 130 → (v_si M1 130 1 0).1 c = M.1 c := fun c hcd => by rw [si_c hcd, e]
  have e1 : smB (v_si M1 130 1 0).1 i = smB M.1 i := by
    funext j k
    simp only [smB, rd 134 (by decide), rd 135 (by decide), rd 147 (by decide), rd (qw i) hq]
  have e2 : g0 (v_si M1 130 1 0).1 i = g0 M.1 i := by
    funext k
    simp only [g0, rd 148 (by decide)]
  unfold lsW
  rw [e1, e2, rd 145 (by decide)]
theorem sumL_c {A B : Nat → Nat → Int32} (h : A 146 = B 146) : ∀ (l : List Nat) (s : Int32), sumL A i l s = sumL B i l s
  | [], s => rfl
  | w :: l, s => by
    show sumL A i l _ = sumL B i l _
    rw [h, sumL_c h l]
theorem rWhat3 {x : Int32} (h : x < 0 ∨ ∃ k, 3 ≤ k ∧ k < 2 ^ 31 ∧ x = nI k) : fX11_isIn N x 0 2 = rI 0 N := by
  rcases h with a | ⟨k, a, b, rfl⟩
  · exact e_isInN (a := 0) a (by decide)
  · exact e_isIn2 (a := 0) (b := 2) (Or.inr (by omega)) b (by decide) (by decide)
theorem o16 (h : Rel M) (x y : Int32) : okS (fun K => gWr (fL_lasts M x y) (fun M1 => fX11_lasts M1 x y) K) := by
  unfold fL_lasts
  rcases isWk h x with ⟨a, b⟩ | ⟨i, hi, rfl⟩
  · refine fin_f1 h (by unfold fX10_lasts; rw [a]; rfl) rfl ?_
    unfold fX11_lasts
    rw [b (v_si M 130 1 0) rfl, bi_I, if_pos rfl]
    rfl
  have h6 : i < 6 := by have := h.W1.2.1; omega
  rcases wWhat (M := M) (x := y) (n := 3) (by decide) with ⟨a, b⟩ | ⟨v, hv, rfl⟩
  · refine fin_f1 h (by unfold fX10_lasts; rw [wOf h hi, br_R, show (3 : Int32) = nI 3 from rfl, a]; rfl) rfl ?_
    unfold fX11_lasts
    rw [rOf (c0 h) hi, bi_I, if_neg (by decide), rWhat3 b, bi_I, if_pos rfl]
    rfl
  have hcc := wkC (h.wk hi)
  obtain ⟨N1, a1, a2, a3, a4, a5, a6, -⟩ := c_follow h hi (most := 1458) (by decide)
  have eW : lsW M.1 i 2000 = lsW M.1 i 1458 := lsF_m _ _ _ _ _ _ (by have := hcc.2.1; unfold qC at this; omega) hcc.2.1
  generalize hl : lsW M.1 i 1458 = l at a4 a5 a6
  have hlen : l.length ≤ 1458 := by rw [← hl]; exact (lsF_len _ _ _ _ _).2
  have hmem : ∀ w, w ∈ l → w < 2000 := fun w hw => by
    rw [← hl] at hw
    have := lsW_lt hw
    have := hcc.2.1
    unfold qC at this
    omega
  have hR1 := Rel_scr h a2 a3
  generalize hz : (if v = 0 then nI l.length else if v = 1 then lastL l (-1) else sumL M.1 i l 0 : Int32) = z
  have hr : fX10_lasts M (nI i) (nI v) = rI z N1 := by
    unfold fX10_lasts
    rw [wOf h hi, br_R, show fX10_refuseUnlessWhat M (nI v) 3 = rV M from wWhatY (n := 3) hv (by decide), bv_V, show (1458 : Int32) = nI 1458 from rfl, a1, bv_V, a4, a5, a6, ← hz]
    rcases (show v = 0 ∨ v = 1 ∨ v = 2 by omega) with rfl | rfl | rfl <;> rfl
  generalize hS : v_si (v_sl N1 174 0 z.toInt64) 130 1 0 = S
  have hRS : Rel S := by rw [← hS]; exact c0 (Rel_sl hR1 (by omega))
  have n1o : ∀ c, c ≠ 24 → c ≠ 25 → c ≠ 26 → c ≠ 130 → S.1 c = M.1 c := fun c h1 h2 h3 h4 => by rw [← hS, si_c h4]; exact a3 c h1 h2 h3
  have hiS : i < qW S := by show i < qN (S.1 130 2); rw [← hS, si_n (by decide)]; show i < qN (N1.1 130 2); rw [a3 130 (by decide) (by decide) (by decide)]; exact hi
  have elS : lsW S.1 i 2000 = l := by
    have hq : qw i = 46 + 15 * i := rfl
    have e1 : smB S.1 i = smB M.1 i := by
      funext j k
      simp only [smB, n1o 134 (by decide) (by decide) (by decide) (by decide), n1o 135 (by decide) (by decide) (by decide) (by decide), n1o 147 (by decide) (by decide) (by decide) (by decide), n1o (qw i) (by omega) (by omega) (by omega) (by omega)]
    have e2 : g0 S.1 i = g0 M.1 i := by
      funext k
      simp only [g0, n1o 148 (by decide) (by decide) (by decide) (by decide)]
    rw [← hl, ← eW]
    unfold lsW
    rw [e1, e2, n1o 145 (by decide) (by decide) (by decide) (by decide)]
  obtain ⟨N2, b1, b2, b3, b4, b5, b6⟩ := r_lasts hRS hiS (most := 2000) (by decide)
  rw [elS] at b5 b6
  have hR2 : Rel N2 := Rel_congr hRS (by rw [b2]) (fun c hc => b3 c (by omega) (by omega) (by omega)) (fun j hj => b4 j (by omega)) (fun c _ _ => by rw [b2])
  refine fin_val hr ?_ (M2 := N2) ?_ ?_ hR2
  · unfold fX11_lasts
    rw [hS, rOf hRS hiS, bi_I, if_neg (by decide), show fX11_isIn S (nI v) 0 2 = rI 1 S from e_isIn1 (a := 0) (b := 2) (Nat.zero_le _) (by omega) (by decide), bi_I, if_neg (by decide), show (2000 : Int32) = nI 2000 from rfl, b1, bv_V, ← hz]
    rcases (show v = 0 ∨ v = 1 ∨ v = 2 by omega) with rfl | rfl | rfl
    · rw [if_neg (by decide), if_pos (show nI 0 = 0 from rfl), b5]
      rfl
    · show _ = rI (lastL l (-1)) N2
      rw [if_neg (by decide), if_neg (show ¬ nI 1 = 0 by decide), b5, lastL_at]
      by_cases q : l.length = 0
      · rw [if_pos q, q, if_pos (show nI 0 = 0 from rfl)]
      · rw [if_neg q, if_neg (fun e => q (by have := congrArg Int32.toNatClampNeg e; rw [nI_clamp (by omega)] at this; exact this)), show nI l.length - 1 = nI (l.length - 1) from nI_sub (b := 1) (by omega), if_pos (v_in_nI (by omega) (by decide)), nI_clamp (by omega), b6 _ (by omega)]
    · rw [if_pos (by decide), if_neg (by decide), if_neg (by decide)]
      have e9 := l_l80 (i := i) (N := N2) (l := l) (by omega) h6 b5 b6 hmem l.length FU 0 0 (FU_lt (by omega)) (Nat.zero_add _)
      rw [nI_0] at e9
      rw [e9]
      refine congrArg (fun t => rI t N2) ?_
      exact sumL_c (by rw [b3 146 (by decide) (by decide) (by decide), n1o 146 (by decide) (by decide) (by decide) (by decide)]) l 0
  · rw [b4 1 (by decide), ← hS, si_s]
  · rw [b2, ← hS]
    rfl
end P24
