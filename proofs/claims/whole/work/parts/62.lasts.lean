section P22
variable {M N : vM} {i : Nat}
/-- ways one behind the other: from k on, g gone already, m at most -/
def lsF (sm : Nat → Nat → Bool) : Nat → Nat → (Nat → Bool) → Nat → List Nat
  | 0, _, _, _ => []
  | n + 1, k, g, m => if m = 0 then [] else if g k = true then lsF sm n (k + 1) g m else k :: lsF sm n (k + 1) (fun j => g j || sm j k) (m - 1)
def sumL (A : Nat → Nat → Int32) (i : Nat) : List Nat → Int32 → Int32
  | [], s => s
  | w :: l, s => sumL A i l (s + A 146 (2000 * i + w))
def lastL : List Nat → Int32 → Int32
  | [], d => d
  | w :: l, _ => lastL l (nI w)
def smB (A : Nat → Nat → Int32) (i : Nat) (j k : Nat) : Bool := decide (sSame (A 134 i) (A (qw i) 3) (A 135 i) (qN (A 147 (2000 * i + j)) ^^^ qN (A 147 (2000 * i + k))) = 1)
theorem lsF_lt (sm : Nat → Nat → Bool) : ∀ n k g m, ∀ w, w ∈ lsF sm n k g m → k ≤ w ∧ w < k + n
  | 0, _, _, _, w, h => by cases h
  | n + 1, k, g, m, w, h => by
    unfold lsF at h
    by_cases h0 : m = 0
    · rw [if_pos h0] at h
      cases h
    · rw [if_neg h0] at h
      by_cases hg : g k = true
      · rw [if_pos hg] at h
        have := lsF_lt sm n (k + 1) g m w h
        omega
      · rw [if_neg hg] at h
        rcases List.mem_cons.mp h with q | q
        · omega
        · have := lsF_lt sm n (k + 1) _ (m - 1) w q
          omega
theorem lsF_len (sm : Nat → Nat → Bool) : ∀ n k g m, (lsF sm n k g m).length ≤ n ∧ (lsF sm n k g m).length ≤ m
  | 0, _, _, _ => ⟨Nat.le_refl 0, Nat.zero_le _⟩
  | n + 1, k, g, m => by
    unfold lsF
    by_cases h0 : m = 0
    · rw [if_pos h0]
      exact ⟨Nat.zero_le _, Nat.zero_le _⟩
    · rw [if_neg h0]
      by_cases hg : g k = true
      · rw [if_pos hg]
        have := lsF_len sm n (k + 1) g m
        omega
      · rw [if_neg hg]
        have := lsF_len sm n (k + 1) (fun j => g j || sm j k) (m - 1)
        rw [List.length_cons]
        omega
theorem e_putO {c len k : Nat} {x : Int32} (hL : (v_LAY c).2.2 = len) (hk : len ≤ k) (hb : k < 2 ^ 31) : fX10_put M c (nI k) x = rV M := by
  unfold fX10_put
  rw [hL, if_neg (nI_pos hb), if_pos (nI_le hk hb)]
theorem k_costOf {w c : Nat} {co mk : Nat → Nat} (h : kOK N w c co mk) {k : Nat} (hk : k < c) : fX9_costOf N w (nI k) = rI (nI (co k)) N := by
  have hc := h.2.1
  obtain ⟨k1, k2, k3⟩ := h.2.2 k hk
  unfold fX9_costOf
  rw [k_has h hk, bi_I, if_neg (by decide), if_pos (v_in_nI (by omega) (by decide)), nI_clamp (by omega), k1, lN_shr20 (by omega) (by omega)]
/-- one way taken -/
theorem c_take (h : Rel M) (hi : i < qW M) {k : Nat} (hk : k < qC M i) (h2 : N.2 = M.2) (hc : ∀ c, c ≠ 24 → c ≠ 25 → c ≠ 26 → N.1 c = M.1 c) {mny : Nat} (hm : N.1 24 3 = nI mny) (hm2 : mny ≤ 1458) (hrow : ∀ j, j < qC M i → N.1 25 j = 0 ∨ N.1 25 j = 1) :
    ∃ N', fX7_take N (qw i) (nI k) = rV N' ∧ N'.2 = M.2 ∧ (∀ c, c ≠ 24 → c ≠ 25 → c ≠ 26 → N'.1 c = M.1 c) ∧ N'.1 24 3 = nI (mny + 1) ∧ N'.1 24 4 = nI k ∧ N'.1 24 5 = N.1 24 5 + M.1 146 (2000 * i + k) ∧ (∀ t, N'.1 26 t = if t = mny ∧ t < 100 then M.1 146 (2000 * i + k) else N.1 26 t) ∧ (∀ j, N'.1 25 j = if j = k ∨ (k + 1 ≤ j ∧ j < qC M i ∧ smB M.1 i j k = true) then 1 else N.1 25 j) := by
  have hW : qW M ≤ 6 := h.wks.2.2
  have hwk := h.wk hi
  have hcc := wkC hwk
  have hq : qw i = 46 + 15 * i := rfl
  have hP := (qp_P h.pl.1 (show i < 6 by omega)).1
  have hpb := v_isP_b hP
  obtain ⟨l1, l2, l3⟩ := wkL hwk
  obtain ⟨w1, -, -, -, -⟩ := wkW hwk hk
  have kO : ∀ N' : vM, N'.2 = M.2 → N'.1 (qw i) 1 = M.1 (qw i) 1 → kOK N' (qw i) (qC M i) (qco M i) (qmk M i) := fun N' a b => kOK_of hwk b (by rw [a])
  have hO := kO N h2 (by rw [hc (qw i) (by omega) (by omega) (by omega)])
  obtain ⟨N1, p1, p2, p3, p4⟩ : ∃ N1, fX10_put N 26 (nI mny) (nI (qco M i k)) = rV N1 ∧ N1.2 = N.2 ∧ (∀ c, c ≠ 26 → N1.1 c = N.1 c) ∧ ∀ t, N1.1 26 t = if t = mny ∧ t < 100 then nI (qco M i k) else N.1 26 t := by
    by_cases q : mny < 100
    · refine ⟨_, e_put (len := 100) rfl q (by decide), rfl, fun c hc9 => si_c hc9, fun t => ?_⟩
      by_cases z : t = mny
      · rw [z, si_s, if_pos ⟨rfl, q⟩]
      · rw [si_n z, if_neg (fun y => z y.1)]
    · exact ⟨N, e_putO (len := 100) rfl (by omega) (by omega), rfl, fun _ _ => rfl, fun t => by rw [if_neg (by omega)]⟩
  have n243 : N1.1 24 3 = nI mny := by rw [p3 24 (by decide), hm]
  generalize hN2 : v_si (v_si N1 24 3 (nI (mny + 1))) 24 4 (nI k) = N2
  have n2c : ∀ c, c ≠ 24 → N2.1 c = N1.1 c := fun c hc9 => by rw [← hN2, si_c hc9, si_c hc9]
  have n22 : N2.2 = M.2 := by rw [← hN2]; show N1.2 = _; rw [p2, h2]
  have n25 : N2.1 24 5 = N.1 24 5 := by rw [← hN2, si_n (by decide), si_n (by decide), p3 24 (by decide)]
  have hO2 := kO N2 n22 (by rw [n2c _ (by omega), p3 _ (by omega), hc _ (by omega) (by omega) (by omega)])
  generalize hN3 : v_si N2 24 5 (N.1 24 5 + nI (qco M i k)) = N3
  have n3c : ∀ c, c ≠ 24 → N3.1 c = N1.1 c := fun c hc9 => by rw [← hN3, si_c hc9, n2c c hc9]
  have n32 : N3.2 = M.2 := by rw [← hN3]; exact n22
  have hO3 := kO N3 n32 (by rw [n3c _ (by omega), p3 _ (by omega), hc _ (by omega) (by omega) (by omega)])
  have n3o : ∀ c, c ≠ 24 → c ≠ 25 → c ≠ 26 → N3.1 c = M.1 c := fun c h1 h3 h4 => by rw [n3c c h1, p3 c h4, hc c h1 h3 h4]
  have e0 : N3.2.2 (qw i) 0 - 1 = qp M i := by rw [n32]; rfl
  obtain ⟨s', a, -⟩ := c_setSame (w := qw i) (R := 25) (law := M.1 134 i) (num := M.1 135 i) l2 rfl (by omega) hO3 (fun j hj => by rw [n3c 25 (by decide), p3 25 (by decide)]; exact hrow j hj) (wkD hwk) hk (show k + 1 ≤ qC M i by omega)
  rw [n3o (qw i) (by omega) (by omega) (by omega)] at a
  refine ⟨v_up1 N3 25 (fun j => j = k ∨ (k + 1 ≤ j ∧ j < qC M i ∧ sSame (M.1 134 i) (M.1 (qw i) 3) (M.1 135 i) (qmk M i j ^^^ qmk M i k) = 1)), ?_, ?_, fun c h1 h3 h4 => ?_, ?_, ?_, ?_, fun t => ?_, fun j => ?_⟩
  · unfold fX7_take
    rw [k_costOf hO hk, bi_I, hm, p1, bv_V, n243, nI_1, hN2, k_costOf hO2 hk, bi_I, n25, hN3, e0, n3o (qp M i) (by omega) (by omega) (by omega), l1, l3, nI_1, a, bi_I]
  · exact n32
  · rw [up_c h3, n3o c h1 h3 h4]
  · rw [up_c (by decide), ← hN3, si_n (by decide), ← hN2, si_n (by decide), si_s]
  · rw [up_c (by decide), ← hN3, si_n (by decide), ← hN2, si_s]
  · rw [up_c (by decide), ← hN3, si_s, w1]
  · rw [up_c (by decide), n3c 26 (by decide), p4, w1]
  · have eb : ∀ j, (smB M.1 i j k = true) = (sSame (M.1 134 i) (M.1 (qw i) 3) (M.1 135 i) (qmk M i j ^^^ qmk M i k) = 1) := fun j => by
      unfold smB
      rw [decide_eq_true_eq]
      rfl
    by_cases z : j = k ∨ (k + 1 ≤ j ∧ j < qC M i ∧ sSame (M.1 134 i) (M.1 (qw i) 3) (M.1 135 i) (qmk M i j ^^^ qmk M i k) = 1)
    · rw [up_y z, if_pos (by rw [eb]; exact z)]
    · rw [up_n z, if_neg (by rw [eb]; exact z), n3c 25 (by decide), p3 25 (by decide)]
end P22
