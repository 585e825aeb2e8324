section P25
variable {M N : vM} {i : Nat}
theorem sl_s {c j : Nat} {x : Int64} : (v_sl M c j x).2.1 c j = x := if_pos ⟨rfl, rfl⟩
theorem sl_n {c j k : Nat} {x : Int64} (h : k ≠ j) : (v_sl M c j x).2.1 c k = M.2.1 c k := if_neg (fun z => h z.2)
theorem sl_c {c j c' : Nat} {x : Int64} (h : c' ≠ c) : (v_sl M c j x).2.1 c' = M.2.1 c' := v_sl_o h
/-- what goes over in a year, the row after it, what it costs -/
def ovC (c : Int32) (m : Nat) (S : Nat → Int64) (w : Nat) : Int64 := if w < m then S w * c.toInt64 / 1000 else 0
def nxC (c : Int32) (m : Nat) (S : Nat → Int64) (t : Nat) : Int64 := (S t - ovC c m S t) + (if t = 0 then 0 else ovC c m S (t - 1))
def sgC (c : Int32) (m : Nat) (S : Nat → Int64) (cost : Nat → Int32) : Nat → Int64
  | 0 => 0
  | n + 1 => sgC c m S cost n + ovC c m S n * (cost n).toInt64
def yrC (c : Int32) (m : Nat) (cost : Nat → Int32) : Nat → (Nat → Int64) → Int64 → Int64
  | 0, _, a => a
  | n + 1, S, a => yrC c m cost n (nxC c m S) (a + sgC c m S cost m)
theorem ovC_in {c : Int32} {m : Nat} {S : Nat → Int64} {w : Nat} (h : w < m) : ovC c m S w = S w * c.toInt64 / 1000 := if_pos h
theorem ovC_out {c : Int32} {m : Nat} {S : Nat → Int64} {w : Nat} (h : m ≤ w) : ovC c m S w = 0 := if_neg (by omega)
theorem sgC_out {c : Int32} {m : Nat} {S : Nat → Int64} {cost : Nat → Int32} : ∀ j, sgC c m S cost (m + j) = sgC c m S cost m
  | 0 => rfl
  | j + 1 => by
    show sgC c m S cost (m + j) + ovC c m S (m + j) * _ = _
    rw [sgC_out j, ovC_out (by omega), Int64.zero_mul, Int64.add_zero]
theorem c_py {c : Int32} {m : Nat} (hm : m ≤ 100) {S : Nat → Int64} {cost : Nat → Int32} : ∀ (n f : Nat) (N : vM) (x : Int64), n < f → n ≤ m → (∀ w, w < m → N.1 26 w = cost w) → (∀ t, t ≤ 100 → N.2.1 27 t = if t < n then S t else if t = n then S t - ovC c m S t else nxC c m S t) →
    ∃ N', fX7_passYear_15 f N c x (nI n - 1) = rL (x + sgC c m S cost n) N' ∧ N'.1 = N.1 ∧ N'.2.2 = N.2.2 ∧ (∀ d, d ≠ 27 → N'.2.1 d = N.2.1 d) ∧ ∀ t, t ≤ 100 → N'.2.1 27 t = nxC c m S t := by
  intro n
  induction n with
  | zero =>
    intro f N x hf hn hc hr
    cases f with
    | zero => exact absurd hf (Nat.not_lt_zero _)
    | succ f =>
      refine ⟨N, ?_, rfl, rfl, fun _ _ => rfl, fun t ht => ?_⟩
      · unfold fX7_passYear_15
        rw [if_pos (show nI 0 - 1 < 0 by decide)]
        show _ = rL (x + 0) N
        rw [Int64.add_zero]
      · rw [hr t ht, if_neg (Nat.not_lt_zero _)]
        by_cases q : t = 0
        · rw [if_pos q]
          unfold nxC
          rw [if_pos q, Int64.add_zero]
        · rw [if_neg q]
  | succ n ih =>
    intro f N x hf hn hc hr
    cases f with
    | zero => exact absurd hf (Nat.not_lt_zero _)
    | succ f =>
      have e1 : nI (n + 1) - 1 = nI n := nI_sub (b := 1) (Nat.succ_le_succ (Nat.zero_le n))
      have en : N.2.1 27 n = S n := by rw [hr n (by omega), if_pos (Nat.lt_succ_self n)]
      have eo : N.2.1 27 n * c.toInt64 / 1000 = ovC c m S n := by rw [en, ovC_in (by omega)]
      unfold fX7_passYear_15
      have hv1 : v_in (nI n) 101 = true := v_in_nI (by omega) (by decide)
      have hv2 : v_in (nI (n + 1)) 101 = true := v_in_nI (by omega) (by decide)
      rw [e1, if_neg (nI_pos (by omega)), if_pos hv1, if_pos hv1, if_pos hv1, nI_1, if_pos hv2, if_pos hv2, nI_clamp (by omega), nI_clamp (by omega), eo, en]
      generalize hN1 : v_sl (v_sl N 27 n (S n - ovC c m S n)) 27 (n + 1) ((v_sl N 27 n (S n - ovC c m S n)).2.1 27 (n + 1) + ovC c m S n) = N1
      have n1 : N1.1 = N.1 := by rw [← hN1]; rfl
      rw [e_at (len := 100) rfl (by omega) (by decide), bi_I, n1, hc n (by omega), show nI n + -1 = nI n - 1 from (Int32.sub_eq_add_neg _ _).symm]
      obtain ⟨N', a, b, d, e, g⟩ := ih f N1 (x + ovC c m S n * (cost n).toInt64) (by omega) (by omega) (fun w hw => by rw [n1]; exact hc w hw) (fun t ht => by
        rw [← hN1]
        by_cases q : t = n + 1
        · rw [q, sl_s, sl_n (by omega), if_neg (by omega), if_neg (by omega), hr (n + 1) (by omega), if_neg (by omega), if_pos rfl]
          unfold nxC
          rw [if_neg (by omega)]
          rfl
        · rw [sl_n q]
          by_cases q2 : t = n
          · rw [q2, sl_s, if_neg (by omega), if_pos rfl]
          · rw [sl_n q2, hr t ht]
            by_cases q3 : t < n
            · rw [if_pos (by omega), if_pos q3]
            · rw [if_neg (by omega), if_neg q, if_neg q3, if_neg q2])
      refine ⟨N', ?_, by rw [b, n1], by rw [d, ← hN1]; rfl, fun d' hd => by rw [e d' hd, ← hN1, sl_c hd, sl_c hd], g⟩
      rw [a]
      refine congrArg (fun z => rL z N') ?_
      show x + _ + _ = x + (sgC c m S cost n + _)
      rw [Int64.add_assoc, Int64.add_comm (ovC c m S n * _)]
theorem c_yr {c : Int32} {m Y : Nat} (hm : m ≤ 100) (hY : Y ≤ 100) {cost : Nat → Int32} : ∀ (n f k : Nat) (N : vM) (S : Nat → Int64) (x : Int64), n < f → k + n = Y → N.1 24 3 = nI m → (∀ w, w < m → N.1 26 w = cost w) → (∀ t, t ≤ 100 → N.2.1 27 t = S t) →
    ∃ N', fX7_expected_22 f N c (nI Y) x (nI k) = rI (Int64.toInt32 (yrC c m cost n S x / 1000000)) N' ∧ N'.1 = N.1 ∧ N'.2.2 = N.2.2 ∧ ∀ d, d ≠ 27 → N'.2.1 d = N.2.1 d := by
  intro n
  induction n with
  | zero =>
    intro f k N S x hf hk hm3 hc hr
    cases f with
    | zero => exact absurd hf (Nat.not_lt_zero _)
    | succ f =>
      refine ⟨N, ?_, rfl, rfl, fun _ _ => rfl⟩
      unfold fX7_expected_22
      rw [if_pos (nI_le (by omega) (by omega))]
      rfl
  | succ n ih =>
    intro f k N S x hf hk hm3 hc hr
    cases f with
    | zero => exact absurd hf (Nat.not_lt_zero _)
    | succ f =>
      obtain ⟨N1, a, b, d, e, g⟩ := c_py (c := c) hm (S := S) (cost := cost) m FU N 0 (FU_lt (by omega)) (Nat.le_refl _) hc (fun t ht => by
        rw [hr t ht]
        by_cases q : t < m
        · rw [if_pos q]
        · rw [if_neg q]
          by_cases q2 : t = m
          · rw [if_pos q2, ovC_out (by omega), Int64.sub_zero]
          · rw [if_neg q2]
            unfold nxC
            rw [ovC_out (by omega), if_neg (by omega), ovC_out (by omega), Int64.sub_zero, Int64.add_zero])
      obtain ⟨N', a', b', d', e'⟩ := ih f (k + 1) N1 (nxC c m S) (x + sgC c m S cost m) (by omega) (by omega) (by rw [b]; exact hm3) (fun w hw => by rw [b]; exact hc w hw) g
      refine ⟨N', ?_, by rw [b', b], by rw [d', d], fun d hd => by rw [e' d hd, e d hd]⟩
      unfold fX7_expected_22 fX7_passYear
      rw [if_neg (nI_ge (by omega) (by omega)), hm3, if_neg (show ¬ (100 : Int32) < nI m from nI_nlt (show m ≤ 100 by omega) (by decide)), a]
      show fX7_expected_22 f N1 c (nI Y) (x + (0 + sgC c m S cost m)) (nI k + 1) = _
      rw [Int64.zero_add, nI_1]
      exact a'
theorem c_fill {w : Nat} {y : Int64} (hl : (v_LAY w).2.2 = 101) : ∀ (n f k : Nat) (N : vM), n < f → k + n = 101 → (∀ j, j < k → N.2.1 w j = y) →
    ∃ N', fJ7_fill_d0a16_6 f N w y (nI k) (nI 101) = rV N' ∧ N'.1 = N.1 ∧ N'.2.2 = N.2.2 ∧ (∀ d, d ≠ w → N'.2.1 d = N.2.1 d) ∧ ∀ j, j < 101 → N'.2.1 w j = y := by
  intro n
  induction n with
  | zero =>
    intro f k N hf hk hr
    cases f with
    | zero => exact absurd hf (Nat.not_lt_zero _)
    | succ f =>
      refine ⟨N, ?_, rfl, rfl, fun _ _ => rfl, fun j hj => hr j (by omega)⟩
      unfold fJ7_fill_d0a16_6
      rw [if_pos (nI_le (by omega) (by omega))]
  | succ n ih =>
    intro f k N hf hk hr
    cases f with
    | zero => exact absurd hf (Nat.not_lt_zero _)
    | succ f =>
      obtain ⟨N', a, b, d, e, g⟩ := ih f (k + 1) (v_sl N w k y) (by omega) (by omega) (fun j hj => by
        by_cases q : j = k
        · rw [q, sl_s]
        · rw [sl_n q]; exact hr j (by omega))
      refine ⟨N', ?_, b, d, fun d' hd => by rw [e d' hd, sl_c hd], g⟩
      unfold fJ7_fill_d0a16_6
      rw [if_neg (nI_ge (by omega) (by omega)), hl, if_pos (v_in_nI (by omega) (by decide)), nI_clamp (by omega), nI_1]
      exact a
def S0 (t : Nat) : Int64 := if t = 0 then 1000000000 else 0
theorem c_expected {c : Int32} {m Y : Nat} (hm : m ≤ 100) (hY : Y ≤ 100) {cost : Nat → Int32} (hm3 : N.1 24 3 = nI m) (hc : ∀ w, w < m → N.1 26 w = cost w) :
    ∃ N', fX7_expected N c (nI Y) = rI (Int64.toInt32 (yrC c m cost Y S0 0 / 1000000)) N' ∧ N'.1 = N.1 ∧ N'.2.2 = N.2.2 ∧ ∀ d, d ≠ 27 → N'.2.1 d = N.2.1 d := by
  obtain ⟨N1, a, b, d, e, g⟩ := c_fill (w := 27) (y := 0) rfl 101 FU 0 N (FU_lt (by decide)) rfl (fun j hj => absurd hj (Nat.not_lt_zero _))
  obtain ⟨N2, a2, b2, d2, e2⟩ := c_yr (c := c) hm hY (cost := cost) Y FU 0 (v_sl N1 27 0 1000000000) S0 0 (FU_lt (by omega)) (Nat.zero_add _) (by show N1.1 24 3 = _; rw [b]; exact hm3) (fun w hw => by show N1.1 26 w = _; rw [b]; exact hc w hw) (fun t ht => by
    unfold S0
    by_cases q : t = 0
    · rw [q, sl_s, if_pos rfl]
    · rw [sl_n q, g t (by omega), if_neg q])
  refine ⟨N2, ?_, by rw [b2]; exact b, by rw [d2]; exact d, fun d' hd => by rw [e2 d' hd, sl_c hd, e d' hd]⟩
  unfold fX7_expected fJ7_fill_d0a16
  rw [show (v_LAY 27).2.2 = 101 from rfl, show fJ7_fill_d0a16_6 FU N 27 0 0 (nI 101) = rV N1 from a, bv_V, if_pos (by decide)]
  exact a2
/-! the reference's -/
theorem r_101 {k92 : vM → Int32 → Int32 → Int32 → Int64 → Int32 → Option (vR × vM)} {x1 x2 x3 : Int32} {x4 : Int64} {x6 : Int32} : ∀ (n f k : Nat) (N : vM), n < f → k + n = 101 → (∀ j, j < k → N.2.1 162 j = 0) →
    ∃ N', fX11_chance_101 k92 f N x1 x2 x3 x4 x6 (nI k) = fX11_chance_125 k92 FU N' x1 x2 x3 x4 x6 0 ∧ N'.1 = N.1 ∧ N'.2.2 = N.2.2 ∧ (∀ d, d ≠ 162 → N'.2.1 d = N.2.1 d) ∧ ∀ j, j < 101 → N'.2.1 162 j = 0 := by
  intro n
  induction n with
  | zero =>
    intro f k N hf hk hr
    cases f with
    | zero => exact absurd hf (Nat.not_lt_zero _)
    | succ f =>
      refine ⟨N, ?_, rfl, rfl, fun _ _ => rfl, fun j hj => hr j (by omega)⟩
      unfold fX11_chance_101
      rw [if_pos (show (100 : Int32) < nI k from nI_lt (show 100 < k by omega) (by omega))]
  | succ n ih =>
    intro f k N hf hk hr
    cases f with
    | zero => exact absurd hf (Nat.not_lt_zero _)
    | succ f =>
      obtain ⟨N', a, b, d, e, g⟩ := ih f (k + 1) (v_sl N 162 k 0) (by omega) (by omega) (fun j hj => by
        by_cases q : j = k
        · rw [q, sl_s]
        · rw [sl_n q]; exact hr j (by omega))
      refine ⟨N', ?_, b, d, fun d' hd => by rw [e d' hd, sl_c hd], g⟩
      unfold fX11_chance_101
      rw [if_neg (show ¬ (100 : Int32) < nI k from nI_nlt (show k ≤ 100 by omega) (by decide)), if_pos (v_in_nI (by omega) (by decide)), nI_clamp (by omega), nI_1]
      exact a
theorem r_240 {k92 : vM → Int32 → Int32 → Int32 → Int64 → Int32 → Option (vR × vM)} {x1 x2 x3 : Int32} {x4 : Int64} {x6 : Int32} : ∀ (n f k : Nat) (N : vM), n < f → k + n = 101 → (∀ j, j < k → N.2.1 161 j = N.2.1 162 j) →
    ∃ N', fX11_chance_240 k92 f N x1 x2 x3 x4 x6 (nI k) = k92 N' x1 x2 x3 x4 (x6 + 1) ∧ N'.1 = N.1 ∧ N'.2.2 = N.2.2 ∧ (∀ d, d ≠ 161 → N'.2.1 d = N.2.1 d) ∧ ∀ j, j < 101 → N'.2.1 161 j = N.2.1 162 j := by
  intro n
  induction n with
  | zero =>
    intro f k N hf hk hr
    cases f with
    | zero => exact absurd hf (Nat.not_lt_zero _)
    | succ f =>
      refine ⟨N, ?_, rfl, rfl, fun _ _ => rfl, fun j hj => hr j (by omega)⟩
      unfold fX11_chance_240
      rw [if_pos (show (100 : Int32) < nI k from nI_lt (show 100 < k by omega) (by omega))]
  | succ n ih =>
    intro f k N hf hk hr
    cases f with
    | zero => exact absurd hf (Nat.not_lt_zero _)
    | succ f =>
      obtain ⟨N', a, b, d, e, g⟩ := ih f (k + 1) (v_sl N 161 k (N.2.1 162 k)) (by omega) (by omega) (fun j hj => by
        rw [sl_c (show (162 : Nat) ≠ 161 by decide)]
        by_cases q : j = k
        · rw [q, sl_s]
        · rw [sl_n q]; exact hr j (by omega))
      refine ⟨N', ?_, b, d, fun d' hd => by rw [e d' hd, sl_c hd], fun j hj => by rw [g j hj, sl_c (by decide)]⟩
      unfold fX11_chance_240
      rw [if_neg (show ¬ (100 : Int32) < nI k from nI_nlt (show k ≤ 100 by omega) (by decide)), if_pos (v_in_nI (j := k) (by omega) (by decide)), if_pos (v_in_nI (j := k) (by omega) (by decide)), nI_clamp (by omega), nI_1]
      exact a
theorem r_125 {k92 : vM → Int32 → Int32 → Int32 → Int64 → Int32 → Option (vR × vM)} {x3 c : Int32} {x6 : Int32} {m : Nat} (hm : m ≤ 100) {S : Nat → Int64} {cost : Nat → Int32} {idx : Nat → Nat} (hi : i < 6) {x4 : Int64} : ∀ (n f k : Nat) (N : vM), n < f → k + n = 101 → N.1 130 44 = nI m → (∀ w, w < m → N.1 160 w = nI (idx w) ∧ idx w < 2000 ∧ N.1 146 (2000 * i + idx w) = cost w) → (∀ t, t < 101 → N.2.1 161 t = S t) → (∀ t, t < 101 → N.2.1 162 t = if t < k then nxC c m S t else if t = k then (if k = 0 then 0 else ovC c m S (k - 1)) else 0) →
    ∃ N', fX11_chance_125 k92 f N (nI i) c x3 (x4 + sgC c m S cost k) x6 (nI k) = fX11_chance_240 k92 FU N' (nI i) c x3 (x4 + sgC c m S cost 101) x6 0 ∧ N'.1 = N.1 ∧ N'.2.2 = N.2.2 ∧ (∀ d, d ≠ 162 → N'.2.1 d = N.2.1 d) ∧ ∀ j, j < 101 → N'.2.1 162 j = nxC c m S j := by
  intro n
  induction n with
  | zero =>
    intro f k N hf hk h44 hw h1 h2
    cases f with
    | zero => exact absurd hf (Nat.not_lt_zero _)
    | succ f =>
      refine ⟨N, ?_, rfl, rfl, fun _ _ => rfl, fun j hj => by rw [h2 j hj, if_pos (by omega)]⟩
      unfold fX11_chance_125
      rw [if_pos (show (100 : Int32) < nI k from nI_lt (show 100 < k by omega) (by omega)), show k = 101 by omega]
  | succ n ih =>
    intro f k N hf hk h44 hw h1 h2
    cases f with
    | zero => exact absurd hf (Nat.not_lt_zero _)
    | succ f =>
      have hk1 : k < 101 := by omega
      have e2 : N.2.1 162 k + (S k - ovC c m S k) = nxC c m S k := by
        rw [h2 k hk1, if_neg (Nat.lt_irrefl k), if_pos rfl]
        unfold nxC
        rw [Int64.add_comm]
      unfold fX11_chance_125
      rw [if_neg (show ¬ (100 : Int32) < nI k from nI_nlt (show k ≤ 100 by omega) (by decide)), h44]
      by_cases q : m ≤ k
      · rw [if_pos (nI_le q (by omega))]
        unfold fX11_chance_159
        rw [if_pos (v_in_nI hk1 (by decide)), if_pos (v_in_nI hk1 (by decide)), if_pos (v_in_nI hk1 (by decide)), nI_clamp (by omega), h1 k hk1, show (0 : Int64) = ovC c m S k from (ovC_out q).symm, e2]
        generalize hN1 : v_sl N 162 k (nxC c m S k) = N1
        have n1 : N1.1 = N.1 := by rw [← hN1]; rfl
        rw [n1, h44, if_pos (nI_le q (by omega)), nI_1]
        obtain ⟨N', a, b, d, e, g⟩ := ih f (k + 1) N1 (by omega) (by omega) (by rw [n1]; exact h44) (by rw [n1]; exact hw) (fun t ht => by rw [← hN1, sl_c (by decide)]; exact h1 t ht) (fun t ht => by
          rw [← hN1]
          by_cases z : t = k
          · rw [z, sl_s, if_pos (by omega)]
          · rw [sl_n z, h2 t ht]
            by_cases z2 : t < k
            · rw [if_pos z2, if_pos (by omega)]
            · rw [if_neg z2, if_neg z, if_neg (by omega)]
              by_cases z3 : t = k + 1
              · rw [if_pos z3, if_neg (by omega), Nat.add_sub_cancel, ovC_out q]
              · rw [if_neg z3])
        refine ⟨N', ?_, by rw [b, n1], by rw [d, ← hN1]; rfl, fun d' hd => by rw [e d' hd, ← hN1, sl_c hd], g⟩
        rw [← a]
        refine congrArg (fun z => fX11_chance_125 k92 f N1 (nI i) c x3 z x6 (nI (k + 1))) ?_
        show _ = x4 + (sgC c m S cost k + ovC c m S k * _)
        rw [ovC_out q, Int64.zero_mul, Int64.add_zero]
      · have hkm : k < m := by omega
        obtain ⟨w1, w2, w3⟩ := hw k hkm
        rw [if_neg (nI_ge hkm (by omega)), if_pos (v_in_nI hk1 (by decide))]
        unfold fX11_chance_159
        rw [if_pos (v_in_nI hk1 (by decide)), if_pos (v_in_nI hk1 (by decide)), if_pos (v_in_nI hk1 (by decide)), nI_clamp (by omega), h1 k hk1, ← ovC_in hkm, e2]
        generalize hN1 : v_sl N 162 k (nxC c m S k) = N1
        have n1 : N1.1 = N.1 := by rw [← hN1]; rfl
        rw [n1, h44, if_neg (nI_ge hkm (by omega)), nI_1, if_pos (v_in_nI (j := k + 1) (by omega) (by decide)), if_pos (v_in_nI (j := k + 1) (by omega) (by decide)), nI_clamp (by omega)]
        have e3 : N1.2.1 162 (k + 1) + ovC c m S k = ovC c m S k := by
          rw [← hN1, sl_n (by omega), h2 (k + 1) (by omega), if_neg (by omega), if_neg (by omega), Int64.zero_add]
        rw [e3, if_pos (v_in_nI (by omega) (by decide))]
        generalize hN2 : v_sl N1 162 (k + 1) (ovC c m S k) = N2
        have n2 : N2.1 = N.1 := by rw [← hN2, ← n1]; rfl
        rw [n2, w1, e_ix, if_pos (r_in hi w2), nI_clamp (by omega), w3]
        obtain ⟨N', a, b, d, e, g⟩ := ih f (k + 1) N2 (by omega) (by omega) (by rw [n2]; exact h44) (by rw [n2]; exact hw) (fun t ht => by rw [← hN2, sl_c (by decide), ← hN1, sl_c (by decide)]; exact h1 t ht) (fun t ht => by
          rw [← hN2]
          by_cases z3 : t = k + 1
          · rw [z3, sl_s, if_neg (by omega), if_pos rfl, if_neg (by omega), Nat.add_sub_cancel]
          · rw [sl_n z3, ← hN1]
            by_cases z : t = k
            · rw [z, sl_s, if_pos (by omega)]
            · rw [sl_n z, h2 t ht]
              by_cases z2 : t < k
              · rw [if_pos z2, if_pos (by omega)]
              · rw [if_neg z2, if_neg z, if_neg (by omega), if_neg z3])
        refine ⟨N', ?_, by rw [b, n2], by rw [d, ← hN2, ← hN1]; rfl, fun d' hd => by rw [e d' hd, ← hN2, sl_c hd, ← hN1, sl_c hd], g⟩
        rw [← a]
        refine congrArg (fun z => fX11_chance_125 k92 f N2 (nI i) c x3 z x6 (nI (k + 1))) ?_
        show _ = x4 + (sgC c m S cost k + ovC c m S k * _)
        rw [Int64.add_assoc]
theorem r_92 {c : Int32} {m Y : Nat} (hm : m ≤ 100) (hY : Y ≤ 100) {cost : Nat → Int32} {idx : Nat → Nat} (hi : i < 6) : ∀ (n f k : Nat) (N : vM) (S : Nat → Int64) (x : Int64), n < f → k + n = Y → N.1 130 44 = nI m → (∀ w, w < m → N.1 160 w = nI (idx w) ∧ idx w < 2000 ∧ N.1 146 (2000 * i + idx w) = cost w) → (∀ t, t < 101 → N.2.1 161 t = S t) →
    ∃ N', fX11_chance_92 f N (nI i) c (nI Y) x (nI k) = rI (Int64.toInt32 (yrC c m cost n S x / 1000000)) N' ∧ N'.1 = N.1 ∧ N'.2.2 = N.2.2 ∧ ∀ d, d ≠ 161 → d ≠ 162 → N'.2.1 d = N.2.1 d := by
  intro n
  induction n with
  | zero =>
    intro f k N S x hf hk h44 hw h1
    cases f with
    | zero => exact absurd hf (Nat.not_lt_zero _)
    | succ f =>
      refine ⟨N, ?_, rfl, rfl, fun _ _ _ => rfl⟩
      unfold fX11_chance_92
      rw [if_pos (nI_le (by omega) (by omega))]
      rfl
  | succ n ih =>
    intro f k N S x hf hk h44 hw h1
    cases f with
    | zero => exact absurd hf (Nat.not_lt_zero _)
    | succ f =>
      obtain ⟨N1, a1, b1, c1, d1, e1⟩ := r_101 (k92 := fX11_chance_92 f) (x1 := nI i) (x2 := c) (x3 := nI Y) (x4 := x) (x6 := nI k) 101 FU 0 N (FU_lt (by decide)) rfl (fun j hj => absurd hj (Nat.not_lt_zero _))
      obtain ⟨N2, a2, b2, c2, d2, e2⟩ := r_125 (k92 := fX11_chance_92 f) (x3 := nI Y) (c := c) (x6 := nI k) hm (S := S) (cost := cost) (idx := idx) hi (x4 := x) 101 FU 0 N1 (FU_lt (by decide)) rfl (by rw [b1]; exact h44) (by rw [b1]; exact hw) (fun t ht => by rw [d1 161 (by decide)]; exact h1 t ht) (fun t ht => by rw [e1 t ht, if_neg (Nat.not_lt_zero _), if_pos rfl]; exact (ite_self _).symm)
      obtain ⟨N3, a3, b3, c3, d3, e3⟩ := r_240 (k92 := fX11_chance_92 f) (x1 := nI i) (x2 := c) (x3 := nI Y) (x4 := x + sgC c m S cost 101) (x6 := nI k) 101 FU 0 N2 (FU_lt (by decide)) rfl (fun j hj => absurd hj (Nat.not_lt_zero _))
      obtain ⟨N', a, b, d, e⟩ := ih f (k + 1) N3 (nxC c m S) (x + sgC c m S cost m) (by omega) (by omega) (by rw [b3, b2, b1]; exact h44) (by rw [b3, b2, b1]; exact hw) (fun t ht => by rw [e3 t ht]; exact e2 t ht)
      refine ⟨N', ?_, by rw [b, b3, b2, b1], by rw [d, c3, c2, c1], fun d' h3 h4 => by rw [e d' h3 h4, d3 d' h3, d2 d' h4, d1 d' h4]⟩
      unfold fX11_chance_92
      rw [if_neg (nI_ge (by omega) (by omega)), show fX11_chance_101 (fX11_chance_92 f) FU N (nI i) c (nI Y) x (nI k) 0 = _ from a1]
      rw [show x + sgC c m S cost 0 = x from Int64.add_zero x] at a2
      rw [show fX11_chance_125 (fX11_chance_92 f) FU N1 (nI i) c (nI Y) x (nI k) 0 = _ from a2]
      rw [show fX11_chance_240 (fX11_chance_92 f) FU N2 (nI i) c (nI Y) (x + sgC c m S cost 101) (nI k) 0 = _ from a3, nI_1, show sgC c m S cost 101 = sgC c m S cost m by have := sgC_out (c := c) (m := m) (S := S) (cost := cost) (101 - m); rw [show m + (101 - m) = 101 by omega] at this; exact this]
      exact a
theorem r_56 {x1 c x3 : Int32} : ∀ (n f k : Nat) (N : vM), n < f → k + n = 101 → (∀ j, j < k → N.2.1 161 j = 0) →
    ∃ N', fX11_chance_56 f N x1 c x3 (nI k) = fX11_chance_92 FU N' x1 c x3 0 0 ∧ N'.1 = N.1 ∧ N'.2.2 = N.2.2 ∧ (∀ d, d ≠ 161 → N'.2.1 d = N.2.1 d) ∧ ∀ j, j < 101 → N'.2.1 161 j = S0 j := by
  intro n
  induction n with
  | zero =>
    intro f k N hf hk hr
    cases f with
    | zero => exact absurd hf (Nat.not_lt_zero _)
    | succ f =>
      refine ⟨v_sl N 161 0 1000000000, ?_, rfl, rfl, fun d hd => sl_c hd, fun j hj => ?_⟩
      · unfold fX11_chance_56
        rw [if_pos (show (100 : Int32) < nI k from nI_lt (show 100 < k by omega) (by omega)), if_pos (by decide)]
        rfl
      · unfold S0
        by_cases q : j = 0
        · rw [q, sl_s, if_pos rfl]
        · rw [sl_n q, if_neg q]
          exact hr j (by omega)
  | succ n ih =>
    intro f k N hf hk hr
    cases f with
    | zero => exact absurd hf (Nat.not_lt_zero _)
    | succ f =>
      obtain ⟨N', a, b, d, e, g⟩ := ih f (k + 1) (v_sl N 161 k 0) (by omega) (by omega) (fun j hj => by
        by_cases q : j = k
        · rw [q, sl_s]
        · rw [sl_n q]; exact hr j (by omega))
      refine ⟨N', ?_, b, d, fun d' hd => by rw [e d' hd, sl_c hd], g⟩
      unfold fX11_chance_56
      rw [if_neg (show ¬ (100 : Int32) < nI k from nI_nlt (show k ≤ 100 by omega) (by decide)), if_pos (v_in_nI (by omega) (by decide)), nI_clamp (by omega), nI_1]
      exact a
end P25
