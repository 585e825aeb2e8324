section P47
variable {N N0 S S0 : vM} {i p m nr : Nat} {C A B : Nat → Nat}
/-! an order: bits of couples -/
def orL (f : Nat → Nat) : Nat → Nat → Nat → Nat
  | 0, _, x => x
  | n + 1, s, x => orL f n (s + 1) (x ||| f s)
theorem orL_0 (f : Nat → Nat) : ∀ n s x, orL f n s x = x ||| orL f n s 0
  | 0, _, x => (Nat.or_zero x).symm
  | n + 1, s, x => by
    show orL f n (s + 1) (x ||| f s) = x ||| orL f n (s + 1) (0 ||| f s)
    rw [orL_0 f n (s + 1) (x ||| f s), orL_0 f n (s + 1) (0 ||| f s), Nat.zero_or, Nat.or_assoc]
def adR (m a did : Nat) : Nat := orL (fun j => if did.testBit j = true then 0 else 2 ^ cplN a j) (m - (a + 1)) (a + 1) 0
def bbF (a did : Nat) : Nat := orL (fun l => if did.testBit l = true then 2 ^ cplN l a else 0) a 0 0
def pdF (m did : Nat) : Nat := orL (fun j => if did.testBit j = true then 0 else orL (fun l => if did.testBit l = true then 2 ^ cplN l j else 0) j 0 0) m 0 0
def knM (m did : Nat) : Nat := orL (fun j => orL (fun l => if (did.testBit l || did.testBit j) = true then 2 ^ cplN l j else 0) j 0 0) m 0 0
def unN (m did : Nat) : Nat := cntF (fun t => did.testBit t = false) m 0
def lnB (m did a : Nat) : Bool := did.testBit a || (decide (bbF a did ||| pdF m (did ||| 2 ^ a) = pdF m did ||| adR m a did) && (decide (did ||| 2 ^ a < 2 ^ m) && (decide (unN m (did ||| 2 ^ a) + 1 = unN m did) && (decide (adR m a did &&& knM m did = 0) && (decide (knM m (did ||| 2 ^ a) &&& knM m did = knM m did) && (decide (adR m a did &&& knM m (did ||| 2 ^ a) = adR m a did) && (decide (knM m did &&& knM m (did ||| 2 ^ a) = knM m did) && (decide (adR m a did < 1048576) && decide (bbF a did < 1048576)))))))))
theorem lnB_ok : ((List.range 7).all fun m => (List.range (2 ^ m)).all fun did => (List.range m).all fun a => lnB m did a) = true := by decide +kernel
def lnQ (m did a b : Nat) : Bool := did.testBit a || (did.testBit b || (decide ((adR m a did).testBit (cplN a b) = true) && (decide ((adR m b did).testBit (cplN a b) = false) && (decide ((knM m did).testBit (cplN a b) = false) && (decide ((knM m (did ||| 2 ^ a)).testBit (cplN a b) = true) && decide ((knM m (did ||| 2 ^ b)).testBit (cplN a b) = true))))))
theorem lnQ_ok : ((List.range 7).all fun m => (List.range (2 ^ m)).all fun did => (List.range m).all fun b => (List.range b).all fun a => lnQ m did a b) = true := by decide +kernel
theorem lnZ_ok : ((List.range 7).all fun m => (List.range (2 ^ m)).all fun did => decide (unN m did ≠ 0) || decide (pdF m did = 0)) = true := by decide +kernel
theorem ln0_ok : ((List.range 7).all fun m => decide (pdF m 0 = 0 ∧ unN m 0 = m)) = true := by decide +kernel
theorem ln_b {did a : Nat} (hm : m ≤ 6) (hd : did < 2 ^ m) (ha : a < m) (hb : did.testBit a = false) : bbF a did ||| pdF m (did ||| 2 ^ a) = pdF m did ||| adR m a did ∧ did ||| 2 ^ a < 2 ^ m ∧ unN m (did ||| 2 ^ a) + 1 = unN m did ∧ adR m a did &&& knM m did = 0 ∧ knM m (did ||| 2 ^ a) &&& knM m did = knM m did ∧ adR m a did &&& knM m (did ||| 2 ^ a) = adR m a did ∧ knM m did &&& knM m (did ||| 2 ^ a) = knM m did ∧ adR m a did < 1048576 ∧ bbF a did < 1048576 := by
  have h := List.all_eq_true.mp (List.all_eq_true.mp (List.all_eq_true.mp lnB_ok m (List.mem_range.mpr (by omega))) did (List.mem_range.mpr hd)) a (List.mem_range.mpr ha)
  unfold lnB at h
  rw [hb, Bool.false_or] at h
  simp only [Bool.and_eq_true, decide_eq_true_eq] at h
  exact h
theorem ln_q {did a b : Nat} (hm : m ≤ 6) (hd : did < 2 ^ m) (hab : a < b) (hb : b < m) (h1 : did.testBit a = false) (h2 : did.testBit b = false) : (adR m a did).testBit (cplN a b) = true ∧ (adR m b did).testBit (cplN a b) = false ∧ (knM m did).testBit (cplN a b) = false ∧ (knM m (did ||| 2 ^ a)).testBit (cplN a b) = true ∧ (knM m (did ||| 2 ^ b)).testBit (cplN a b) = true := by
  have h := List.all_eq_true.mp (List.all_eq_true.mp (List.all_eq_true.mp (List.all_eq_true.mp lnQ_ok m (List.mem_range.mpr (by omega))) did (List.mem_range.mpr hd)) b (List.mem_range.mpr hb)) a (List.mem_range.mpr hab)
  unfold lnQ at h
  rw [h1, h2, Bool.false_or, Bool.false_or] at h
  simp only [Bool.and_eq_true, decide_eq_true_eq] at h
  exact h
theorem ln_z {did : Nat} (hm : m ≤ 6) (hd : did < 2 ^ m) (h : unN m did = 0) : pdF m did = 0 := by
  have h2 := List.all_eq_true.mp (List.all_eq_true.mp lnZ_ok m (List.mem_range.mpr (by omega))) did (List.mem_range.mpr hd)
  rw [Bool.or_eq_true, decide_eq_true_eq, decide_eq_true_eq] at h2
  exact h2.resolve_left (fun z => z h)
theorem ln_0 (hm : m ≤ 6) : pdF m 0 = 0 ∧ unN m 0 = m := of_decide_eq_true (List.all_eq_true.mp ln0_ok m (List.mem_range.mpr (by omega)))
theorem cpl15 : ((List.range 6).all fun b => (List.range b).all fun a => decide (cplN a b < 15)) = true := by decide +kernel
theorem cpl_lt {a b : Nat} (hb : b < 6) (ha : a < b) : cplN a b < 15 := of_decide_eq_true (List.all_eq_true.mp (List.all_eq_true.mp cpl15 b (List.mem_range.mpr hb)) a (List.mem_range.mpr ha))
theorem c_cpl {a b : Nat} (hb : b < 6) (ha : a < b) : fX3_coupleBit N (nI a) (nI b) = rI (nI (2 ^ cplN a b)) N := by
  have h := cpl_lt hb ha
  unfold fX3_coupleBit
  rw [cpl_ok b (by omega), nI_add, show b * (b - 1) / 2 + a = cplN a b from rfl, sh1 _ (by omega)]
/-- the rules of an order -/
def okO (A B : Nat → Nat) (nr a did : Nat) : Bool := allF (fun k => !(decide (B k = a)) || did.testBit (A k)) nr 0
def ndO (A B : Nat → Nat) (nr a : Nat) : Nat := bdF (fun k => decide (B k = a)) A nr
theorem okO_nd {a did : Nat} (hA : ∀ k, k < nr → A k < 12) : (nI (ndO A B nr a) &&& (nI did ^^^ (-1)) = 0) ↔ okO A B nr a did = true := by
  unfold okO ndO
  rw [i_sub (Nat.lt_of_lt_of_le (bd_lt nr hA) (by decide)), all_iff]
  refine ⟨fun h k _ hk => ?_, fun h t ht => ?_⟩
  · by_cases q : B k = a
    · rw [h (A k) ((bd_tb nr).mpr ⟨k, by omega, decide_eq_true q, rfl⟩), Bool.or_true]
    · rw [decide_eq_false q]
      rfl
  · obtain ⟨k, k1, k2, k3⟩ := (bd_tb nr).mp ht
    have h2 := h k (Nat.zero_le _) (by omega)
    rw [k2, k3] at h2
    exact h2
def lin (A B C : Nat → Nat) (m nr : Nat) : Nat → Nat → Nat → Nat → Nat → List Nat
  | 0, _, _, _, _ => []
  | d + 1, did, mq, c, n => if n = m then [c * 1048576 + mq] else catF (fun a => if (!did.testBit a && okO A B nr a did) = true then lin A B C m nr d (did ||| 2 ^ a) (mq ||| adR m a did) (c + C a * (n + 1)) (n + 1) else []) m 0
def ordS (C A B : Nat → Nat) (m nr : Nat) : Prop := m ≤ 6 ∧ nr ≤ 12 ∧ (∀ s, s < m → C s ≤ 999) ∧ ∀ k, k < nr → A k < m ∧ B k < m
def cOrd (N : vM) (p m nr : Nat) (C A B : Nat → Nat) : Prop := N.1 p 4 = nI m ∧ (∀ s, s < m → N.1 (p + 1) s = nI (C s)) ∧ ∀ s, s < m → N.1 (p + 4) s = nI (ndO A B nr s)
def rOrd (S : vM) (i m nr : Nat) (C A B : Nat → Nat) : Prop := S.1 136 i = nI m ∧ S.1 138 i = nI nr ∧ (∀ s, s < m → S.1 141 (20 * i + s) = nI (C s)) ∧ ∀ k, k < nr → S.1 143 (12 * i + k) = nI (A k) ∧ S.1 144 (12 * i + k) = nI (B k)
theorem c_canF {a did : Nat} (hP : v_isP p) (hm : m ≤ 6) (hd : did < 2 ^ m) (ha : a < m) (hA : ∀ k, k < nr → A k < 12) (h4 : N.1 (p + 4) a = nI (ndO A B nr a)) : fX3_canFollow N p (nI a) (nI did) = rI (if (!did.testBit a && okO A B nr a did) = true then 1 else 0) N := by
  have h2 : did < 2 ^ 31 := Nat.lt_of_lt_of_le hd (Nat.pow_le_pow_right (by decide) (by omega))
  unfold fX3_canFollow
  by_cases hb : did.testBit a = true
  · rw [i_b1 h2 (by omega) hb, if_neg (show ¬ (1 : Int32) = 0 by decide), hb]
    rfl
  · rw [i_b0 h2 (by omega) hb, if_pos (show (0 : Int32) = 0 from rfl), e_at (len := 12) (by rw [(v_LP hP).2.2.1.2.2.2.1]) (by omega) (by decide), bi_I, h4, ts_nt hb, Bool.not_false, Bool.true_and]
    by_cases q : okO A B nr a did = true
    · rw [if_pos ((okO_nd hA).mpr q), if_pos q]
    · rw [if_neg (fun z => q ((okO_nd hA).mp z)), if_neg q]
theorem c_bb {a did : Nat} (ha : a < 6) (hd : did < 2 ^ 31) : ∀ (n f l x : Nat), n < f → l + n = a → fX9_bitsBehind_4 f N (nI a) (nI did) (nI x) (nI l) = rI (nI (orL (fun l => if did.testBit l = true then 2 ^ cplN l a else 0) n l x)) N := by
  intro n
  induction n with
  | zero =>
    intro f l x hf hl
    cases f with
    | zero => exact absurd hf (Nat.not_lt_zero _)
    | succ f =>
      unfold fX9_bitsBehind_4
      rw [if_pos (nI_le (by omega) (by omega))]
      rfl
  | succ n ih =>
    intro f l x hf hl
    cases f with
    | zero => exact absurd hf (Nat.not_lt_zero _)
    | succ f =>
      have e : orL (fun l => if did.testBit l = true then 2 ^ cplN l a else 0) (n + 1) l x = orL (fun l => if did.testBit l = true then 2 ^ cplN l a else 0) n (l + 1) (x ||| if did.testBit l = true then 2 ^ cplN l a else 0) := rfl
      unfold fX9_bitsBehind_4
      rw [if_neg (nI_ge (by omega) (by omega)), e]
      by_cases hb : did.testBit l = true
      · rw [i_b1 hd (by omega) hb, if_neg (show ¬ (1 : Int32) = 0 by decide), c_cpl ha (by omega), bi_I, fa_or, nI_1, if_pos hb]
        exact ih f (l + 1) _ (by omega) (by omega)
      · rw [i_b0 hd (by omega) hb, if_pos (show (0 : Int32) = 0 from rfl), nI_1, if_neg hb, Nat.or_zero]
        exact ih f (l + 1) x (by omega) (by omega)
theorem or20' {x y : Nat} (hx : x < 1048576) (hy : y < 1048576) : x ||| y < 1048576 := Nat.or_lt_two_pow (n := 20) hx hy
theorem cn_le {c x n : Nat} (hx : x ≤ 999) (hn : n + 1 ≤ 6) (hc : c ≤ 5994 * n) : c + x * (n + 1) ≤ 5994 * (n + 1) := by
  have h1 : x * (n + 1) ≤ 999 * 6 := Nat.mul_le_mul hx hn
  omega
theorem c_li29 {self : vM → Nat → Int32 → Int32 → Int32 → Int32 → Option (vR × vM)} {d did mq mc c n : Nat} (hi : i < 6) (hP : v_isP p) (h0 : N0.2.2 (qw i) 0 - 1 = p) (hS : ordS C A B m nr) (hN : cOrd N0 p m nr C A B) (hd : did < 2 ^ m)
    (hself : ∀ (a : Nat) (L : List Nat) (N : vM), a < m → (!did.testBit a && okO A B nr a did) = true → cWy N0 N (qw i) L → L.length + (lin A B C m nr d (did ||| 2 ^ a) (mq ||| adR m a did) (c + C a * (n + 1)) (n + 1)).length ≤ 1458 →
      ∃ N', self N (qw i) (nI (did ||| 2 ^ a)) (nI (mc ||| bbF a did)) (nI (c + C a * (n + 1))) (nI (n + 1)) = rV N' ∧ cWy N0 N' (qw i) (L ++ lin A B C m nr d (did ||| 2 ^ a) (mq ||| adR m a did) (c + C a * (n + 1)) (n + 1))) :
    ∀ (k f s : Nat) (L : List Nat) (N : vM), k < f → s + k = m → cWy N0 N (qw i) L → L.length + (catF (fun a => if (!did.testBit a && okO A B nr a did) = true then lin A B C m nr d (did ||| 2 ^ a) (mq ||| adR m a did) (c + C a * (n + 1)) (n + 1) else []) k s).length ≤ 1458 →
      ∃ N', fX9_line_29 self f N (qw i) (nI did) (nI mc) (nI c) (nI n) (nI s) = rV N' ∧ cWy N0 N' (qw i) (L ++ catF (fun a => if (!did.testBit a && okO A B nr a did) = true then lin A B C m nr d (did ||| 2 ^ a) (mq ||| adR m a did) (c + C a * (n + 1)) (n + 1) else []) k s) := by
  obtain ⟨hm, hnr, hC, hAB⟩ := hS
  have hd31 : did < 2 ^ 31 := Nat.lt_of_lt_of_le hd (Nat.pow_le_pow_right (by decide) (by omega))
  intro k
  induction k with
  | zero =>
    intro f s L N hf hs hW hL
    cases f with
    | zero => exact absurd hf (Nat.not_lt_zero _)
    | succ f =>
      have e0 : N.2.2 (qw i) 0 - 1 = p := by rw [hW.2.2.2.2.1]; exact h0
      have e1 : N.1 p = N0.1 p := hW.2.2.1 p (plan_ne hP 0 (by decide) i hi).1
      refine ⟨N, ?_, by show cWy N0 N (qw i) (L ++ []); rw [List.append_nil]; exact hW⟩
      unfold fX9_line_29
      rw [e0, e1, hN.1, if_pos (nI_le (by omega) (by omega))]
  | succ k ih =>
    intro f s L N hf hs hW hL
    cases f with
    | zero => exact absurd hf (Nat.not_lt_zero _)
    | succ f =>
      have e0 : N.2.2 (qw i) 0 - 1 = p := by rw [hW.2.2.2.2.1]; exact h0
      have e1 : N.1 p = N0.1 p := hW.2.2.1 p (plan_ne hP 0 (by decide) i hi).1
      have e2 : N.1 (p + 1) = N0.1 (p + 1) := hW.2.2.1 _ (plan_ne hP 1 (by decide) i hi).1
      have e5 : N.1 (p + 4) = N0.1 (p + 4) := hW.2.2.1 _ (plan_ne hP 4 (by decide) i hi).1
      unfold fX9_line_29
      rw [e0, e1, hN.1, if_neg (nI_ge (by omega) (by omega)), c_canF (m := m) (nr := nr) (A := A) (B := B) hP hm hd (show s < m by omega) (fun k hk => by have := hAB k hk; omega) (by rw [e5]; exact hN.2.2 s (by omega)), bi_I]
      by_cases q : (!did.testBit s && okO A B nr s did) = true
      · have eg : catF (fun a => if (!did.testBit a && okO A B nr a did) = true then lin A B C m nr d (did ||| 2 ^ a) (mq ||| adR m a did) (c + C a * (n + 1)) (n + 1) else []) (k + 1) s = lin A B C m nr d (did ||| 2 ^ s) (mq ||| adR m s did) (c + C s * (n + 1)) (n + 1) ++ catF (fun a => if (!did.testBit a && okO A B nr a did) = true then lin A B C m nr d (did ||| 2 ^ a) (mq ||| adR m a did) (c + C a * (n + 1)) (n + 1) else []) k (s + 1) := by
          show (if (!did.testBit s && okO A B nr s did) = true then lin A B C m nr d (did ||| 2 ^ s) (mq ||| adR m s did) (c + C s * (n + 1)) (n + 1) else []) ++ _ = _
          rw [if_pos q]
        rw [eg, List.length_append] at hL
        obtain ⟨N1, s1, s2⟩ := hself s L N (by omega) q hW (by omega)
        obtain ⟨N', u1, u2⟩ := ih f (s + 1) (L ++ lin A B C m nr d (did ||| 2 ^ s) (mq ||| adR m s did) (c + C s * (n + 1)) (n + 1)) N1 (by omega) (by omega) s2 (by rw [List.length_append]; omega)
        refine ⟨N', ?_, by rw [eg, ← List.append_assoc]; exact u2⟩
        have ebb : fX9_bitsBehind N (nI s) (nI did) = rI (nI (bbF s did)) N := c_bb (show s < 6 by omega) hd31 s FU 0 0 (FU_lt (by omega)) (Nat.zero_add s)
        rw [if_pos q, if_neg (show ¬ (1 : Int32) = 0 by decide), e0, c_coA hP (by omega), bi_I, e2, hN.2.1 s (by omega), ebb, bi_I, sh1 s (by omega), fa_or, fa_or, nI_1 n, nI_mul, nI_add, s1, bv_V, nI_1]
        exact u1
      · have eg : catF (fun a => if (!did.testBit a && okO A B nr a did) = true then lin A B C m nr d (did ||| 2 ^ a) (mq ||| adR m a did) (c + C a * (n + 1)) (n + 1) else []) (k + 1) s = catF (fun a => if (!did.testBit a && okO A B nr a did) = true then lin A B C m nr d (did ||| 2 ^ a) (mq ||| adR m a did) (c + C a * (n + 1)) (n + 1) else []) k (s + 1) := by
          show (if (!did.testBit s && okO A B nr s did) = true then lin A B C m nr d (did ||| 2 ^ s) (mq ||| adR m s did) (c + C s * (n + 1)) (n + 1) else []) ++ _ = _
          rw [if_neg q, List.nil_append]
        rw [eg] at hL ⊢
        obtain ⟨N', u1, u2⟩ := ih f (s + 1) L N (by omega) (by omega) hW hL
        refine ⟨N', ?_, u2⟩
        rw [if_neg q, if_pos (show (0 : Int32) = 0 from rfl), nI_1]
        exact u1
theorem c_line (hi : i < 6) (hP : v_isP p) (h0 : N0.2.2 (qw i) 0 - 1 = p) (hS : ordS C A B m nr) (hN : cOrd N0 p m nr C A B) : ∀ (d did mq mc c n : Nat) (L : List Nat) (N : vM), m < n + d → did < 2 ^ m → unN m did + n = m → mq = mc ||| pdF m did → mc < 1048576 → c ≤ 5994 * n → cWy N0 N (qw i) L → L.length + (lin A B C m nr d did mq c n).length ≤ 1458 →
    ∃ N', fX9_line_r d N (qw i) (nI did) (nI mc) (nI c) (nI n) = rV N' ∧ cWy N0 N' (qw i) (L ++ lin A B C m nr d did mq c n) := by
  have hS' := hS
  obtain ⟨hm, hnr, hC, hAB⟩ := hS'
  intro d
  induction d with
  | zero => intro did mq mc c n L N h1 h2 h3; omega
  | succ d ih =>
    intro did mq mc c n L N h1 h2 h3 h4 h5 h6 hW hL
    have e0 : N.2.2 (qw i) 0 - 1 = p := by rw [hW.2.2.2.2.1]; exact h0
    have e1 : N.1 p = N0.1 p := hW.2.2.1 p (plan_ne hP 0 (by decide) i hi).1
    have hLay : (v_LAY (qw i + 7)).2.2 = 1458 := by rw [(v_LW (v_isW_qw hi)).2.2.1]
    unfold fX9_line_r fX9_line_b
    rw [e0, e1, hN.1]
    by_cases q : n = m
    · have eg : lin A B C m nr (d + 1) did mq c n = [c * 1048576 + mq] := if_pos q
      have ez : pdF m did = 0 := ln_z hm h2 (by omega)
      rw [ez, Nat.or_zero] at h4
      rw [eg, h4] at hL ⊢
      rw [List.length_singleton] at hL
      obtain ⟨N', u1, u2⟩ := c_add hLay hW (by omega) (show c ≤ 1048575 by omega) h5
      refine ⟨N', ?_, u2⟩
      rw [if_pos (nI_le (by omega) (by omega))]
      unfold fX9_line_19
      rw [u1, bv_V]
    · have eg : lin A B C m nr (d + 1) did mq c n = catF (fun a => if (!did.testBit a && okO A B nr a did) = true then lin A B C m nr d (did ||| 2 ^ a) (mq ||| adR m a did) (c + C a * (n + 1)) (n + 1) else []) m 0 := if_neg q
      rw [eg] at hL ⊢
      rw [if_neg (nI_ge (by omega) (by omega)), if_pos (show nI n < 6 from nI_lt (show n < 6 by omega) (by decide))]
      exact c_li29 (d := d) hi hP h0 hS hN h2 (fun a L' N' a1 a2 a3 a4 => by
        have hb : did.testBit a = false := by
          cases hb2 : did.testBit a
          · rfl
          · rw [hb2] at a2
            cases a2
        obtain ⟨l1, l2, l3, -, -, -, -, -, l9⟩ := ln_b hm h2 a1 hb
        refine ih (did ||| 2 ^ a) (mq ||| adR m a did) (mc ||| bbF a did) (c + C a * (n + 1)) (n + 1) L' N' (by omega) l2 (by omega) ?_ (or20' h5 l9) (cn_le (hC a a1) (by omega) h6) a3 a4
        rw [h4, Nat.or_assoc, Nat.or_assoc, l1]) m FU 0 L N (FU_lt (by omega)) (Nat.zero_add m) hW hL
/-! the reference's -/
theorem r_may {a did : Nat} (hi : i < 6) (hd : did < 2 ^ 31) (ha : a < 6) (hA : ∀ k, k < nr → A k < 12 ∧ B k < 12) (hnr : nr ≤ 12) (h8 : S.1 138 i = nI nr) (hN : ∀ k, k < nr → S.1 143 (12 * i + k) = nI (A k) ∧ S.1 144 (12 * i + k) = nI (B k)) : ∀ (n f k : Nat), n < f → k + n = nr →
    fX11_mayNow_6 f S (nI i) (nI a) (nI did) (nI (12 * i + k)) = rI (if allF (fun k => !(decide (B k = a)) || did.testBit (A k)) n k = true then 1 else 0) S := by
  have hin : v_in (nI i) 12 = true := v_in_nI (by omega) (by decide)
  have e12 : (12 : Int32) * nI i + nI nr = nI (12 * i + nr) := by rw [show (12 : Int32) = nI 12 from rfl, nI_mul, nI_add]
  intro n
  induction n with
  | zero =>
    intro f k hf hk
    cases f with
    | zero => exact absurd hf (Nat.not_lt_zero _)
    | succ f =>
      unfold fX11_mayNow_6
      rw [if_pos hin, nI_clamp (by omega), h8, e12, if_pos (nI_le (by omega) (by omega))]
      exact congrArg (fun z => rI z S) (if_pos (show allF (fun k => !(decide (B k = a)) || did.testBit (A k)) 0 k = true from rfl)).symm
  | succ n ih =>
    intro f k hf hk
    cases f with
    | zero => exact absurd hf (Nat.not_lt_zero _)
    | succ f =>
      obtain ⟨n1, n2⟩ := hN k (by omega)
      have hk2 := hA k (by omega)
      have hin2 : v_in (nI (12 * i + k)) 144 = true := v_in_nI (by omega) (by decide)
      have go := ih f (k + 1) (by omega) (by omega)
      have e : allF (fun k => !(decide (B k = a)) || did.testBit (A k)) (n + 1) k = if (!(decide (B k = a)) || did.testBit (A k)) = true then allF (fun k => !(decide (B k = a)) || did.testBit (A k)) n (k + 1) else false := rfl
      have e1 : nI (12 * i + k) + 1 = nI (12 * i + (k + 1)) := nI_1 _
      unfold fX11_mayNow_6
      rw [if_pos hin, nI_clamp (n := i) (by omega), h8, e12, if_neg (nI_ge (by omega) (by omega)), if_pos hin2, nI_clamp (n := 12 * i + k) (by omega), n2, e]
      by_cases q : B k = a
      · rw [if_pos (congrArg nI q), if_pos hin2, n1]
        by_cases hb : did.testBit (A k) = true
        · rw [i_b1 hd (by omega) hb, if_neg (show ¬ (1 : Int32) = 0 by decide), if_pos (show (!(decide (B k = a)) || did.testBit (A k)) = true by rw [hb, Bool.or_true]), e1]
          exact go
        · rw [i_b0 hd (by omega) hb, if_pos (show (0 : Int32) = 0 from rfl), if_neg (show ¬ (!(decide (B k = a)) || did.testBit (A k)) = true by rw [ts_nt hb, decide_eq_true q]; decide)]
          rfl
      · rw [if_neg (fun z => q ((nI_eq (by omega) (by omega)).mp z)), if_pos (show (!(decide (B k = a)) || did.testBit (A k)) = true by rw [decide_eq_false q]; rfl), e1]
        exact go
theorem r_a68 {self : vM → Int32 → Int32 → Int32 → Int32 → Int32 → Option (vR × vM)} {k23 : vM → Int32 → Int32 → Int32 → Int32 → Int32 → Int32 → Option (vR × vM)} {did n c mq a : Nat} (hi : i < 6) (hd : did < 2 ^ 31) (hm : m ≤ 6) (h6 : S.1 136 i = nI m) (ha : a < m) (hn : n < 6) (hc : S.1 141 (20 * i + a) = nI (C a)) : ∀ (r f j x : Nat), r < f → j + r = m → a < j →
    fX11_arrange_68 self k23 f S (nI i) (nI did) (nI n) (nI c) (nI mq) (nI a) (nI x) (nI j) = bv (self S (nI i) (nI (did ||| 2 ^ a)) (nI (n + 1)) (nI (c + C a * (n + 1))) (nI (orL (fun j => if did.testBit j = true then 0 else 2 ^ cplN a j) r j x))) fun M14 => k23 M14 (nI i) (nI did) (nI n) (nI c) (nI mq) (nI (a + 1)) := by
  have hin : v_in (nI i) 12 = true := v_in_nI (by omega) (by decide)
  have e20 : (20 : Int32) * nI i + nI a = nI (20 * i + a) := by rw [show (20 : Int32) = nI 20 from rfl, nI_mul, nI_add]
  intro r
  induction r with
  | zero =>
    intro f j x hf hj haj
    cases f with
    | zero => exact absurd hf (Nat.not_lt_zero _)
    | succ f =>
      unfold fX11_arrange_68
      rw [if_pos hin, nI_clamp (n := i) (by omega), h6, if_pos (nI_le (by omega) (by omega)), e20, if_pos (v_in_nI (by omega) (by decide)), nI_clamp (n := 20 * i + a) (by omega), hc, sh1 a (by omega), fa_or, nI_1 n, nI_mul, nI_add, nI_1]
      rfl
  | succ r ih =>
    intro f j x hf hj haj
    cases f with
    | zero => exact absurd hf (Nat.not_lt_zero _)
    | succ f =>
      have e : orL (fun j => if did.testBit j = true then 0 else 2 ^ cplN a j) (r + 1) j x = orL (fun j => if did.testBit j = true then 0 else 2 ^ cplN a j) r (j + 1) (x ||| if did.testBit j = true then 0 else 2 ^ cplN a j) := rfl
      have hcl := cpl_lt (show j < 6 by omega) haj
      unfold fX11_arrange_68
      rw [if_pos hin, nI_clamp (n := i) (by omega), h6, if_neg (nI_ge (by omega) (by omega)), e]
      by_cases hb : did.testBit j = true
      · rw [i_b1 hd (by omega) hb, if_neg (show ¬ (1 : Int32) = 0 by decide), nI_1 j, if_pos hb, Nat.or_zero]
        exact ih f (j + 1) x (by omega) (by omega) (by omega)
      · rw [i_b0 hd (by omega) hb, if_pos (show (0 : Int32) = 0 from rfl), r_couple (by omega), bi_I, sh1 _ (by omega), fa_or, nI_1 j, if_neg hb]
        exact ih f (j + 1) _ (by omega) (by omega) (by omega)
theorem r_a23 {self : vM → Int32 → Int32 → Int32 → Int32 → Int32 → Option (vR × vM)} {d did mq c n : Nat} (hi : i < 6) (hS : ordS C A B m nr) (hN : rOrd S0 i m nr C A B) (hd : did < 2 ^ m) (hn : n < 6)
    (hself : ∀ (a : Nat) (L : List Nat) (S : vM), a < m → (!did.testBit a && okO A B nr a did) = true → rWy S0 S i L → L.length + (lin A B C m nr d (did ||| 2 ^ a) (mq ||| adR m a did) (c + C a * (n + 1)) (n + 1)).length ≤ 1458 →
      ∃ S', self S (nI i) (nI (did ||| 2 ^ a)) (nI (n + 1)) (nI (c + C a * (n + 1))) (nI (mq ||| adR m a did)) = rV S' ∧ rWy S0 S' i (L ++ lin A B C m nr d (did ||| 2 ^ a) (mq ||| adR m a did) (c + C a * (n + 1)) (n + 1))) :
    ∀ (k f s : Nat) (L : List Nat) (S : vM), k < f → s + k = m → rWy S0 S i L → L.length + (catF (fun a => if (!did.testBit a && okO A B nr a did) = true then lin A B C m nr d (did ||| 2 ^ a) (mq ||| adR m a did) (c + C a * (n + 1)) (n + 1) else []) k s).length ≤ 1458 →
      ∃ S', fX11_arrange_23 self f S (nI i) (nI did) (nI n) (nI c) (nI mq) (nI s) = rV S' ∧ rWy S0 S' i (L ++ catF (fun a => if (!did.testBit a && okO A B nr a did) = true then lin A B C m nr d (did ||| 2 ^ a) (mq ||| adR m a did) (c + C a * (n + 1)) (n + 1) else []) k s) := by
  obtain ⟨hm, hnr, hC, hAB⟩ := hS
  obtain ⟨n6, n8, n1, n2⟩ := hN
  have hd31 : did < 2 ^ 31 := Nat.lt_of_lt_of_le hd (Nat.pow_le_pow_right (by decide) (by omega))
  have hin : v_in (nI i) 12 = true := v_in_nI (by omega) (by decide)
  intro k
  induction k with
  | zero =>
    intro f s L S hf hs hW hL
    cases f with
    | zero => exact absurd hf (Nat.not_lt_zero _)
    | succ f =>
      refine ⟨S, ?_, by show rWy S0 S i (L ++ []); rw [List.append_nil]; exact hW⟩
      unfold fX11_arrange_23
      rw [if_pos hin, nI_clamp (by omega), hW.2.2.2.1 136 (by decide) (by decide) (by decide), n6, if_pos (nI_le (by omega) (by omega))]
  | succ k ih =>
    intro f s L S hf hs hW hL
    cases f with
    | zero => exact absurd hf (Nat.not_lt_zero _)
    | succ f =>
      have k4 := hW.2.2.2.1
      have emay : fX11_mayNow S (nI i) (nI s) (nI did) = rI (if okO A B nr s did = true then 1 else 0) S := by
        unfold fX11_mayNow
        rw [show (12 : Int32) * nI i = nI (12 * i + 0) from nI_mul 12 i]
        exact r_may hi hd31 (by omega) (fun k hk => by have := hAB k hk; omega) hnr (by rw [k4 138 (by decide) (by decide) (by decide)]; exact n8) (fun k hk => by rw [k4 143 (by decide) (by decide) (by decide), k4 144 (by decide) (by decide) (by decide)]; exact n2 k hk) nr FU 0 (FU_lt (by omega)) (Nat.zero_add nr)
      have skip : ¬ (!did.testBit s && okO A B nr s did) = true → ∃ S', fX11_arrange_23 self f S (nI i) (nI did) (nI n) (nI c) (nI mq) (nI (s + 1)) = rV S' ∧ rWy S0 S' i (L ++ catF (fun a => if (!did.testBit a && okO A B nr a did) = true then lin A B C m nr d (did ||| 2 ^ a) (mq ||| adR m a did) (c + C a * (n + 1)) (n + 1) else []) (k + 1) s) := fun q => by
        have eg : catF (fun a => if (!did.testBit a && okO A B nr a did) = true then lin A B C m nr d (did ||| 2 ^ a) (mq ||| adR m a did) (c + C a * (n + 1)) (n + 1) else []) (k + 1) s = catF (fun a => if (!did.testBit a && okO A B nr a did) = true then lin A B C m nr d (did ||| 2 ^ a) (mq ||| adR m a did) (c + C a * (n + 1)) (n + 1) else []) k (s + 1) := by
          show (if (!did.testBit s && okO A B nr s did) = true then lin A B C m nr d (did ||| 2 ^ s) (mq ||| adR m s did) (c + C s * (n + 1)) (n + 1) else []) ++ _ = _
          rw [if_neg q, List.nil_append]
        rw [eg] at hL ⊢
        exact ih f (s + 1) L S (by omega) (by omega) hW hL
      unfold fX11_arrange_23
      rw [if_pos hin, nI_clamp (by omega), k4 136 (by decide) (by decide) (by decide), n6, if_neg (nI_ge (by omega) (by omega))]
      by_cases hb : did.testBit s = true
      · rw [i_b1 hd31 (by omega) hb, if_pos (show (1 : Int32) = 1 from rfl), nI_1 s]
        exact skip (by rw [hb, Bool.not_true, Bool.false_and]; decide)
      · rw [i_b0 hd31 (by omega) hb, if_neg (show ¬ (0 : Int32) = 1 by decide), emay, bi_I]
        by_cases q0 : okO A B nr s did = true
        · have q : (!did.testBit s && okO A B nr s did) = true := by rw [ts_nt hb, q0]; rfl
          have eg : catF (fun a => if (!did.testBit a && okO A B nr a did) = true then lin A B C m nr d (did ||| 2 ^ a) (mq ||| adR m a did) (c + C a * (n + 1)) (n + 1) else []) (k + 1) s = lin A B C m nr d (did ||| 2 ^ s) (mq ||| adR m s did) (c + C s * (n + 1)) (n + 1) ++ catF (fun a => if (!did.testBit a && okO A B nr a did) = true then lin A B C m nr d (did ||| 2 ^ a) (mq ||| adR m a did) (c + C a * (n + 1)) (n + 1) else []) k (s + 1) := by
            show (if (!did.testBit s && okO A B nr s did) = true then lin A B C m nr d (did ||| 2 ^ s) (mq ||| adR m s did) (c + C s * (n + 1)) (n + 1) else []) ++ _ = _
            rw [if_pos q]
          rw [eg, List.length_append] at hL
          obtain ⟨S1, s1, s2⟩ := hself s L S (by omega) q hW (by omega)
          obtain ⟨S', u1, u2⟩ := ih f (s + 1) (L ++ lin A B C m nr d (did ||| 2 ^ s) (mq ||| adR m s did) (c + C s * (n + 1)) (n + 1)) S1 (by omega) (by omega) s2 (by rw [List.length_append]; omega)
          refine ⟨S', ?_, by rw [eg, ← List.append_assoc]; exact u2⟩
          rw [if_pos q0, if_neg (show ¬ (1 : Int32) = 0 by decide), nI_1 s, r_a68 (m := m) (C := C) hi hd31 hm (by rw [k4 136 (by decide) (by decide) (by decide)]; exact n6) (show s < m by omega) hn (by rw [k4 141 (by decide) (by decide) (by decide)]; exact n1 s (by omega)) (m - (s + 1)) FU (s + 1) mq (FU_lt (by omega)) (by omega) (Nat.lt_succ_self s), orL_0, show orL (fun j => if did.testBit j = true then 0 else 2 ^ cplN s j) (m - (s + 1)) (s + 1) 0 = adR m s did from rfl, s1, bv_V]
          exact u1
        · rw [if_neg q0, if_pos (show (0 : Int32) = 0 from rfl), nI_1 s]
          exact skip (by rw [Bool.and_eq_true]; exact fun z => q0 z.2)
theorem r_line (hi : i < 6) (hS : ordS C A B m nr) (hN : rOrd S0 i m nr C A B) : ∀ (d did mq c n : Nat) (L : List Nat) (S : vM), m < n + d → did < 2 ^ m → unN m did + n = m → mq < 1048576 → c ≤ 5994 * n → rWy S0 S i L → L.length + (lin A B C m nr d did mq c n).length ≤ 1458 →
    ∃ S', fX11_arrange_r d S (nI i) (nI did) (nI n) (nI c) (nI mq) = rV S' ∧ rWy S0 S' i (L ++ lin A B C m nr d did mq c n) := by
  have hS' := hS
  obtain ⟨hm, hnr, hC, hAB⟩ := hS'
  intro d
  induction d with
  | zero => intro did mq c n L S h1 h2 h3; omega
  | succ d ih =>
    intro did mq c n L S h1 h2 h3 h5 h6 hW hL
    unfold fX11_arrange_r fX11_arrange_b
    rw [if_pos (v_in_nI (by omega) (by decide)), nI_clamp (by omega), hW.2.2.2.1 136 (by decide) (by decide) (by decide), hN.1]
    by_cases q : n = m
    · have eg : lin A B C m nr (d + 1) did mq c n = [c * 1048576 + mq] := if_pos q
      rw [eg] at hL ⊢
      rw [List.length_singleton] at hL
      obtain ⟨S', u1, u2⟩ := r_add hi hW (by omega) (show c ≤ 1048575 by omega) h5
      refine ⟨S', ?_, u2⟩
      rw [if_pos (congrArg nI q), u1, bv_V]
    · have eg : lin A B C m nr (d + 1) did mq c n = catF (fun a => if (!did.testBit a && okO A B nr a did) = true then lin A B C m nr d (did ||| 2 ^ a) (mq ||| adR m a did) (c + C a * (n + 1)) (n + 1) else []) m 0 := if_neg q
      rw [eg] at hL ⊢
      rw [if_neg (fun z => q ((nI_eq (by omega) (by omega)).mp z))]
      exact r_a23 (d := d) hi hS hN h2 (by omega) (fun a L' S' a1 a2 a3 a4 => by
        have hb : did.testBit a = false := by
          cases hb2 : did.testBit a
          · rfl
          · rw [hb2] at a2
            cases a2
        obtain ⟨-, l2, l3, -, -, -, -, l8, -⟩ := ln_b hm h2 a1 hb
        exact ih (did ||| 2 ^ a) (mq ||| adR m a did) (c + C a * (n + 1)) (n + 1) L' S' (by omega) l2 (by omega) (or20' h5 l8) (cn_le (hC a a1) (by omega) h6) a3 a4) m FU 0 L S (FU_lt (by omega)) (Nat.zero_add m) hW hL
/-! how many orders there can be, and that their marks are all different -/
def fct : Nat → Nat
  | 0 => 1
  | n + 1 => (n + 1) * fct n
theorem fct_ok : ((List.range 7).all fun u => decide (fct u ≤ 720 ∧ 1 ≤ fct u)) = true := by decide +kernel
theorem fct_le {u : Nat} (h : u ≤ 6) : fct u ≤ 720 ∧ 1 ≤ fct u := of_decide_eq_true (List.all_eq_true.mp fct_ok u (List.mem_range.mpr (by omega)))
theorem nb_of {did a : Nat} {b : Bool} (h : (!did.testBit a && b) = true) : did.testBit a = false := by
  cases hb2 : did.testBit a
  · rfl
  · rw [hb2] at h
    cases h
theorem lin_len (hm : m ≤ 6) : ∀ d did mq c n, did < 2 ^ m → (lin A B C m nr d did mq c n).length ≤ fct (unN m did) := by
  intro d
  induction d with
  | zero => intro did mq c n _; exact Nat.zero_le _
  | succ d ih =>
    intro did mq c n hd
    have hu : unN m did ≤ 6 := Nat.le_trans (cnt_le _ m 0) hm
    by_cases q : n = m
    · rw [show lin A B C m nr (d + 1) did mq c n = [c * 1048576 + mq] from if_pos q, List.length_singleton]
      exact (fct_le hu).2
    · rw [show lin A B C m nr (d + 1) did mq c n = catF (fun a => if (!did.testBit a && okO A B nr a did) = true then lin A B C m nr d (did ||| 2 ^ a) (mq ||| adR m a did) (c + C a * (n + 1)) (n + 1) else []) m 0 from if_neg q]
      have h1 := cat_len (g := fun a => if (!did.testBit a && okO A B nr a did) = true then lin A B C m nr d (did ||| 2 ^ a) (mq ||| adR m a did) (c + C a * (n + 1)) (n + 1) else []) (p := fun t => did.testBit t = false) (B := fct (unN m did - 1)) m 0 (fun t a1 a2 => by
        show (if (!did.testBit t && okO A B nr t did) = true then lin A B C m nr d (did ||| 2 ^ t) (mq ||| adR m t did) (c + C t * (n + 1)) (n + 1) else []).length ≤ _
        by_cases q2 : (!did.testBit t && okO A B nr t did) = true
        · have hb := nb_of q2
          obtain ⟨-, l2, l3, -⟩ := ln_b hm hd (show t < m by omega) hb
          rw [if_pos q2, if_pos hb, ← l3, Nat.add_sub_cancel]
          exact ih _ _ _ _ l2
        · rw [if_neg q2]
          exact Nat.zero_le _)
      refine Nat.le_trans h1 ?_
      show unN m did * fct (unN m did - 1) ≤ _
      cases hz : unN m did with
      | zero =>
        rw [Nat.zero_mul]
        exact Nat.zero_le _
      | succ u =>
        rw [Nat.add_sub_cancel]
        exact Nat.le_refl _
theorem lin_mem (hm : m ≤ 6) : ∀ d did mq c n x, did < 2 ^ m → mq < 1048576 → mq &&& knM m did = mq → x ∈ lin A B C m nr d did mq c n → (x % 1048576) &&& knM m did = mq := by
  intro d
  induction d with
  | zero => intro did mq c n x _ _ _ hx; cases hx
  | succ d ih =>
    intro did mq c n x hd hk hs hx
    by_cases q : n = m
    · rw [show lin A B C m nr (d + 1) did mq c n = [c * 1048576 + mq] from if_pos q] at hx
      rw [List.mem_singleton.mp hx, show (c * 1048576 + mq) % 1048576 = mq by omega, hs]
    · rw [show lin A B C m nr (d + 1) did mq c n = catF (fun a => if (!did.testBit a && okO A B nr a did) = true then lin A B C m nr d (did ||| 2 ^ a) (mq ||| adR m a did) (c + C a * (n + 1)) (n + 1) else []) m 0 from if_neg q] at hx
      obtain ⟨t, t1, t2, t3⟩ := cat_mem m 0 x hx
      have t3' : x ∈ (if (!did.testBit t && okO A B nr t did) = true then lin A B C m nr d (did ||| 2 ^ t) (mq ||| adR m t did) (c + C t * (n + 1)) (n + 1) else []) := t3
      by_cases q2 : (!did.testBit t && okO A B nr t did) = true
      · rw [if_pos q2] at t3'
        obtain ⟨-, l2, -, l4, l5, l6, l7, l8, -⟩ := ln_b hm hd (show t < m by omega) (nb_of q2)
        have h1 := ih (did ||| 2 ^ t) (mq ||| adR m t did) (c + C t * (n + 1)) (n + 1) x l2 (or20' hk l8) (by
          rw [Nat.and_or_distrib_right, l6]
          have h2 : mq &&& knM m (did ||| 2 ^ t) = mq := by
            rw [← hs, Nat.and_assoc, l7]
          rw [h2]) t3'
        rw [← l5, ← Nat.and_assoc, h1, Nat.and_or_distrib_right, l4, Nat.or_zero, hs]
      · rw [if_neg q2] at t3'
        cases t3'
theorem lin_pw (hm : m ≤ 6) : ∀ d did mq c n, did < 2 ^ m → mq < 1048576 → mq &&& knM m did = mq → (lin A B C m nr d did mq c n).Pairwise mkR := by
  intro d
  induction d with
  | zero => intro did mq c n _ _ _; exact List.Pairwise.nil
  | succ d ih =>
    intro did mq c n hd hk hs
    have hin : ∀ t, t < m → did.testBit t = false → (mq ||| adR m t did) &&& knM m (did ||| 2 ^ t) = mq ||| adR m t did := fun t ht hb => by
      obtain ⟨-, -, -, -, -, l6, l7, -, -⟩ := ln_b hm hd ht hb
      have h2 : mq &&& knM m (did ||| 2 ^ t) = mq := by
        rw [← hs, Nat.and_assoc, l7]
      rw [Nat.and_or_distrib_right, l6, h2]
    by_cases q : n = m
    · rw [show lin A B C m nr (d + 1) did mq c n = [c * 1048576 + mq] from if_pos q]
      exact List.pairwise_singleton _ _
    · rw [show lin A B C m nr (d + 1) did mq c n = catF (fun a => if (!did.testBit a && okO A B nr a did) = true then lin A B C m nr d (did ||| 2 ^ a) (mq ||| adR m a did) (c + C a * (n + 1)) (n + 1) else []) m 0 from if_neg q]
      refine cat_pw m 0 (fun t a1 a2 => ?_) (fun t t' a1 a2 a3 x hx y hy => ?_)
      · show (if (!did.testBit t && okO A B nr t did) = true then lin A B C m nr d (did ||| 2 ^ t) (mq ||| adR m t did) (c + C t * (n + 1)) (n + 1) else []).Pairwise mkR
        by_cases q2 : (!did.testBit t && okO A B nr t did) = true
        · rw [if_pos q2]
          obtain ⟨-, l2, -, -, -, -, -, l8, -⟩ := ln_b hm hd (show t < m by omega) (nb_of q2)
          exact ih _ _ _ _ l2 (or20' hk l8) (hin t (by omega) (nb_of q2))
        · rw [if_neg q2]
          exact List.Pairwise.nil
      · have hx' : x ∈ (if (!did.testBit t && okO A B nr t did) = true then lin A B C m nr d (did ||| 2 ^ t) (mq ||| adR m t did) (c + C t * (n + 1)) (n + 1) else []) := hx
        have hy' : y ∈ (if (!did.testBit t' && okO A B nr t' did) = true then lin A B C m nr d (did ||| 2 ^ t') (mq ||| adR m t' did) (c + C t' * (n + 1)) (n + 1) else []) := hy
        by_cases q2 : (!did.testBit t && okO A B nr t did) = true
        · by_cases q3 : (!did.testBit t' && okO A B nr t' did) = true
          · rw [if_pos q2] at hx'
            rw [if_pos q3] at hy'
            have b1 := nb_of q2
            have b2 := nb_of q3
            obtain ⟨-, l2, -, -, -, -, -, l8, -⟩ := ln_b hm hd (show t < m by omega) b1
            obtain ⟨-, k2, -, -, -, -, -, k8, -⟩ := ln_b hm hd (show t' < m by omega) b2
            obtain ⟨q4, q5, q6, q7, q8⟩ := ln_q hm hd a2 (show t' < m by omega) b1 b2
            have c1 := congrArg (fun v => v.testBit (cplN t t')) (lin_mem hm d _ _ _ _ x l2 (or20' hk l8) (hin t (by omega) b1) hx')
            have c2 := congrArg (fun v => v.testBit (cplN t t')) (lin_mem hm d _ _ _ _ y k2 (or20' hk k8) (hin t' (by omega) b2) hy')
            have c3 := congrArg (fun v => v.testBit (cplN t t')) hs
            simp only [Nat.testBit_and, Nat.testBit_or] at c1 c2 c3
            rw [q4, q7, Bool.and_true, Bool.or_true] at c1
            rw [q6, Bool.and_false] at c3
            rw [q5, q8, Bool.and_true, Bool.or_false, ← c3] at c2
            intro e
            rw [e, c2] at c1
            cases c1
          · rw [if_neg q3] at hy'
            cases hy'
        · rw [if_neg q2] at hx'
          cases hx'
theorem lin_sm (hS : ordS C A B m nr) : ∀ d did mq c n x, did < 2 ^ m → mq < 1048576 → c ≤ 5994 * n → n ≤ m → x ∈ lin A B C m nr d did mq c n → x < 1099511627776 := by
  obtain ⟨hm, hnr, hC, hAB⟩ := hS
  intro d
  induction d with
  | zero => intro did mq c n x _ _ _ _ hx; cases hx
  | succ d ih =>
    intro did mq c n x hd hk hc hn hx
    by_cases q : n = m
    · rw [show lin A B C m nr (d + 1) did mq c n = [c * 1048576 + mq] from if_pos q] at hx
      rw [List.mem_singleton.mp hx]
      omega
    · rw [show lin A B C m nr (d + 1) did mq c n = catF (fun a => if (!did.testBit a && okO A B nr a did) = true then lin A B C m nr d (did ||| 2 ^ a) (mq ||| adR m a did) (c + C a * (n + 1)) (n + 1) else []) m 0 from if_neg q] at hx
      obtain ⟨t, t1, t2, t3⟩ := cat_mem m 0 x hx
      have t3' : x ∈ (if (!did.testBit t && okO A B nr t did) = true then lin A B C m nr d (did ||| 2 ^ t) (mq ||| adR m t did) (c + C t * (n + 1)) (n + 1) else []) := t3
      by_cases q2 : (!did.testBit t && okO A B nr t did) = true
      · rw [if_pos q2] at t3'
        obtain ⟨-, l2, -, -, -, -, -, l8, -⟩ := ln_b hm hd (show t < m by omega) (nb_of q2)
        exact ih _ _ _ _ x l2 (or20' hk l8) (cn_le (hC t (by omega)) (by omega) hc) (by omega) t3'
      · rw [if_neg q2] at t3'
        cases t3'
end P47
