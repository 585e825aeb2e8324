section P46
variable {N N0 S S0 : vM} {i p z m nr : Nat} {C Kd A B : Nat → Nat}
theorem bt_n {x k : Nat} (hk : k < 32) : bt (nI x) k = x.testBit k := by
  show (BitVec.ofNat 32 x).getLsbD k = _
  rw [BitVec.getLsbD_ofNat]
  simp [hk]
theorem tb_hi {x t : Nat} (hx : x < 2 ^ 31) (ht : 31 ≤ t) : x.testBit t = false := Nat.testBit_lt_two_pow (Nat.lt_of_lt_of_le hx (Nat.pow_le_pow_right (by decide) ht))
theorem i_sub {y x : Nat} (hy : y < 2 ^ 31) : (nI y &&& (nI x ^^^ (-1)) = 0) ↔ ∀ t, y.testBit t = true → x.testBit t = true := by
  refine ⟨fun h t ht => ?_, fun h => b_ext (fun k hk => ?_)⟩
  · by_cases q : t < 31
    · have h1 : bt (nI y &&& (nI x ^^^ (-1))) t = false := by rw [h]; exact b_0 t
      rw [b_and, b_xor, bt_n (by omega), bt_n (by omega), b_m1 t (by omega), ht, Bool.true_and] at h1
      cases hx : x.testBit t
      · rw [hx] at h1
        cases h1
      · rfl
    · rw [tb_hi hy (by omega)] at ht
      cases ht
  · rw [b_and, b_xor, bt_n hk, bt_n hk, b_m1 k hk, b_0]
    cases hy2 : y.testBit k
    · rfl
    · rw [h k hy2]
      rfl
theorem i_dis {y x : Nat} (hy : y < 2 ^ 31) : (nI y &&& nI x = 0) ↔ ∀ t, y.testBit t = true → x.testBit t = false := by
  refine ⟨fun h t ht => ?_, fun h => b_ext (fun k hk => ?_)⟩
  · by_cases q : t < 31
    · have h1 : bt (nI y &&& nI x) t = false := by rw [h]; exact b_0 t
      rw [b_and, bt_n (by omega), bt_n (by omega), ht, Bool.true_and] at h1
      exact h1
    · rw [tb_hi hy (by omega)] at ht
      cases ht
  · rw [b_and, bt_n hk, bt_n hk, b_0]
    cases hy2 : y.testBit k
    · rfl
    · rw [h k hy2]
      rfl
theorem i_bit {x t : Nat} (hx : x < 2 ^ 31) (ht : t < 32) : (nI x >>> (nI t &&& 31)) &&& 1 = if x.testBit t = true then 1 else 0 := by
  rw [nI_sh hx ht, show (1 : Int32) = nI (2 ^ 1 - 1) from rfl, fa_mask, Nat.testBit_eq_decide_div_mod_eq]
  by_cases q : x / 2 ^ t % 2 = 1
  · rw [if_pos (decide_eq_true q), show x / 2 ^ t % 2 ^ 1 = 1 from q]
  · rw [if_neg (by rw [decide_eq_false q]; decide), show x / 2 ^ t % 2 ^ 1 = 0 by omega]
    rfl
theorem i_b0 {x t : Nat} (hx : x < 2 ^ 31) (ht : t < 32) (h : ¬ x.testBit t = true) : (nI x >>> (nI t &&& 31)) &&& 1 = 0 := by rw [i_bit hx ht, if_neg h]
theorem i_b1 {x t : Nat} (hx : x < 2 ^ 31) (ht : t < 32) (h : x.testBit t = true) : (nI x >>> (nI t &&& 31)) &&& 1 = 1 := by rw [i_bit hx ht, if_pos h]
/-- the bits B of those k below n that are chosen -/
def bdF (sel : Nat → Bool) (B : Nat → Nat) : Nat → Nat
  | 0 => 0
  | n + 1 => if sel n = true then bdF sel B n ||| 2 ^ B n else bdF sel B n
theorem bd_tb {sel : Nat → Bool} {B : Nat → Nat} {t : Nat} : ∀ n, (bdF sel B n).testBit t = true ↔ ∃ k, k < n ∧ sel k = true ∧ B k = t
  | 0 => ⟨fun h => (by rw [show bdF sel B 0 = 0 from rfl, Nat.zero_testBit] at h; cases h), fun ⟨k, h, _⟩ => absurd h (Nat.not_lt_zero _)⟩
  | n + 1 => by
    have ih := bd_tb (sel := sel) (B := B) (t := t) n
    show (if sel n = true then bdF sel B n ||| 2 ^ B n else bdF sel B n).testBit t = true ↔ _
    by_cases q : sel n = true
    · rw [if_pos q, tb_or, Bool.or_eq_true, decide_eq_true_eq, ih]
      refine ⟨fun h => ?_, fun h => ?_⟩
      · rcases h with ⟨k, a, b, c⟩ | h
        · exact ⟨k, by omega, b, c⟩
        · exact ⟨n, Nat.lt_succ_self n, q, h.symm⟩
      · obtain ⟨k, a, b, c⟩ := h
        by_cases q2 : k = n
        · right
          rw [← q2]
          exact c.symm
        · exact Or.inl ⟨k, by omega, b, c⟩
    · rw [if_neg q, ih]
      refine ⟨fun ⟨k, a, b, c⟩ => ⟨k, by omega, b, c⟩, fun ⟨k, a, b, c⟩ => ⟨k, ?_, b, c⟩⟩
      by_cases q2 : k = n
      · rw [q2] at b
        exact absurd b q
      · omega
theorem bd_lt {sel : Nat → Bool} {B : Nat → Nat} : ∀ n, (∀ k, k < n → B k < 12) → bdF sel B n < 2 ^ 12
  | 0, _ => show 0 < 2 ^ 12 by decide
  | n + 1, h => by
    have ih := bd_lt (sel := sel) (B := B) n (fun k hk => h k (by omega))
    show (if sel n = true then bdF sel B n ||| 2 ^ B n else bdF sel B n) < _
    split
    · exact Nat.or_lt_two_pow ih (Nat.pow_lt_pow_right (by decide) (h n (by omega)))
    · exact ih
/-- all of n from k on -/
def allF (q : Nat → Bool) : Nat → Nat → Bool
  | 0, _ => true
  | n + 1, k => if q k = true then allF q n (k + 1) else false
theorem all_iff {q : Nat → Bool} : ∀ n k, allF q n k = true ↔ ∀ t, k ≤ t → t < k + n → q t = true
  | 0, k => ⟨fun _ t a b => by omega, fun _ => rfl⟩
  | n + 1, k => by
    have ih := all_iff (q := q) n (k + 1)
    show (if q k = true then allF q n (k + 1) else false) = true ↔ _
    by_cases z : q k = true
    · rw [if_pos z, ih]
      refine ⟨fun h t a b => ?_, fun h t a b => h t (by omega) (by omega)⟩
      by_cases e : t = k
      · rw [e]; exact z
      · exact h t (by omega) (by omega)
    · rw [if_neg z]
      exact ⟨fun h => (by cases h), fun h => absurd (h k (Nat.le_refl k) (by omega)) z⟩
/-! a set: its rules as the reference has them -/
def rulK (Kd A B : Nat → Nat) (x k : Nat) : Bool := !(x.testBit (A k)) || (if Kd k = 0 then !(x.testBit (B k)) else x.testBit (B k))
/-- as the class has them, by parts -/
def ndS (Kd A B : Nat → Nat) (nr p : Nat) : Nat := bdF (fun k => decide (Kd k ≠ 0) && decide (A k = p)) B nr
def brS (Kd A B : Nat → Nat) (nr p : Nat) : Nat := bdF (fun k => decide (Kd k = 0) && decide (A k = p)) B nr
def parK (Kd A B : Nat → Nat) (nr x p : Nat) : Bool := !(x.testBit p) || (decide (nI (ndS Kd A B nr p) &&& (nI x ^^^ (-1)) = 0) && decide (nI (brS Kd A B nr p) &&& nI x = 0))
theorem rul_par {x : Nat} (hA : ∀ k, k < nr → A k < m ∧ B k < m) (hm : m ≤ 12) : allF (rulK Kd A B x) nr 0 = allF (parK Kd A B nr x) m 0 := by
  rw [Bool.eq_iff_iff, all_iff, all_iff]
  have nl : ∀ p, ndS Kd A B nr p < 2 ^ 31 := fun p => Nat.lt_of_lt_of_le (bd_lt nr (fun k hk => by have := hA k hk; omega)) (by decide)
  have bl : ∀ p, brS Kd A B nr p < 2 ^ 31 := fun p => Nat.lt_of_lt_of_le (bd_lt nr (fun k hk => by have := hA k hk; omega)) (by decide)
  refine ⟨fun h p _ hp => ?_, fun h k _ hk => ?_⟩
  · unfold parK
    cases hx : x.testBit p
    · rfl
    · rw [Bool.not_true, Bool.false_or, Bool.and_eq_true, decide_eq_true_eq, decide_eq_true_eq, i_sub (nl p), i_dis (bl p)]
      refine ⟨fun t ht => ?_, fun t ht => ?_⟩
      · obtain ⟨k, a, b, c⟩ := (bd_tb nr).mp ht
        rw [Bool.and_eq_true, decide_eq_true_eq, decide_eq_true_eq] at b
        have hk := h k (Nat.zero_le _) (by omega)
        unfold rulK at hk
        rw [b.2, hx, if_neg b.1, c] at hk
        exact hk
      · obtain ⟨k, a, b, c⟩ := (bd_tb nr).mp ht
        rw [Bool.and_eq_true, decide_eq_true_eq, decide_eq_true_eq] at b
        have hk := h k (Nat.zero_le _) (by omega)
        unfold rulK at hk
        rw [b.2, hx, if_pos b.1, c, Bool.not_true, Bool.false_or] at hk
        cases h9 : x.testBit t
        · rfl
        · rw [h9] at hk
          cases hk
  · unfold rulK
    cases hx : x.testBit (A k)
    · rfl
    · have hp := h (A k) (Nat.zero_le _) (by have := hA k (by omega); omega)
      unfold parK at hp
      rw [hx, Bool.not_true, Bool.false_or, Bool.and_eq_true, decide_eq_true_eq, decide_eq_true_eq, i_sub (nl _), i_dis (bl _)] at hp
      by_cases q : Kd k = 0
      · rw [if_pos q, hp.2 (B k) ((bd_tb nr).mpr ⟨k, by omega, by rw [decide_eq_true q, decide_eq_true rfl]; rfl, rfl⟩)]
        rfl
      · rw [if_neg q, hp.1 (B k) ((bd_tb nr).mpr ⟨k, by omega, by rw [decide_eq_true q, decide_eq_true rfl]; rfl, rfl⟩)]
        rfl
/-- what the parts of x cost -/
def csS (C : Nat → Nat) (x : Nat) : Nat → Nat → Nat → Nat
  | 0, _, a => a
  | n + 1, t, a => csS C x n (t + 1) (a + if x.testBit t = true then C t else 0)
theorem cs_le (x : Nat) : ∀ n t a, (∀ k, k < t + n → C k ≤ 999) → csS C x n t a ≤ a + 999 * n
  | 0, _, a, _ => Nat.le_refl _
  | n + 1, t, a, h => by
    have h1 := cs_le x n (t + 1) (a + if x.testBit t = true then C t else 0) (fun k hk => h k (by omega))
    have h2 := h t (by omega)
    show csS C x n (t + 1) (a + if x.testBit t = true then C t else 0) ≤ _
    by_cases q : x.testBit t = true
    · rw [if_pos q] at h1 ⊢
      omega
    · rw [if_neg q] at h1 ⊢
      omega
def setS (C A B : Nat → Nat) (m nr : Nat) : Prop := m ≤ 12 ∧ nr ≤ 12 ∧ (∀ s, s < m → C s ≤ 999) ∧ ∀ k, k < nr → A k < m ∧ B k < m
def cSet (N : vM) (p m z nr : Nat) (C Kd A B : Nat → Nat) : Prop := N.1 p 1 = nI z ∧ N.1 p 4 = nI m ∧ (∀ s, s < m → N.1 (p + 1) s = nI (C s)) ∧ ∀ s, s < m → N.1 (p + 4) s = nI (ndS Kd A B nr s) ∧ N.1 (p + 5) s = nI (brS Kd A B nr s)
def rSet (S : vM) (i m z nr : Nat) (C Kd A B : Nat → Nat) : Prop := S.1 133 i = nI z ∧ S.1 136 i = nI m ∧ S.1 138 i = nI nr ∧ (∀ s, s < m → S.1 141 (20 * i + s) = nI (C s)) ∧ ∀ k, k < nr → S.1 142 (12 * i + k) = nI (Kd k) ∧ S.1 143 (12 * i + k) = nI (A k) ∧ S.1 144 (12 * i + k) = nI (B k) ∧ Kd k ≤ 1
def okC (Kd A B : Nat → Nat) (z nr x : Nat) : Bool := decide (pcn 32 x = z) && allF (rulK Kd A B x) nr 0
def chG (C Kd A B : Nat → Nat) (m z nr x : Nat) : List Nat := if okC Kd A B z nr x = true then [csS C x m 0 0 * 1048576 + x] else []
theorem pcn_lt {x : Nat} : pcn 32 x ≤ 32 := pcn_le 32 x
/-- the class's test of one choice -/
theorem c_isCh {x : Nat} (hP : v_isP p) (hx : x < 4096) (hm : m ≤ 12) (h4 : N.1 p 4 = nI m) (hN : ∀ s, s < m → N.1 (p + 4) s = nI (ndS Kd A B nr s) ∧ N.1 (p + 5) s = nI (brS Kd A B nr s)) : ∀ (n f t : Nat), n < f → t + n = m → fX3_isChoice_15 f N p (nI x) (nI t) = rI (if allF (parK Kd A B nr x) n t = true then 1 else 0) N := by
  intro n
  induction n with
  | zero =>
    intro f t hf ht
    cases f with
    | zero => exact absurd hf (Nat.not_lt_zero _)
    | succ f =>
      unfold fX3_isChoice_15
      rw [h4, if_pos (nI_le (by omega) (by omega))]
      exact congrArg (fun z => rI z N) (if_pos (show allF (parK Kd A B nr x) 0 t = true from rfl)).symm
  | succ n ih =>
    intro f t hf ht
    cases f with
    | zero => exact absurd hf (Nat.not_lt_zero _)
    | succ f =>
      have e : allF (parK Kd A B nr x) (n + 1) t = if parK Kd A B nr x t = true then allF (parK Kd A B nr x) n (t + 1) else false := rfl
      obtain ⟨n1, n2⟩ := hN t (by omega)
      have go := ih f (t + 1) (by omega) (by omega)
      unfold fX3_isChoice_15
      rw [h4, if_neg (nI_ge (by omega) (by omega)), e]
      by_cases hb : x.testBit t = true
      · have ep : parK Kd A B nr x t = (decide (nI (ndS Kd A B nr t) &&& (nI x ^^^ (-1)) = 0) && decide (nI (brS Kd A B nr t) &&& nI x = 0)) := by
          unfold parK
          rw [hb, Bool.not_true, Bool.false_or]
        rw [i_b1 (by omega) (by omega) hb, if_neg (show ¬ (1 : Int32) = 0 by decide), ep]
        unfold fX3_isChoice_36
        rw [if_neg (show ¬ (1 : Int32) = 0 by decide), e_at (len := 12) (by rw [(v_LP hP).2.2.1.2.2.2.1]) (by omega) (by decide), bi_I, n1]
        by_cases q1 : nI (ndS Kd A B nr t) &&& (nI x ^^^ (-1)) = 0
        · rw [if_pos q1, e_at (len := 12) (by rw [(v_LP hP).2.2.1.2.2.2.2]) (by omega) (by decide), bi_I, n2]
          by_cases q2 : nI (brS Kd A B nr t) &&& nI x = 0
          · rw [if_pos q2, decide_eq_true q1, decide_eq_true q2, nI_1]
            exact go
          · rw [if_neg q2, decide_eq_true q1, decide_eq_false q2]
            rfl
        · rw [if_neg q1, decide_eq_false q1]
          rfl
      · have ep : parK Kd A B nr x t = true := by
          unfold parK
          rw [ts_nt hb]
          rfl
        rw [i_b0 (by omega) (by omega) hb, if_pos (show (0 : Int32) = 0 from rfl), ep]
        unfold fX3_isChoice_36
        rw [if_pos (show (0 : Int32) = 0 from rfl), nI_1]
        exact go
theorem c_cost {x : Nat} (hP : v_isP p) (hx : x < 4096) (hm : m ≤ 12) (h4 : N.1 p 4 = nI m) (hN : ∀ s, s < m → N.1 (p + 1) s = nI (C s)) : ∀ (n f t a : Nat), n < f → t + n = m → fX3_greaterCosts_5 f N p p (nI x) (nI a) (nI t) = rI (nI (csS C x n t a)) N := by
  intro n
  induction n with
  | zero =>
    intro f t a hf ht
    cases f with
    | zero => exact absurd hf (Nat.not_lt_zero _)
    | succ f =>
      unfold fX3_greaterCosts_5
      rw [h4, if_pos (nI_le (by omega) (by omega))]
      rfl
  | succ n ih =>
    intro f t a hf ht
    cases f with
    | zero => exact absurd hf (Nat.not_lt_zero _)
    | succ f =>
      have e : csS C x (n + 1) t a = csS C x n (t + 1) (a + if x.testBit t = true then C t else 0) := rfl
      unfold fX3_greaterCosts_5
      rw [h4, if_neg (nI_ge (by omega) (by omega)), e]
      by_cases hb : x.testBit t = true
      · rw [i_b1 (by omega) (by omega) hb, if_neg (show ¬ (1 : Int32) = 0 by decide), if_pos hb, c_coA hP (by omega), bi_I, c_coA hP (by omega), bi_I, hN t (by omega), if_neg (fun z => Int32.lt_irrefl z), nI_add, nI_1]
        exact ih f (t + 1) (a + C t) (by omega) (by omega)
      · rw [i_b0 (by omega) (by omega) hb, if_pos (show (0 : Int32) = 0 from rfl), if_neg hb, nI_1]
        exact ih f (t + 1) (a + 0) (by omega) (by omega)
theorem c_choose (hi : i < 6) (hP : v_isP p) (h0 : N0.2.2 (qw i) 0 - 1 = p) (hS : setS C A B m nr) (hz : z ≤ 12) (hN : cSet N0 p m z nr C Kd A B) : ∀ (n f x : Nat) (L : List Nat) (N : vM), n < f → x + n = 2 ^ m → cWy N0 N (qw i) L → L.length + (catF (chG C Kd A B m z nr) n x).length ≤ 1458 →
    ∃ N', fX9_choose_2 f N (qw i) (nI x) = rV N' ∧ cWy N0 N' (qw i) (L ++ catF (chG C Kd A B m z nr) n x) := by
  obtain ⟨hm, hnr, hC, hAB⟩ := hS
  have h2m : 2 ^ m ≤ 4096 := Nat.pow_le_pow_right (n := 2) (by decide) hm
  have hLay : (v_LAY (qw i + 7)).2.2 = 1458 := by rw [(v_LW (v_isW_qw hi)).2.2.1]
  intro n
  induction n with
  | zero =>
    intro f x L N hf hx hW hL
    cases f with
    | zero => exact absurd hf (Nat.not_lt_zero _)
    | succ f =>
      have e0 : N.2.2 (qw i) 0 - 1 = p := by rw [hW.2.2.2.2.1]; exact h0
      have e1 : N.1 p = N0.1 p := hW.2.2.1 p (plan_ne hP 0 (by decide) i hi).1
      refine ⟨N, ?_, by show cWy N0 N (qw i) (L ++ []); rw [List.append_nil]; exact hW⟩
      unfold fX9_choose_2
      rw [e0, e1, hN.2.1, sh1 m (by omega), if_pos (nI_le (by omega) (by omega))]
  | succ n ih =>
    intro f x L N hf hx hW hL
    cases f with
    | zero => exact absurd hf (Nat.not_lt_zero _)
    | succ f =>
      have e0 : N.2.2 (qw i) 0 - 1 = p := by rw [hW.2.2.2.2.1]; exact h0
      have e1 : N.1 p = N0.1 p := hW.2.2.1 p (plan_ne hP 0 (by decide) i hi).1
      have e2 : N.1 (p + 1) = N0.1 (p + 1) := hW.2.2.1 _ (plan_ne hP 1 (by decide) i hi).1
      have e5 : N.1 (p + 4) = N0.1 (p + 4) := hW.2.2.1 _ (plan_ne hP 4 (by decide) i hi).1
      have e6 : N.1 (p + 5) = N0.1 (p + 5) := hW.2.2.1 _ (plan_ne hP 5 (by decide) i hi).1
      have hch : fX3_isChoice N p (nI x) = rI (if okC Kd A B z nr x = true then 1 else 0) N := by
        unfold fX3_isChoice okC
        rw [pop_nat (by omega), bi_I, e1, hN.1]
        have hpl := pcn_lt (x := x)
        by_cases q : pcn 32 x = z
        · rw [if_pos (congrArg nI q), decide_eq_true q, Bool.true_and, rul_par hAB hm]
          rw [← nI_0, c_isCh hP (by omega) hm (by rw [e1]; exact hN.2.1) (fun s hs => by rw [e5, e6]; exact hN.2.2.2 s hs) m FU 0 (FU_lt (by omega)) (Nat.zero_add m), nI_0]
        · rw [if_neg (fun e => q ((nI_eq (by omega) (by omega)).mp e)), decide_eq_false q]
          rfl
      have eg : catF (chG C Kd A B m z nr) (n + 1) x = chG C Kd A B m z nr x ++ catF (chG C Kd A B m z nr) n (x + 1) := rfl
      unfold fX9_choose_2
      rw [e0, e1, hN.2.1, sh1 m (by omega), if_neg (nI_ge (by omega) (by omega)), if_neg (show ¬ (4096 : Int32) ≤ nI x from nI_ge (show x < 4096 by omega) (by decide)), hch, bi_I]
      by_cases q : okC Kd A B z nr x = true
      · have eg2 : chG C Kd A B m z nr x = [csS C x m 0 0 * 1048576 + x] := if_pos q
        rw [eg, eg2] at hL ⊢
        rw [List.length_append, List.length_singleton] at hL
        have hc := cs_le (C := C) x m 0 0 (fun k hk => hC k (by omega))
        obtain ⟨N1, s1, s2⟩ := c_add hLay hW (by omega) (show csS C x m 0 0 ≤ 1048575 by omega) (show x < 1048576 by omega)
        obtain ⟨N', u1, u2⟩ := ih f (x + 1) _ N1 (by omega) (by omega) s2 (by rw [List.length_append, List.length_singleton]; omega)
        refine ⟨N', ?_, by rw [← List.append_assoc]; exact u2⟩
        rw [if_pos q, if_neg (by decide), e0]
        unfold fX3_greaterCosts
        rw [← nI_0, c_cost hP (by omega) hm (by rw [e1]; exact hN.2.1) (fun s hs => by rw [e2]; exact hN.2.2.1 s hs) m FU 0 0 (FU_lt (by omega)) (Nat.zero_add m), bi_I, s1, bv_V, nI_1]
        exact u1
      · have eg2 : chG C Kd A B m z nr x = [] := if_neg q
        rw [eg, eg2, List.nil_append] at hL ⊢
        obtain ⟨N', u1, u2⟩ := ih f (x + 1) L N (by omega) (by omega) hW hL
        refine ⟨N', ?_, u2⟩
        rw [if_neg q, if_pos rfl, nI_1]
        exact u1
/-! the reference's -/
theorem r_c19 {x : Nat} (hi : i < 6) (hx : x < 4096) (hS : setS C A B m nr) (h8 : S.1 138 i = nI nr) (hN : ∀ k, k < nr → S.1 142 (12 * i + k) = nI (Kd k) ∧ S.1 143 (12 * i + k) = nI (A k) ∧ S.1 144 (12 * i + k) = nI (B k) ∧ Kd k ≤ 1) : ∀ (n f k : Nat), n < f → k + n = nr →
    fX11_choose_19 f S (nI i) (nI x) (nI (12 * i + k)) = if allF (rulK Kd A B x) n k = true then fX11_choose_115 FU S (nI i) (nI x) 0 0 else rV S := by
  obtain ⟨hm, hnr, hC, hAB⟩ := hS
  have hin : v_in (nI i) 12 = true := v_in_nI (by omega) (by decide)
  have e12 : (12 : Int32) * nI i + nI nr = nI (12 * i + nr) := by rw [show (12 : Int32) = nI 12 from rfl, nI_mul, nI_add]
  intro n
  induction n with
  | zero =>
    intro f k hf hk
    cases f with
    | zero => exact absurd hf (Nat.not_lt_zero _)
    | succ f =>
      unfold fX11_choose_19
      rw [if_pos hin, nI_clamp (by omega), h8, e12, if_pos (nI_le (by omega) (by omega)), if_pos (show allF (rulK Kd A B x) 0 k = true from rfl)]
  | succ n ih =>
    intro f k hf hk
    cases f with
    | zero => exact absurd hf (Nat.not_lt_zero _)
    | succ f =>
      obtain ⟨n1, n2, n3, n4⟩ := hN k (by omega)
      have hk2 := hAB k (by omega)
      have hin2 : v_in (nI (12 * i + k)) 144 = true := v_in_nI (by omega) (by decide)
      have go := ih f (k + 1) (by omega) (by omega)
      have e : allF (rulK Kd A B x) (n + 1) k = if rulK Kd A B x k = true then allF (rulK Kd A B x) n (k + 1) else false := rfl
      have e1 : nI (12 * i + k) + 1 = nI (12 * i + (k + 1)) := nI_1 _
      have et : rulK Kd A B x k = true → allF (rulK Kd A B x) (n + 1) k = allF (rulK Kd A B x) n (k + 1) := fun h => by rw [e, if_pos h]
      have ef : rulK Kd A B x k = false → rV S = if allF (rulK Kd A B x) (n + 1) k = true then fX11_choose_115 FU S (nI i) (nI x) 0 0 else rV S := fun h => by
        rw [e, h]
        exact (if_neg (fun z : (if false = true then allF (rulK Kd A B x) n (k + 1) else false) = true => by cases z)).symm
      unfold fX11_choose_19
      rw [if_pos hin, nI_clamp (n := i) (by omega), h8, e12, if_neg (nI_ge (by omega) (by omega)), if_pos hin2, nI_clamp (n := 12 * i + k) (by omega), n2]
      by_cases ha : x.testBit (A k) = true
      · rw [i_b1 (by omega) (by omega) ha, if_pos (show (1 : Int32) = 1 from rfl)]
        unfold fX11_choose_53
        rw [if_pos hin2, nI_clamp (n := 12 * i + k) (by omega), n3]
        by_cases hb2 : x.testBit (B k) = true
        · rw [i_b1 (by omega) (by omega) hb2, if_pos (show (1 : Int32) = 1 from rfl)]
          unfold fX11_choose_74
          rw [if_neg (show ¬ (1 : Int32) = 0 by decide), if_pos hin2, nI_clamp (n := 12 * i + k) (by omega), n1]
          by_cases q : Kd k = 0
          · rw [q, if_pos (show nI 0 = 0 by decide), if_neg (show ¬ (1 : Int32) = 0 by decide)]
            refine ef ?_
            unfold rulK
            rw [ha, if_pos q, hb2]
            rfl
          · rw [show Kd k = 1 by omega, if_neg (show ¬ nI 1 = 0 by decide), if_neg (show ¬ (1 : Int32) = 0 by decide), e1, et (by
              unfold rulK
              rw [ha, if_neg q, hb2]
              rfl)]
            exact go
        · rw [i_b0 (by omega) (by omega) hb2, if_neg (show ¬ (0 : Int32) = 1 by decide)]
          unfold fX11_choose_74
          rw [if_neg (show ¬ (1 : Int32) = 0 by decide), if_pos hin2, nI_clamp (n := 12 * i + k) (by omega), n1]
          by_cases q : Kd k = 0
          · rw [q, if_pos (show nI 0 = 0 by decide), if_pos (show (0 : Int32) = 0 from rfl), e1, et (by
              unfold rulK
              rw [ha, if_pos q, ts_nt hb2]
              rfl)]
            exact go
          · rw [show Kd k = 1 by omega, if_neg (show ¬ nI 1 = 0 by decide), if_pos (show (0 : Int32) = 0 from rfl)]
            refine ef ?_
            unfold rulK
            rw [ha, if_neg q, ts_nt hb2]
            rfl
      · rw [i_b0 (by omega) (by omega) ha, if_neg (show ¬ (0 : Int32) = 1 by decide), et (by
          unfold rulK
          rw [ts_nt ha]
          rfl)]
        unfold fX11_choose_53
        rw [if_pos hin2]
        unfold fX11_choose_74
        rw [if_pos (show (0 : Int32) = 0 from rfl), if_pos (show (0 : Int32) = 0 from rfl), e1, ite_self]
        exact go
theorem r_c115 {x : Nat} {L : List Nat} (hi : i < 6) (hx : x < 4096) (hm : m ≤ 12) (hC : ∀ s, s < m → C s ≤ 999) (hW : rWy S0 S i L) (hL : L.length < 1458) (h6 : S.1 136 i = nI m) (hN : ∀ s, s < m → S.1 141 (20 * i + s) = nI (C s)) : ∀ (n f t a : Nat), n < f → t + n = m → a ≤ 999 * t →
    ∃ S', fX11_choose_115 f S (nI i) (nI x) (nI a) (nI t) = rV S' ∧ rWy S0 S' i (L ++ [csS C x n t a * 1048576 + x]) := by
  have hin : v_in (nI i) 12 = true := v_in_nI (by omega) (by decide)
  have e20 : ∀ s, (20 : Int32) * nI i + nI s = nI (20 * i + s) := fun s => by rw [show (20 : Int32) = nI 20 from rfl, nI_mul, nI_add]
  intro n
  induction n with
  | zero =>
    intro f t a hf ht ha
    cases f with
    | zero => exact absurd hf (Nat.not_lt_zero _)
    | succ f =>
      obtain ⟨S', u1, u2⟩ := r_add hi hW hL (show a ≤ 1048575 by omega) (show x < 1048576 by omega)
      refine ⟨S', ?_, u2⟩
      unfold fX11_choose_115
      rw [if_pos hin, nI_clamp (by omega), h6, if_pos (nI_le (by omega) (by omega)), u1, bv_V]
  | succ n ih =>
    intro f t a hf ht ha
    cases f with
    | zero => exact absurd hf (Nat.not_lt_zero _)
    | succ f =>
      have hc := hC t (by omega)
      have eb : nI a + (if x.testBit t = true then (1 : Int32) else 0) * nI (C t) = nI (a + if x.testBit t = true then C t else 0) := by
        cases hb : x.testBit t
        · rw [if_neg (by decide), if_neg (by decide), Int32.zero_mul, Int32.add_zero, Nat.add_zero]
        · rw [if_pos rfl, if_pos rfl, Int32.one_mul, nI_add]
      obtain ⟨S', u1, u2⟩ := ih f (t + 1) (a + if x.testBit t = true then C t else 0) (by omega) (by omega) (by split <;> omega)
      refine ⟨S', ?_, u2⟩
      unfold fX11_choose_115
      rw [if_pos hin, nI_clamp (n := i) (by omega), h6, if_neg (nI_ge (by omega) (by omega)), e20, if_pos (v_in_nI (by omega) (by decide)), i_bit (by omega) (by omega), nI_clamp (n := 20 * i + t) (by omega), hN t (by omega), eb, nI_1]
      exact u1
theorem r_302 {k338 : vM → Int32 → Option (vR × vM)} (hi : i < 6) (hS : setS C A B m nr) (hz : z ≤ 12) (hN : rSet S0 i m z nr C Kd A B) : ∀ (n f x : Nat) (L : List Nat) (S : vM), n < f → x + n = 2 ^ m → rWy S0 S i L → L.length + (catF (chG C Kd A B m z nr) n x).length ≤ 1458 →
    ∃ S', fX11_take_302 k338 f S (nI i) (nI x) = k338 S' (nI i) ∧ rWy S0 S' i (L ++ catF (chG C Kd A B m z nr) n x) := by
  have hS' := hS
  obtain ⟨hm, hnr, hC, hAB⟩ := hS'
  obtain ⟨n3, n6, n8, n1, n2⟩ := hN
  have h2m : 2 ^ m ≤ 4096 := Nat.pow_le_pow_right (n := 2) (by decide) hm
  have hin : v_in (nI i) 12 = true := v_in_nI (by omega) (by decide)
  intro n
  induction n with
  | zero =>
    intro f x L S hf hx hW hL
    cases f with
    | zero => exact absurd hf (Nat.not_lt_zero _)
    | succ f =>
      refine ⟨S, ?_, by show rWy S0 S i (L ++ []); rw [List.append_nil]; exact hW⟩
      unfold fX11_take_302
      rw [if_pos hin, nI_clamp (by omega), hW.2.2.2.1 136 (by decide) (by decide) (by decide), n6, sh1 m (by omega), if_pos (nI_le (by omega) (by omega))]
  | succ n ih =>
    intro f x L S hf hx hW hL
    cases f with
    | zero => exact absurd hf (Nat.not_lt_zero _)
    | succ f =>
      have k4 := hW.2.2.2.1
      have eg : catF (chG C Kd A B m z nr) (n + 1) x = chG C Kd A B m z nr x ++ catF (chG C Kd A B m z nr) n (x + 1) := rfl
      have hpl := pcn_lt (x := x)
      have ech : fX11_choose S (nI i) (nI x) = if okC Kd A B z nr x = true then fX11_choose_115 FU S (nI i) (nI x) 0 0 else rV S := by
        unfold fX11_choose okC
        rw [ref_bitsOf (by omega), bi_I, if_pos hin, nI_clamp (by omega), k4 133 (by decide) (by decide) (by decide), n3]
        by_cases q : pcn 32 x = z
        · rw [if_pos (congrArg nI q), decide_eq_true q, Bool.true_and, show (12 : Int32) * nI i = nI (12 * i + 0) from nI_mul 12 i, r_c19 hi (by omega) hS (by rw [k4 138 (by decide) (by decide) (by decide)]; exact n8) (fun k hk => by rw [k4 142 (by decide) (by decide) (by decide), k4 143 (by decide) (by decide) (by decide), k4 144 (by decide) (by decide) (by decide)]; exact n2 k hk) nr FU 0 (FU_lt (by omega)) (Nat.zero_add nr)]
        · rw [if_neg (fun e => q ((nI_eq (by omega) (by omega)).mp e)), decide_eq_false q]
          rfl
      unfold fX11_take_302
      rw [if_pos hin, nI_clamp (by omega), k4 136 (by decide) (by decide) (by decide), n6, sh1 m (by omega), if_neg (nI_ge (by omega) (by omega)), ech]
      by_cases q : okC Kd A B z nr x = true
      · have eg2 : chG C Kd A B m z nr x = [csS C x m 0 0 * 1048576 + x] := if_pos q
        rw [eg, eg2] at hL ⊢
        rw [List.length_append, List.length_singleton] at hL
        obtain ⟨S1, s1, s2⟩ := r_c115 hi (show x < 4096 by omega) hm hC hW (by omega) (by rw [k4 136 (by decide) (by decide) (by decide)]; exact n6) (fun s hs => by rw [k4 141 (by decide) (by decide) (by decide)]; exact n1 s hs) m FU 0 0 (FU_lt (by omega)) (Nat.zero_add m) (Nat.zero_le _)
        obtain ⟨S', u1, u2⟩ := ih f (x + 1) _ S1 (by omega) (by omega) s2 (by rw [List.length_append, List.length_singleton]; omega)
        refine ⟨S', ?_, by rw [← List.append_assoc]; exact u2⟩
        rw [if_pos q, show fX11_choose_115 FU S (nI i) (nI x) 0 0 = rV S1 from s1, bv_V, nI_1]
        exact u1
      · have eg2 : chG C Kd A B m z nr x = [] := if_neg q
        rw [eg, eg2, List.nil_append] at hL ⊢
        obtain ⟨S', u1, u2⟩ := ih f (x + 1) L S (by omega) (by omega) hW hL
        refine ⟨S', ?_, u2⟩
        rw [if_neg q, bv_V, nI_1]
        exact u1
/-! how many choices there can be -/
def bnC : Nat → Nat → Nat
  | 0, 0 => 1
  | 0, _ + 1 => 0
  | n + 1, 0 => bnC n 0
  | n + 1, k + 1 => bnC n (k + 1) + bnC n k
theorem cnt_add (q : Nat → Prop) [DecidablePred q] (b : Nat) : ∀ a k, cntF q (a + b) k = cntF q a k + cntF q b (k + a)
  | 0, k => by
    rw [Nat.zero_add, Nat.add_zero]
    exact (Nat.zero_add _).symm
  | a + 1, k => by
    rw [show a + 1 + b = (a + b) + 1 by omega]
    show (if q k then 1 else 0) + cntF q (a + b) (k + 1) = ((if q k then 1 else 0) + cntF q a (k + 1)) + _
    rw [cnt_add q b a (k + 1), show k + 1 + a = k + (a + 1) by omega]
    omega
theorem cnt_iff {q r : Nat → Prop} [DecidablePred q] [DecidablePred r] : ∀ n k l, (∀ t, t < n → (q (k + t) ↔ r (l + t))) → cntF q n k = cntF r n l
  | 0, _, _, _ => rfl
  | n + 1, k, l, h => by
    have h0 : q k ↔ r l := h 0 (by omega)
    have ih := cnt_iff (q := q) (r := r) n (k + 1) (l + 1) (fun t ht => by
      have := h (t + 1) (by omega)
      rw [show k + (t + 1) = k + 1 + t by omega, show l + (t + 1) = l + 1 + t by omega] at this
      exact this)
    show (if q k then 1 else 0) + _ = (if r l then 1 else 0) + _
    rw [ih]
    by_cases z : q k
    · rw [if_pos z, if_pos (h0.mp z)]
    · rw [if_neg z, if_neg (fun y => z (h0.mpr y))]
theorem pcn_hi {n x : Nat} (hn : n ≤ 12) (hx : x < 2 ^ n) : pcn 32 (2 ^ n + x) = pcn 32 x + 1 := by
  have h1 := pcn_add (32 - n) n (2 ^ n + x)
  have h2 := pcn_add (32 - n) n x
  rw [show n + (32 - n) = 32 by omega] at h1 h2
  have h3 : (2 ^ n + x) / 2 ^ n = 1 := by
    rw [Nat.add_comm, Nat.add_div_right _ (Nat.two_pow_pos n), Nat.div_eq_of_lt hx]
  have h4 : x / 2 ^ n = 0 := Nat.div_eq_of_lt hx
  have h5 : pcn n (2 ^ n + x) = pcn n x := by
    rw [← pcn_mod n (2 ^ n + x), Nat.add_mod_left, pcn_mod]
  have h6 : pcn (32 - n) 1 = 1 := by
    rw [show 32 - n = (31 - n) + 1 by omega]
    show 1 % 2 + pcn (31 - n) (1 / 2) = 1
    rw [show 1 / 2 = 0 from rfl, pcn_0]
  rw [h1, h2, h3, h4, h5, h6, pcn_0]
theorem cnt_bn : ∀ n z, n ≤ 12 → cntF (fun x => pcn 32 x = z) (2 ^ n) 0 = bnC n z
  | 0, 0, _ => by decide
  | 0, z + 1, _ => by
    show (if pcn 32 0 = z + 1 then 1 else 0) + 0 = 0
    rw [pcn_0, if_neg (by omega)]
  | n + 1, 0, h => by
    rw [show 2 ^ (n + 1) = 2 ^ n + 2 ^ n by rw [Nat.pow_succ]; omega, cnt_add, cnt_bn n 0 (by omega)]
    show bnC n 0 + _ = bnC n 0
    have h1 := cnt_iff (q := fun x => pcn 32 x = 0) (r := fun _ => False) (2 ^ n) (0 + 2 ^ n) 0 (fun t ht => by
      show pcn 32 (0 + 2 ^ n + t) = 0 ↔ False
      rw [Nat.zero_add, pcn_hi (by omega) ht]
      exact ⟨fun e => by omega, fun e => e.elim⟩)
    have h2 : ∀ n k, cntF (fun _ => False) n k = 0 := by
      intro n
      induction n with
      | zero => intro k; rfl
      | succ n ih =>
        intro k
        show (if False then 1 else 0) + cntF (fun _ => False) n (k + 1) = 0
        rw [ih, if_neg (fun e => e)]
    rw [h1, h2]
    rfl
  | n + 1, z + 1, h => by
    rw [show 2 ^ (n + 1) = 2 ^ n + 2 ^ n by rw [Nat.pow_succ]; omega, cnt_add, cnt_bn n (z + 1) (by omega)]
    show bnC n (z + 1) + _ = bnC n (z + 1) + bnC n z
    have h1 := cnt_iff (q := fun x => pcn 32 x = z + 1) (r := fun x => pcn 32 x = z) (2 ^ n) (0 + 2 ^ n) 0 (fun t ht => by
      show pcn 32 (0 + 2 ^ n + t) = z + 1 ↔ pcn 32 (0 + t) = z
      rw [Nat.zero_add, Nat.zero_add, pcn_hi (by omega) ht]
      exact ⟨fun e => by omega, fun e => by omega⟩)
    rw [h1, cnt_bn n z (by omega)]
theorem bn_ok : ((List.range 13).all fun n => (List.range 13).all fun z => decide (bnC n z ≤ 924)) = true := by decide +kernel
theorem ch_len (hm : m ≤ 12) (hz : z ≤ 12) : (catF (chG C Kd A B m z nr) (2 ^ m) 0).length ≤ 1458 := by
  have h1 := cat_len (g := chG C Kd A B m z nr) (p := fun x => pcn 32 x = z) (B := 1) (2 ^ m) 0 (fun t _ _ => by
    unfold chG okC
    by_cases q : pcn 32 t = z
    · rw [if_pos q]
      split
      · exact Nat.le_refl _
      · exact Nat.zero_le _
    · rw [if_neg q, decide_eq_false q, if_neg (by rw [Bool.false_and]; decide)]
      exact Nat.le_refl _)
  rw [cnt_bn m z hm, Nat.mul_one] at h1
  have h2 := List.all_eq_true.mp (List.all_eq_true.mp bn_ok m (List.mem_range.mpr (by omega))) z (List.mem_range.mpr (by omega))
  have h3 := of_decide_eq_true h2
  omega
theorem ch_mem {x : Nat} (hm : m ≤ 12) (hC : ∀ s, s < m → C s ≤ 999) (h : x ∈ catF (chG C Kd A B m z nr) (2 ^ m) 0) : x < 1099511627776 ∧ x % 1048576 < 2 ^ m := by
  obtain ⟨t, t1, t2, t3⟩ := cat_mem _ 0 x h
  have h2m : 2 ^ m ≤ 4096 := Nat.pow_le_pow_right (n := 2) (by decide) hm
  have hc := cs_le (C := C) t m 0 0 (fun k hk => hC k (by omega))
  unfold chG at t3
  split at t3
  · rw [List.mem_singleton.mp t3]
    omega
  · cases t3
theorem ch_pw (hm : m ≤ 12) : (catF (chG C Kd A B m z nr) (2 ^ m) 0).Pairwise mkR := by
  have h2m : 2 ^ m ≤ 4096 := Nat.pow_le_pow_right (n := 2) (by decide) hm
  refine cat_pw (2 ^ m) 0 (fun t _ _ => ?_) (fun t t' _ h1 h2 x hx y hy => ?_)
  · unfold chG
    split
    · exact List.pairwise_singleton _ _
    · exact List.Pairwise.nil
  · unfold chG at hx hy
    split at hx
    · split at hy
      · rw [List.mem_singleton.mp hx, List.mem_singleton.mp hy]
        unfold mkR
        omega
      · cases hy
    · cases hx
end P46
