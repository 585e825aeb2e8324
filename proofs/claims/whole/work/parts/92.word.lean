section P52
variable {N S : vM} {L t e p : Nat} {b : Nat → Nat}
/-! class and reference at one token -/
def psR (N S : vM) (L : Nat) (b : Nat → Nat) (t e p : Nat) : Prop :=
  tpC N L b ∧ tpS S L b ∧ N.1 3 1 = nI L ∧ S.1 130 33 = nI L ∧ N.1 3 2 = nI p ∧ S.1 130 32 = nI p ∧ N.1 3 3 = nI t ∧ S.1 130 34 = nI t ∧ N.1 3 4 = nI e ∧ S.1 130 36 = nI e ∧ S.1 130 37 = nI p ∧
  (t = 2 → N.1 3 5 = nI (p - e) ∧ (p - e ≤ 4 → ∃ v, v ≤ 9999 ∧ N.1 3 6 = nI v ∧ S.1 130 35 = nI v)) ∧ t ≤ 4 ∧ e ≤ p ∧ p ≤ L ∧ (t ≠ 0 → e < p)
def gd (N S : vM) (L : Nat) (b : Nat → Nat) (t e p : Nat) : Prop := psR N S L b t e p ∧ N.1 3 7 = 0 ∧ S.1 130 38 = 0
/-- both have found one fault -/
def bd (N S : vM) : Prop := ∃ k e, k ≠ 0 ∧ k ≤ 4 ∧ N.1 3 7 = nI k ∧ S.1 130 38 = nI k ∧ N.1 3 4 = nI e ∧ S.1 130 39 = nI e
theorem gd_c {N' S' : vM} (h : gd N S L b t e p) (h3 : ∀ j, j ≠ 8 → N'.1 3 j = N.1 3 j) (h2 : N'.1 2 = N.1 2) (h130 : ∀ j, 32 ≤ j → j ≤ 39 → S'.1 130 j = S.1 130 j) (h157 : S'.1 157 = S.1 157) : gd N' S' L b t e p := by
  simp only [gd, psR, tpC, tpS, h3 1 (by decide), h3 2 (by decide), h3 3 (by decide), h3 4 (by decide), h3 5 (by decide), h3 6 (by decide), h3 7 (by decide), h2, h157, h130 32 (by decide) (by decide), h130 33 (by decide) (by decide), h130 34 (by decide) (by decide), h130 35 (by decide) (by decide), h130 36 (by decide) (by decide), h130 37 (by decide) (by decide), h130 38 (by decide) (by decide)]
  simp only [gd, psR, tpC, tpS] at h
  exact h
theorem bd_c {N' S' : vM} (h : bd N S) (h7 : N'.1 3 7 = N.1 3 7) (h4 : N'.1 3 4 = N.1 3 4) (h38 : S'.1 130 38 = S.1 130 38) (h39 : S'.1 130 39 = S.1 130 39) : bd N' S' := by
  obtain ⟨k, e, a, c, d, f, g, i⟩ := h
  exact ⟨k, e, a, c, h7.trans d, h38.trans f, h4.trans g, h39.trans i⟩
theorem bd_b (h : bd N S) : ¬ S.1 130 38 = 0 ∧ ¬ N.1 3 7 = 0 := by
  obtain ⟨k, e, a, c, d, f, -⟩ := h
  rw [d, f]
  exact ⟨nI_ne0 (by omega) (by omega), nI_ne0 (by omega) (by omega)⟩
theorem tkE_b {L e : Nat} (h : e < L) : e < tkE b L e ∧ tkE b L e ≤ L := by
  unfold tkE
  rw [if_pos h]
  have step : ∀ q : Nat → Bool, q (b e) = true → e < runF q b (L - e) e ∧ runF q b (L - e) e ≤ L := fun q hq => by
    obtain ⟨n, hn⟩ : ∃ n, L - e = n + 1 := ⟨L - e - 1, by omega⟩
    have h1 := run_le (b := b) (q := q) n (e + 1)
    rw [hn, show runF q b (n + 1) e = runF q b n (e + 1) from if_pos hq]
    omega
  by_cases k1 : kO (b e) = 1
  · rw [if_pos k1]
    exact step isL (decide_eq_true k1)
  · by_cases k2 : kO (b e) = 2
    · rw [if_neg k1, if_pos k2]
      exact step isD (decide_eq_true k2)
    · rw [if_neg k1, if_neg k2]
      omega
theorem adv0 (hC : tpC N L b) (hS : tpS S L b) (h1 : N.1 3 1 = nI L) (h33 : S.1 130 33 = nI L) (h2 : N.1 3 2 = nI p) (h32 : S.1 130 32 = nI p) (hp : p ≤ L) (h7 : N.1 3 7 = 0) (h38 : S.1 130 38 = 0) :
    ∃ N' S' t e p', fX4_advance N = rV N' ∧ fX11_stepOn S = rV S' ∧ frA N N' ∧ frB S S' ∧ gd N' S' L b t e p' ∧ p ≤ e := by
  obtain ⟨N', a1, a2, a3, a4, a5, a6, a7, a8⟩ := c_adv hC h1 h2 hp
  obtain ⟨S', b1, b2, b3, b4, b5, b6, b7, b8, b9, b10⟩ := r_adv hS h33 h32 hp
  have he := run_le (q := isB) (b := b) (L - p) p
  have he2 : p ≤ tkB b L p ∧ tkB b L p ≤ L := ⟨he.1, by have := he.2; show runF isB b (L - p) p ≤ L; omega⟩
  generalize tkB b L p = e at a5 a6 a7 a8 b6 b7 b8 b9 b10 he2
  refine ⟨N', S', tkT b L e, e, tkE b L e, a1, b1, a2, b2, ⟨⟨tpC_fr hC a2, tpS_fr hS b2, a3, b3, a7, b8, a6, b7, a5, b6, b9, fun ht => ⟨(a8 ht).1, fun h4 => ⟨vl4 b e (tkE b L e - e), ?_, (a8 ht).2, b10 ht h4⟩⟩, ?_, ?_, ?_, fun ht => ?_⟩, a4.trans h7, b4.trans h38⟩, he2.1⟩
  · refine vl4_9 h4 (fun k k1 k2 => ?_)
    by_cases q : e < L
    · have hk2 : kO (b e) = 2 := by
        unfold tkT at ht
        rw [if_pos q] at ht
        exact ht
      have ex : tkE b L e = runF isD b (L - e) e := by
        unfold tkE
        rw [if_pos q, if_neg (by omega), if_pos hk2]
      rw [ex] at k2
      exact of_decide_eq_true (run_all (q := isD) (L - e) e k k1 (by omega))
    · unfold tkT at ht
      rw [if_neg q] at ht
      omega
  · unfold tkT
    split
    · exact (kO_lt (b e)).2
    · exact Nat.zero_le _
  · by_cases q : e < L
    · exact Nat.le_of_lt (tkE_b q).1
    · unfold tkE
      rw [if_neg q]
      exact Nat.le_refl _
  · by_cases q : e < L
    · exact (tkE_b q).2
    · unfold tkE
      rw [if_neg q]
      exact he2.2
  · by_cases q : e < L
    · exact (tkE_b q).1
    · unfold tkT at ht
      rw [if_neg q] at ht
      exact absurd rfl ht
theorem adv (h : gd N S L b t e p) : ∃ N' S' t' e' p', fX4_advance N = rV N' ∧ fX11_stepOn S = rV S' ∧ frA N N' ∧ frB S S' ∧ gd N' S' L b t' e' p' ∧ p ≤ e' := by
  obtain ⟨⟨h1, h2, h3, h4, h5, h6, -, -, -, -, -, -, -, -, h7, -⟩, h8, h9⟩ := h
  exact adv0 h1 h2 h3 h4 h5 h6 h7 h8 h9
/-! words -/
def wl (id : Nat) : Nat := v_lenS.getD id 0
def wc (id k : Nat) : Nat := (v_ch id k).toNatClampNeg
theorem wrd_ok : ((List.range 13).all fun id => decide (wl id ≤ 5) && (List.range (wl id)).all fun k => decide (v_ch id k = nI (wc id k) ∧ wc id k < 128)) = true := by decide +kernel
theorem wrd {id : Nat} (h : id < 13) : wl id ≤ 5 ∧ ∀ k, k < wl id → v_ch id k = nI (wc id k) ∧ wc id k < 128 := by
  have h1 := List.all_eq_true.mp wrd_ok id (List.mem_range.mpr h)
  rw [Bool.and_eq_true, decide_eq_true_eq] at h1
  exact ⟨h1.1, fun k hk => of_decide_eq_true (List.all_eq_true.mp h1.2 k (List.mem_range.mpr hk))⟩
def wdB (b : Nat → Nat) (t e p id : Nat) : Bool := decide (t = 1) && (decide (p - e = wl id) && allF (fun k => decide (b (e + k) = wc id k)) (wl id) 0)
theorem wne_ok : ((List.range 13).all fun x => (List.range 13).all fun y => decide (x = y) || (decide (wl x ≠ wl y) || (List.range (wl x)).any fun k => decide (wc x k ≠ wc y k))) = true := by decide +kernel
theorem wd_one {x y : Nat} (hx : x < 13) (hy : y < 13) (h1 : wdB b t e p x = true) (h2 : wdB b t e p y = true) : x = y := by
  have h := List.all_eq_true.mp (List.all_eq_true.mp wne_ok x (List.mem_range.mpr hx)) y (List.mem_range.mpr hy)
  unfold wdB at h1 h2
  simp only [Bool.and_eq_true, decide_eq_true_eq, all_iff] at h1 h2
  simp only [Bool.or_eq_true, decide_eq_true_eq] at h
  rcases h with z | z | z
  · exact z
  · exact absurd (h1.2.1.symm.trans h2.2.1) z
  · obtain ⟨k, k1, k2⟩ := List.any_eq_true.mp z
    have k3 := List.mem_range.mp k1
    have k4 := of_decide_eq_true k2
    exact absurd ((h1.2.2 k (Nat.zero_le _) (by omega)).symm.trans (h2.2.2 k (Nat.zero_le _) (by rw [← h2.2.1, h1.2.1]; omega))) k4
theorem c_w28 (hT : tpC N L b) (h4 : N.1 3 4 = nI e) {id : Nat} (hid : id < 13) (hp : e + wl id ≤ L) : ∀ (n f k : Nat), n < f → k + n = wl id → fX4_isWord_28 f N id (nI k) = rI (if allF (fun k => decide (b (e + k) = wc id k)) n k = true then 1 else 0) N := by
  have hL := hT.1
  have hw := wrd hid
  intro n
  induction n with
  | zero =>
    intro f k hf hk
    cases f with
    | zero => exact absurd hf (Nat.not_lt_zero _)
    | succ f =>
      unfold fX4_isWord_28 fJ0_length_8abf5
      rw [bi_I, if_pos (show nI (v_lenS.getD id 0) ≤ nI k from nI_le (show wl id ≤ k by omega) (by omega))]
      exact congrArg (fun z => rI z N) (if_pos (show allF (fun k => decide (b (e + k) = wc id k)) 0 k = true from rfl)).symm
  | succ n ih =>
    intro f k hf hk
    cases f with
    | zero => exact absurd hf (Nat.not_lt_zero _)
    | succ f =>
      have go := ih f (k + 1) (by omega) (by omega)
      obtain ⟨w1, w2⟩ := hw.2 k (by omega)
      have hb := (hT.2 (e + k) (by omega)).1
      have ea : allF (fun k => decide (b (e + k) = wc id k)) (n + 1) k = if decide (b (e + k) = wc id k) = true then allF (fun k => decide (b (e + k) = wc id k)) n (k + 1) else false := rfl
      unfold fX4_isWord_28 fJ0_length_8abf5
      rw [bi_I, if_neg (show ¬ nI (v_lenS.getD id 0) ≤ nI k from nI_ge (show k < wl id by omega) (show wl id < 2 ^ 31 by omega)), h4, nI_add, c_byte hT (by omega), bi_I]
      unfold fJ0_charAt_5068e
      rw [if_pos (show v_in (nI k) (v_lenS.getD id 0) = true from v_in_nI (show k < wl id by omega) (show wl id < 2 ^ 31 by omega)), bi_I, nI_clamp (by omega), w1, ea]
      by_cases q : b (e + k) = wc id k
      · have hcb : cB (b (e + k)) = nI (wc id k) := by
          rcases (byt hb).2.2 with z | z
          · omega
          · rw [z.2, q]
        rw [if_pos hcb, if_pos (decide_eq_true q), nI_1]
        exact go
      · have hcb : ¬ cB (b (e + k)) = nI (wc id k) := fun z => by
          rcases (byt hb).2.2 with y | y
          · rw [z] at y
            exact nI_pos (by omega) y.2
          · rw [y.2] at z
            exact q ((nI_eq (by omega) (by omega)).mp z)
        rw [if_neg hcb, decide_eq_false q]
        rfl
theorem c_isW (h : psR N S L b t e p) {id : Nat} (hid : id < 13) : fX4_isWord N id = rI (if wdB b t e p id = true then 1 else 0) N := by
  obtain ⟨h1, h2, h3, h4, h5, h6, h7, h8, h9, h10, h11, h12, h13, h14, h15, h16⟩ := h
  have hL := h1.1
  have hw := (wrd hid).1
  unfold fX4_isWord wdB
  rw [h7]
  by_cases q : t = 1
  · rw [if_pos (show nI t = 1 by rw [q]; rfl), decide_eq_true q, Bool.true_and]
    unfold fJ0_length_8abf5
    rw [bi_I, h5, h9, nI_sub h14]
    by_cases q2 : p - e = wl id
    · rw [if_pos (show nI (p - e) = nI (v_lenS.getD id 0) from congrArg nI q2), decide_eq_true q2, Bool.true_and]
      have h := c_w28 h1 h9 hid (show e + wl id ≤ L by omega) (wl id) FU 0 (FU_lt (by omega)) (Nat.zero_add _)
      rw [nI_0] at h
      exact h
    · rw [if_neg (show ¬ nI (p - e) = nI (v_lenS.getD id 0) from fun z => q2 ((nI_eq (a := p - e) (b := wl id) (by omega) (by omega)).mp z)), decide_eq_false q2]
      rfl
  · rw [if_neg (show ¬ nI t = 1 from fun z => q ((nI_eq (b := 1) (by omega) (by decide)).mp z)), decide_eq_false q]
    rfl
theorem r_w39 (hT : tpS S L b) (h4 : S.1 130 36 = nI e) {id : Nat} (hid : id < 13) (hp : e + wl id ≤ L) : ∀ (n f k : Nat), n < f → k + n = wl id → fX11_is_39 (f + 1) S id 1 (nI k) = rI (if allF (fun k => decide (b (e + k) = wc id k)) n k = true then 1 else 0) S := by
  have hL := hT.1
  have hw := wrd hid
  intro n
  induction n with
  | zero =>
    intro f k hf hk
    unfold fX11_is_39 fJ0_length_8abf5
    rw [if_neg (show ¬ (1 : Int32) = 0 by decide), bi_I, if_pos (show nI (v_lenS.getD id 0) ≤ nI k from nI_le (show wl id ≤ k by omega) (by omega)), if_pos v_nz1]
    exact congrArg (fun z => rI z S) (if_pos (show allF (fun k => decide (b (e + k) = wc id k)) 0 k = true from rfl)).symm
  | succ n ih =>
    intro f k hf hk
    cases f with
    | zero => exact absurd hf (Nat.not_lt_zero _)
    | succ f =>
      have go := ih f (k + 1) (by omega) (by omega)
      obtain ⟨w1, w2⟩ := hw.2 k (by omega)
      have hb := hT.2 (e + k) (by omega)
      have ea : allF (fun k => decide (b (e + k) = wc id k)) (n + 1) k = if decide (b (e + k) = wc id k) = true then allF (fun k => decide (b (e + k) = wc id k)) n (k + 1) else false := rfl
      rw [fX11_is_39]
      unfold fJ0_length_8abf5
      rw [if_neg (show ¬ (1 : Int32) = 0 by decide), bi_I, if_neg (show ¬ nI (v_lenS.getD id 0) ≤ nI k from nI_ge (show k < wl id by omega) (show wl id < 2 ^ 31 by omega))]
      unfold fJ0_charAt_5068e
      rw [if_pos (show v_in (nI k) (v_lenS.getD id 0) = true from v_in_nI (show k < wl id by omega) (show wl id < 2 ^ 31 by omega)), bi_I, nI_clamp (n := k) (by omega), w1, h4, nI_add, if_pos (v_in_nI (by omega) (by decide)), nI_clamp (n := e + k) (by omega), hb.2, ea]
      by_cases q : b (e + k) = wc id k
      · rw [if_pos (congrArg nI q.symm), if_pos (decide_eq_true q), nI_1]
        exact go
      · rw [if_neg (fun z => q ((nI_eq (by omega) (by omega)).mp z.symm)), decide_eq_false q]
        unfold fX11_is_39
        rw [if_pos (show (0 : Int32) = 0 from rfl), if_pos (show v_nz 0 = 0 by decide)]
        rfl
theorem is_0 (S : vM) (id : Nat) : fX11_is_39 FU S id 0 0 = rI 0 S := by
  obtain ⟨f, hf⟩ : ∃ f, FU = f + 1 := ⟨99999, rfl⟩
  rw [hf]
  unfold fX11_is_39
  rw [if_pos (show (0 : Int32) = 0 from rfl), if_pos (show v_nz 0 = 0 by decide)]
theorem r_isW (h : gd N S L b t e p) {id : Nat} (hid : id < 13) : fX11_is S id = rI (if wdB b t e p id = true then 1 else 0) S := by
  obtain ⟨⟨h1, h2, h3, h4, h5, h6, h7, h8, h9, h10, h11, h12, h13, h14, h15, h16⟩, -, h38⟩ := h
  have hL := h1.1
  have hw := (wrd hid).1
  unfold fX11_is wdB
  rw [if_pos h38, h8, is_0]
  by_cases q : t = 1
  · rw [if_pos (show nI t = 1 by rw [q]; rfl), decide_eq_true q, Bool.true_and]
    unfold fJ0_length_8abf5
    rw [bi_I, h11, h10, nI_sub h14]
    by_cases q2 : p - e = wl id
    · rw [if_pos (show nI (v_lenS.getD id 0) = nI (p - e) from congrArg nI q2.symm), decide_eq_true q2, Bool.true_and]
      have h := r_w39 h2 h10 hid (show e + wl id ≤ L by omega) (wl id) 99999 0 (by omega) (Nat.zero_add _)
      rw [nI_0] at h
      exact h
    · rw [if_neg (show ¬ nI (v_lenS.getD id 0) = nI (p - e) from fun z => q2 ((nI_eq (a := wl id) (b := p - e) (by omega) (by omega)).mp z).symm), decide_eq_false q2, is_0]
      rfl
  · rw [if_neg (show ¬ nI t = 1 from fun z => q ((nI_eq (b := 1) (by omega) (by decide)).mp z)), decide_eq_false q]
    rfl
/-! the reference once a fault is found -/
theorem b_is (h : ¬ S.1 130 38 = 0) (id : Nat) : fX11_is S id = rI 0 S := by
  unfold fX11_is
  rw [if_neg h, is_0]
theorem b_pass (h : ¬ S.1 130 38 = 0) (id : Nat) : fX11_passes S id = rI 0 S := by
  unfold fX11_passes
  rw [b_is h, bi_I, if_pos rfl, if_pos (show v_nz 0 = 0 by decide)]
theorem b_num (h : ¬ S.1 130 38 = 0) (x y : Int32) : fX11_readNumber S x y = rI 0 S := by
  unfold fX11_readNumber
  rw [if_neg h]
theorem b_one (h : ¬ S.1 130 38 = 0) (x y z : Int32) : fX11_readOne S x y z = rI 0 S := by
  unfold fX11_readOne
  rw [if_neg h]
theorem b_semi (h : ¬ S.1 130 38 = 0) : fX11_semi S = rV S := by
  unfold fX11_semi fX11_semi_20
  rw [if_neg h, if_neg h]
theorem b_wrong (h : ¬ S.1 130 38 = 0) (x : Int32) : fX11_wrong S x = rV S := by
  unfold fX11_wrong
  rw [if_neg h]
/-! a fault -/
theorem mkbad (h : gd N S L b t e p) {k : Nat} (hk : k ≠ 0) (hk4 : k ≤ 4) : fX4_fail N (nI k) = rI 0 (v_si N 3 7 (nI k)) ∧ fX11_wrong S (nI k) = rV (v_si (v_si S 130 38 (nI k)) 130 39 (nI e)) ∧ bd (v_si N 3 7 (nI k)) (v_si (v_si S 130 38 (nI k)) 130 39 (nI e)) ∧ frA N (v_si N 3 7 (nI k)) ∧ frB S (v_si (v_si S 130 38 (nI k)) 130 39 (nI e)) := by
  obtain ⟨⟨h1, h2, h3, h4, h5, h6, h7, h8, h9, h10, -⟩, h7', h38⟩ := h
  refine ⟨rfl, ?_, ⟨k, e, hk, hk4, si_s, by rw [si_n (by decide), si_s], by rw [si_n (by decide)]; exact h9, si_s⟩, frA_s (by decide), frB_t (frB_s (by decide) (by decide)) (frB_s (by decide) (by decide))⟩
  unfold fX11_wrong
  rw [if_pos h38, si_n (by decide), h10]
/-! a number -/
theorem rdNum (h : gd N S L b t e p) {lo hi : Nat} (hlo : lo ≤ 9999) (hhi : hi ≤ 9999) : ∃ N' S' x y, fX4_readNumber N (nI lo) (nI hi) = rI x N' ∧ fX11_readNumber S (nI lo) (nI hi) = rI y S' ∧ frA N N' ∧ frB S S' ∧
    ((∃ v t' e' p', x = nI v ∧ y = nI v ∧ lo ≤ v ∧ v ≤ hi ∧ gd N' S' L b t' e' p' ∧ p ≤ e') ∨ bd N' S') := by
  have hk2 := mkbad h (k := 2) (by decide) (by decide)
  have hk1 := mkbad h (k := 1) (by decide) (by decide)
  obtain ⟨N1, S1, t', e', p', a1, a2, a3, a4, a5, a6⟩ := adv h
  obtain ⟨⟨h1, h2, h3, h4, h5, h6, h7, h8, h9, h10, h11, h12, h13, h14, h15, h16⟩, h7', h38⟩ := h
  have hL := h1.1
  have bad : ∀ k, (fX4_fail N (nI k) = rI 0 (v_si N 3 7 (nI k)) ∧ fX11_wrong S (nI k) = rV (v_si (v_si S 130 38 (nI k)) 130 39 (nI e)) ∧ bd (v_si N 3 7 (nI k)) (v_si (v_si S 130 38 (nI k)) 130 39 (nI e)) ∧ frA N (v_si N 3 7 (nI k)) ∧ frB S (v_si (v_si S 130 38 (nI k)) 130 39 (nI e))) →
      (bi (fX4_fail N (nI k)) fun _ M7 => fX4_readNumber_47 M7) = rI ((v_si N 3 7 (nI k)).1 3 6) (v_si N 3 7 (nI k)) ∧ (bv (fX11_wrong S (nI k)) fun M7 => fX11_readNumber_59 M7) = rI ((v_si (v_si S 130 38 (nI k)) 130 39 (nI e)).1 130 35) (v_si (v_si S 130 38 (nI k)) 130 39 (nI e)) := fun k hk => by
    have hb := bd_b hk.2.2.1
    rw [hk.1, hk.2.1, bi_I, bv_V]
    unfold fX4_readNumber_47 fX11_readNumber_59
    rw [if_neg hb.2, if_neg hb.1]
    exact ⟨rfl, rfl⟩
  unfold fX4_readNumber fX11_readNumber
  rw [h7, if_pos h38, h8]
  by_cases q : t = 2
  · rw [if_pos (show nI t = 2 by rw [q]; rfl), if_pos (show nI t = 2 by rw [q]; rfl), (h12 q).1, h11, h10, nI_sub h14]
    by_cases q4 : p - e ≤ 4
    · obtain ⟨v, v1, v2, v3⟩ := (h12 q).2 q4
      rw [if_neg (show ¬ (4 : Int32) < nI (p - e) from nI_nlt q4 (by decide)), if_neg (show ¬ (4 : Int32) < nI (p - e) from nI_nlt q4 (by decide)), v2, v3]
      by_cases q5 : v < lo
      · rw [if_pos (nI_lt q5 (by omega)), if_pos (nI_lt q5 (by omega))]
        have hb := bad 2 hk2
        exact ⟨_, _, _, _, hb.1, hb.2, hk2.2.2.2.1, hk2.2.2.2.2, Or.inr hk2.2.2.1⟩
      · rw [if_neg (nI_nlt (by omega) (by omega)), if_neg (nI_nlt (by omega) (by omega))]
        by_cases q6 : v ≤ hi
        · rw [if_pos (nI_le q6 (by omega)), if_pos (nI_le q6 (by omega))]
          unfold fX4_readNumber_47 fX11_readNumber_59
          rw [if_pos h7', if_pos h38, a1, a2, bv_V, bv_V, v2, v3]
          exact ⟨N1, S1, _, _, rfl, rfl, a3, a4, Or.inl ⟨v, t', e', p', rfl, rfl, by omega, q6, a5, a6⟩⟩
        · rw [if_neg (nI_ge (by omega) (by omega)), if_neg (nI_ge (by omega) (by omega))]
          have hb := bad 2 hk2
          exact ⟨_, _, _, _, hb.1, hb.2, hk2.2.2.2.1, hk2.2.2.2.2, Or.inr hk2.2.2.1⟩
    · rw [if_pos (show (4 : Int32) < nI (p - e) from nI_lt (show 4 < p - e by omega) (by omega)), if_pos (show (4 : Int32) < nI (p - e) from nI_lt (show 4 < p - e by omega) (by omega))]
      have hb := bad 2 hk2
      exact ⟨_, _, _, _, hb.1, hb.2, hk2.2.2.2.1, hk2.2.2.2.2, Or.inr hk2.2.2.1⟩
  · have n2 : ¬ nI t = 2 := fun z => q ((nI_eq (b := 2) (by omega) (by decide)).mp z)
    rw [if_neg n2, if_neg n2]
    have hb := bad 1 hk1
    exact ⟨_, _, _, _, hb.1, hb.2, hk1.2.2.2.1, hk1.2.2.2.2, Or.inr hk1.2.2.1⟩
/-- one of so many -/
theorem rdOne (h : gd N S L b t e p) {n : Nat} (hn : n ≤ 9999) {P : Nat → Prop} [DecidablePred P] {x2 x3 y2 y3 : Int32}
    (hc : ∀ v, v ≤ 9999 → ∀ X Y : Option (vR × vM), (if nI v ≤ x2 then X else if nI v = x3 then X else Y) = if P v then X else Y)
    (hr : ∀ v, v ≤ 9999 → ∀ X Y : Option (vR × vM), (if y2 = -1 then Y else if y3 = 0 then (if nI v = y2 then X else Y) else if y2 < nI v then Y else X) = if P v then X else Y) :
    ∃ N' S' x y, fX4_readMember N (nI n) x2 x3 = rI x N' ∧ fX11_readOne S (nI n) y2 y3 = rI y S' ∧ frA N N' ∧ frB S S' ∧
    ((∃ v t' e' p', x = nI v ∧ y = nI v ∧ v < n ∧ ¬ P v ∧ gd N' S' L b t' e' p' ∧ p ≤ e') ∨ bd N' S') := by
  have hk1 := mkbad h (k := 1) (by decide) (by decide)
  have hk2 := mkbad h (k := 2) (by decide) (by decide)
  have hk3 := mkbad h (k := 3) (by decide) (by decide)
  have hk4 := mkbad h (k := 4) (by decide) (by decide)
  obtain ⟨N1, S1, t', e', p', a1, a2, a3, a4, a5, a6⟩ := adv h
  obtain ⟨⟨h1, h2, h3, h4, h5, h6, h7, h8, h9, h10, h11, h12, h13, h14, h15, h16⟩, h7', h38⟩ := h
  have hL := h1.1
  have bad : ∀ k, (fX4_fail N (nI k) = rI 0 (v_si N 3 7 (nI k)) ∧ fX11_wrong S (nI k) = rV (v_si (v_si S 130 38 (nI k)) 130 39 (nI e)) ∧ bd (v_si N 3 7 (nI k)) (v_si (v_si S 130 38 (nI k)) 130 39 (nI e)) ∧ frA N (v_si N 3 7 (nI k)) ∧ frB S (v_si (v_si S 130 38 (nI k)) 130 39 (nI e))) →
      (bi (fX4_fail N (nI k)) fun _ M7 => fX4_readMember_73 M7) = rI ((v_si N 3 7 (nI k)).1 3 6) (v_si N 3 7 (nI k)) ∧ (bv (fX11_wrong S (nI k)) fun M7 => fX11_readOne_95 M7) = rI ((v_si (v_si S 130 38 (nI k)) 130 39 (nI e)).1 130 35) (v_si (v_si S 130 38 (nI k)) 130 39 (nI e)) := fun k hk => by
    have hb := bd_b hk.2.2.1
    rw [hk.1, hk.2.1, bi_I, bv_V]
    unfold fX4_readMember_73 fX11_readOne_95
    rw [if_neg hb.2, if_neg hb.1]
    exact ⟨rfl, rfl⟩
  unfold fX4_readMember fX11_readOne
  rw [h7, if_pos h38, h8]
  by_cases q : t = 2
  · rw [if_pos (show nI t = 2 by rw [q]; rfl), if_pos (show nI t = 2 by rw [q]; rfl), (h12 q).1, h11, h10, nI_sub h14]
    by_cases q4 : p - e ≤ 4
    · obtain ⟨v, v1, v2, v3⟩ := (h12 q).2 q4
      rw [if_pos (show nI (p - e) ≤ 4 from nI_le q4 (by decide)), if_pos (show nI (p - e) ≤ 4 from nI_le q4 (by decide)), v2, v3]
      by_cases q5 : v < n
      · rw [if_pos (nI_lt q5 (by omega)), if_pos (nI_lt q5 (by omega)), hc v v1, hr v v1]
        by_cases q6 : P v
        · rw [if_pos q6, if_pos q6]
          have hb := bad 4 hk4
          exact ⟨_, _, _, _, hb.1, hb.2, hk4.2.2.2.1, hk4.2.2.2.2, Or.inr hk4.2.2.1⟩
        · rw [if_neg q6, if_neg q6]
          unfold fX4_readMember_73 fX11_readOne_95
          rw [if_pos h7', if_pos h38, a1, a2, bv_V, bv_V, v2, v3]
          exact ⟨N1, S1, _, _, rfl, rfl, a3, a4, Or.inl ⟨v, t', e', p', rfl, rfl, q5, q6, a5, a6⟩⟩
      · rw [if_neg (nI_nlt (by omega) (by omega)), if_neg (nI_nlt (by omega) (by omega))]
        have hb := bad 3 hk3
        exact ⟨_, _, _, _, hb.1, hb.2, hk3.2.2.2.1, hk3.2.2.2.2, Or.inr hk3.2.2.1⟩
    · rw [if_neg (show ¬ nI (p - e) ≤ 4 from nI_ge (show 4 < p - e by omega) (by omega)), if_neg (show ¬ nI (p - e) ≤ 4 from nI_ge (show 4 < p - e by omega) (by omega))]
      have hb := bad 2 hk2
      exact ⟨_, _, _, _, hb.1, hb.2, hk2.2.2.2.1, hk2.2.2.2.2, Or.inr hk2.2.2.1⟩
  · have n2 : ¬ nI t = 2 := fun z => q ((nI_eq (b := 2) (by omega) (by decide)).mp z)
    rw [if_neg n2, if_neg n2]
    have hb := bad 1 hk1
    exact ⟨_, _, _, _, hb.1, hb.2, hk1.2.2.2.1, hk1.2.2.2.2, Or.inr hk1.2.2.1⟩
theorem rdSemi (h : gd N S L b t e p) : ∃ N' S' x, fX4_readSign N = rI x N' ∧ fX11_semi S = rV S' ∧ frA N N' ∧ frB S S' ∧ ((x = 1 ∧ ∃ t' e' p', gd N' S' L b t' e' p' ∧ p ≤ e') ∨ (x = 0 ∧ bd N' S')) := by
  have hk1 := mkbad h (k := 1) (by decide) (by decide)
  obtain ⟨N1, S1, t', e', p', a1, a2, a3, a4, a5, a6⟩ := adv h
  obtain ⟨⟨h1, h2, h3, h4, h5, h6, h7, h8, h9, h10, h11, h12, h13, h14, h15, h16⟩, h7', h38⟩ := h
  unfold fX4_readSign fX11_semi fX11_semi_20
  rw [h7, if_pos h38, h8]
  by_cases q : t = 3
  · rw [if_pos (show nI t = 3 by rw [q]; rfl), if_pos (show nI t = 3 by rw [q]; rfl), if_pos h38, a1, a2, bv_V, bv_V]
    exact ⟨N1, S1, 1, rfl, rfl, a3, a4, Or.inl ⟨rfl, t', e', p', a5, a6⟩⟩
  · have n3 : ¬ nI t = 3 := fun z => q ((nI_eq (b := 3) (by omega) (by decide)).mp z)
    have hb := bd_b hk1.2.2.1
    rw [if_neg n3, if_neg n3, show fX4_fail N 1 = rI 0 (v_si N 3 7 (nI 1)) from hk1.1, show fX11_wrong S 1 = rV (v_si (v_si S 130 38 (nI 1)) 130 39 (nI e)) from hk1.2.1, bi_I, bv_V, if_pos (show v_nz 0 = 0 by decide), if_neg hb.1]
    exact ⟨_, _, 0, rfl, rfl, hk1.2.2.2.1, hk1.2.2.2.2, Or.inr ⟨rfl, hk1.2.2.1⟩⟩
end P52
