section P52
variable {M N : vM} {i : Nat}
def pk1 (P : Nat → Nat → Int32) (x : Nat) : Nat → Nat → Nat → Nat → Nat × Nat
  | 0, _, a, b => (a, b)
  | c + 1, y, a, b => if P a b < P x y then pk1 P x c (y + 1) x y else pk1 P x c (y + 1) a b
def pk2 (P : Nat → Nat → Int32) (n : Nat) : Nat → Nat → Nat → Nat → Nat × Nat
  | 0, _, a, b => (a, b)
  | c + 1, x, a, b => pk2 P n c (x + 1) (pk1 P x (n - (x + 1)) (x + 1) a b).1 (pk1 P x (n - (x + 1)) (x + 1) a b).2
theorem pk1_lt {P : Nat → Nat → Int32} {n x : Nat} (hx : x < n) : ∀ (c y a b : Nat), y + c ≤ n → a < n → b < n → (pk1 P x c y a b).1 < n ∧ (pk1 P x c y a b).2 < n
  | 0, _, _, _, _, ha, hb => ⟨ha, hb⟩
  | c + 1, y, a, b, hy, ha, hb => by
    rw [pk1]
    by_cases q : P a b < P x y
    · rw [if_pos q]
      exact pk1_lt hx c (y + 1) x y (by omega) hx (by omega)
    · rw [if_neg q]
      exact pk1_lt hx c (y + 1) a b (by omega) ha hb
theorem c_p29 {n : Nat} {I O : Nat → Int32} (hn1 : M.1 (qp M i) 1 = nI n) (hn12 : n ≤ 12) (hP : v_isP (qp M i)) (hI : ∀ p, p < n → M.1 37 p = I p) (hO : ∀ p, p < n → M.1 38 p = O p) {k17 : vM → Nat → Int32 → Option (vR × vM)} {x : Nat} (hx : x < n) : ∀ (c f y a b : Nat) (N : vM), c < f → y + c = n → a < n → b < n → N.2 = M.2 → (∀ c, c ≠ 36 → N.1 c = M.1 c) → N.1 36 2 = nI a → N.1 36 3 = nI b → N.1 36 4 = I a * O b →
    ∃ N', fX5_seek_29 k17 f N (qp M i) (nI x) (nI y) = k17 N' (qp M i) (nI x + 1) ∧ N'.2 = M.2 ∧ (∀ c, c ≠ 36 → N'.1 c = M.1 c) ∧ N'.1 36 2 = nI (pk1 (fun p q => I p * O q) x c y a b).1 ∧ N'.1 36 3 = nI (pk1 (fun p q => I p * O q) x c y a b).2 ∧ N'.1 36 4 = I (pk1 (fun p q => I p * O q) x c y a b).1 * O (pk1 (fun p q => I p * O q) x c y a b).2 := by
  have hpb := v_isP_b hP
  intro c
  induction c with
  | zero =>
    intro f y a b N hf hy ha hb h2 hc g2 g3 g4
    cases f with
    | zero => exact absurd hf (Nat.not_lt_zero _)
    | succ f =>
      refine ⟨N, ?_, h2, hc, g2, g3, g4⟩
      unfold fX5_seek_29
      rw [hc (qp M i) (by omega), hn1, if_pos (nI_le (by omega) (by omega))]
  | succ c ih =>
    intro f y a b N hf hy ha hb h2 hc g2 g3 g4
    cases f with
    | zero => exact absurd hf (Nat.not_lt_zero _)
    | succ f =>
      unfold fX5_seek_29
      rw [hc (qp M i) (by omega), hn1, if_neg (nI_ge (by omega) (by omega)), e_at (len := 12) rfl (by omega) (by decide), bi_I, e_at (len := 12) rfl (by omega) (by decide), bi_I, hc 37 (by decide), hc 38 (by decide), hI x hx, hO y (by omega), g4, nI_1, pk1]
      by_cases q : I a * O b < I x * O y
      · rw [if_neg (Int32.not_le.mpr q), if_pos q]
        exact ih f (y + 1) x y _ (by omega) (by omega) hx (by omega) h2 (fun c h3 => by rw [si_c h3, si_c h3, si_c h3]; exact hc c h3) (by rw [si_n (by decide), si_n (by decide), si_s]) (by rw [si_n (by decide), si_s]) (by rw [si_s])
      · rw [if_pos (Int32.not_lt.mp q), if_neg q]
        exact ih f (y + 1) a b N (by omega) (by omega) ha hb h2 hc g2 g3 g4
theorem c_p17 {n : Nat} {I O : Nat → Int32} (hn1 : M.1 (qp M i) 1 = nI n) (hn12 : n ≤ 12) (hP : v_isP (qp M i)) (hI : ∀ p, p < n → M.1 37 p = I p) (hO : ∀ p, p < n → M.1 38 p = O p) : ∀ (c f x a b : Nat) (N : vM), c < f → x + c = n → a < n → b < n → N.2 = M.2 → (∀ c, c ≠ 36 → N.1 c = M.1 c) → N.1 36 2 = nI a → N.1 36 3 = nI b → N.1 36 4 = I a * O b →
    ∃ N', fX5_seek_17 f N (qp M i) (nI x) = rV N' ∧ N'.2 = M.2 ∧ (∀ c, c ≠ 36 → N'.1 c = M.1 c) ∧ N'.1 36 2 = nI (pk2 (fun p q => I p * O q) n c x a b).1 ∧ N'.1 36 3 = nI (pk2 (fun p q => I p * O q) n c x a b).2 ∧ N'.1 36 4 = I (pk2 (fun p q => I p * O q) n c x a b).1 * O (pk2 (fun p q => I p * O q) n c x a b).2 := by
  have hpb := v_isP_b hP
  intro c
  induction c with
  | zero =>
    intro f x a b N hf hy ha hb h2 hc g2 g3 g4
    cases f with
    | zero => exact absurd hf (Nat.not_lt_zero _)
    | succ f =>
      refine ⟨N, ?_, h2, hc, g2, g3, g4⟩
      unfold fX5_seek_17
      rw [hc (qp M i) (by omega), hn1, if_pos (nI_le (by omega) (by omega))]
  | succ c ih =>
    intro f x a b N hf hy ha hb h2 hc g2 g3 g4
    cases f with
    | zero => exact absurd hf (Nat.not_lt_zero _)
    | succ f =>
      obtain ⟨N1, x1, x2, x3, x4, x5, x6⟩ := c_p29 hn1 hn12 hP hI hO (k17 := fX5_seek_17 f) (x := x) (by omega) (n - (x + 1)) FU (x + 1) a b N (FU_lt (by omega)) (by omega) ha hb h2 hc g2 g3 g4
      obtain ⟨l1, l2⟩ := pk1_lt (P := fun p q => I p * O q) (n := n) (x := x) (by omega) (n - (x + 1)) (x + 1) a b (by omega) ha hb
      obtain ⟨N', y1, y2, y3, y4, y5, y6⟩ := ih f (x + 1) _ _ N1 (by omega) (by omega) l1 l2 x2 x3 x4 x5 x6
      refine ⟨N', ?_, y2, y3, y4, y5, y6⟩
      unfold fX5_seek_17
      rw [hc (qp M i) (by omega), hn1, if_neg (nI_ge (by omega) (by omega)), nI_1, x1, nI_1]
      exact y1
theorem r_p275 {n : Nat} {I O : Nat → Int32} (hn1 : N.1 133 i = nI n) (hn12 : n ≤ 12) (hi : i < 6) (hI : ∀ p, p < n → N.1 164 p = I p) (hO : ∀ p, p < n → N.1 165 p = O p) {k258 : vM → Int32 → Int32 → Int32 → Int32 → Int32 → Option (vR × vM)} {v : Int32} {x : Nat} (hx : x < n) : ∀ (c f y a b : Nat), c < f → y + c = n → a < n → b < n →
    fX11_more_275 k258 f N (nI i) v (nI a) (nI b) (nI x) (nI y) = k258 N (nI i) v (nI (pk1 (fun p q => I p * O q) x c y a b).1) (nI (pk1 (fun p q => I p * O q) x c y a b).2) (nI x + 1) := by
  have v0 : v_in (nI i) 12 = true := v_in_nI (by omega) (by decide)
  intro c
  induction c with
  | zero =>
    intro f y a b hf hy ha hb
    cases f with
    | zero => exact absurd hf (Nat.not_lt_zero _)
    | succ f =>
      unfold fX11_more_275
      rw [if_pos v0, nI_clamp (show i < 2 ^ 31 by omega), hn1, if_pos (nI_le (by omega) (by omega))]
      rfl
  | succ c ih =>
    intro f y a b hf hy ha hb
    cases f with
    | zero => exact absurd hf (Nat.not_lt_zero _)
    | succ f =>
      unfold fX11_more_275
      rw [if_pos v0, nI_clamp (show i < 2 ^ 31 by omega), hn1, if_neg (nI_ge (by omega) (by omega)), if_pos (v_in_nI (by omega) (by decide)), if_pos (v_in_nI (by omega) (by decide)), if_pos (v_in_nI (by omega) (by decide)), if_pos (v_in_nI (by omega) (by decide)), nI_clamp (show a < 2 ^ 31 by omega), nI_clamp (show b < 2 ^ 31 by omega), nI_clamp (show x < 2 ^ 31 by omega), nI_clamp (show y < 2 ^ 31 by omega), hI a ha, hI x hx, hO b hb, hO y (by omega), nI_1, pk1]
      by_cases q : I a * O b < I x * O y
      · rw [if_pos q, if_pos q]
        exact ih f (y + 1) x y (by omega) (by omega) hx (by omega)
      · rw [if_neg q, if_neg q]
        exact ih f (y + 1) a b (by omega) (by omega) ha hb
theorem r_p258 {n v : Nat} {I O : Nat → Int32} (hn1 : N.1 133 i = nI n) (hn12 : n ≤ 12) (hi : i < 6) (hI : ∀ p, p < n → N.1 164 p = I p) (hO : ∀ p, p < n → N.1 165 p = O p) (hv : v < 3) : ∀ (c f x a b : Nat), c < f → x + c = n → a < n → b < n →
    fX11_more_258 f N (nI i) (nI v) (nI a) (nI b) (nI x) = rI (if v = 0 then nI (pk2 (fun p q => I p * O q) n c x a b).1 else if v = 1 then nI (pk2 (fun p q => I p * O q) n c x a b).2 else N.1 145 i + I (pk2 (fun p q => I p * O q) n c x a b).1 * O (pk2 (fun p q => I p * O q) n c x a b).2) N := by
  have v0 : v_in (nI i) 12 = true := v_in_nI (by omega) (by decide)
  intro c
  induction c with
  | zero =>
    intro f x a b hf hy ha hb
    cases f with
    | zero => exact absurd hf (Nat.not_lt_zero _)
    | succ f =>
      unfold fX11_more_258
      rw [if_pos v0, nI_clamp (show i < 2 ^ 31 by omega), hn1, if_pos (nI_le (by omega) (by omega)), pk2]
      rcases (show v = 0 ∨ v = 1 ∨ v = 2 by omega) with rfl | rfl | rfl
      · rfl
      · rfl
      · rw [if_neg (by decide), if_neg (by decide), if_pos (v_in_nI hi (by decide)), if_pos (v_in_nI (by omega) (by decide)), if_pos (v_in_nI (by omega) (by decide)), nI_clamp (show a < 2 ^ 31 by omega), nI_clamp (show b < 2 ^ 31 by omega), hI a ha, hO b hb]
        rfl
  | succ c ih =>
    intro f x a b hf hy ha hb
    cases f with
    | zero => exact absurd hf (Nat.not_lt_zero _)
    | succ f =>
      obtain ⟨l1, l2⟩ := pk1_lt (P := fun p q => I p * O q) (n := n) (x := x) (by omega) (n - (x + 1)) (x + 1) a b (by omega) ha hb
      have e1 := r_p275 hn1 hn12 hi hI hO (k258 := fX11_more_258 f) (v := nI v) (x := x) (by omega) (n - (x + 1)) FU (x + 1) a b (FU_lt (by omega)) (by omega) ha hb
      rw [fX11_more_258, if_pos v0, nI_clamp (show i < 2 ^ 31 by omega), hn1, if_neg (nI_ge (by omega) (by omega)), nI_1, e1, nI_1, pk2]
      exact ih f (x + 1) _ _ (by omega) (by omega) l1 l2
theorem c_seek {n m : Nat} {st en : Nat → Nat} (hn : netF M i n m st en) (hP : v_isP (qp M i)) {I O : Nat → Int32} (hI : flw I st en m 0 n) (hO : flw O en st m (n - 1) n) (h0 : 0 ≤ I 0 * O 1) :
    ∃ N', fX5_seek M (qp M i) = rV N' ∧ N'.2 = M.2 ∧ (∀ c, c ≠ 37 → c ≠ 38 → c ≠ 36 → N'.1 c = M.1 c) ∧ N'.1 36 2 = nI (pk2 (fun p q => I p * O q) n n 0 0 1).1 ∧ N'.1 36 3 = nI (pk2 (fun p q => I p * O q) n n 0 0 1).2 ∧ N'.1 36 4 = I (pk2 (fun p q => I p * O q) n n 0 0 1).1 * O (pk2 (fun p q => I p * O q) n n 0 0 1).2 := by
  have hpb := v_isP_b hP
  have hn12 := hn.n3
  obtain ⟨A1, a1, a2, a3, a4⟩ := c_fill0 (N := M) (c := 37) (len := 12) (x := 0) rfl (by decide)
  have eq1 : qp A1 i = qp M i := by show A1.2.2 _ _ - 1 = _; rw [a2]; rfl
  obtain ⟨A2, b1, b2, b3, b4, b5, b6⟩ := c_i17 hn hP hI n FU 0 (v_si A1 37 0 1) (FU_lt (by omega)) (Nat.zero_add _) a2 (fun c h1 h2 h3 => by rw [si_c h1]; exact a3 c h1) (fun p hp => by
    rw [rw_0]
    by_cases z : p = 0
    · rw [z, si_s, if_pos rfl]
    · rw [if_neg z, si_n z]
      exact a4 p (by omega))
  obtain ⟨A3, c1, c2, c3, c4⟩ := c_fill0 (N := A2) (c := 38) (len := 12) (x := 0) rfl (by decide)
  obtain ⟨A4, d1, d2, d3, d4, d5, d6⟩ := c_o29 hn hP hO n FU (v_si A3 38 (n - 1) 1) (FU_lt (by omega)) (Nat.le_refl n) (by show A3.2 = _; rw [c2, b2]) (fun c h1 h2 h3 => by rw [si_c h2, c3 c h2]; exact b3 c h1 h2 h3) (fun p hp => by
    rw [Nat.sub_self, rw_0]
    by_cases z : p = n - 1
    · rw [z, si_s, if_pos rfl]
    · rw [if_neg z, si_n z]
      exact c4 p (by omega))
  have q4 : qp A4 i = qp M i := by show A4.2.2 _ _ - 1 = _; rw [d2]; rfl
  have hI4 : ∀ p, p < n → A4.1 37 p = I p := fun p hp => by rw [d4, si_c (by decide), c3 37 (by decide)]; exact b6 p hp
  have hn4 : A4.1 (qp A4 i) 1 = nI n := by rw [q4, d3 _ (by omega) (by omega) (by omega)]; exact hn.n1
  have hn2 : A3.1 (qp M i) 1 = nI n := by rw [c3 _ (by omega), b3 _ (by omega) (by omega) (by omega)]; exact hn.n1
  obtain ⟨A5, e1, e2, e3, e4, e5, e6⟩ := c_p29 (M := A4) (i := i) hn4 hn12.2 (by rw [q4]; exact hP) hI4 d6 (k17 := fX5_seek_17 99999) (x := 0) (by omega) (n - 2) 99999 2 0 1 (v_si (v_si (v_si (v_si A4 36 4 (-1)) 36 2 0) 36 3 1) 36 4 (I 0 * O 1)) (by omega) (by omega) (by omega) (by omega) rfl (fun c h3 => by rw [si_c h3, si_c h3, si_c h3, si_c h3]) (by rw [si_n (by decide), si_n (by decide), si_s]; rfl) (by rw [si_n (by decide), si_s]; rfl) (by rw [si_s])
  obtain ⟨l1, l2⟩ := pk1_lt (P := fun p q => I p * O q) (n := n) (x := 0) (by omega) (n - 2) 2 0 1 (by omega) (by omega) (by omega)
  obtain ⟨A6, f1, f2, f3, f4, f5, f6⟩ := c_p17 (M := A4) (i := i) hn4 hn12.2 (by rw [q4]; exact hP) hI4 d6 (n - 1) 99999 1 _ _ A5 (by omega) (by omega) l1 l2 e2 e3 e4 e5 e6
  have ep : pk2 (fun p q => I p * O q) n n 0 0 1 = pk2 (fun p q => I p * O q) n (n - 1) 1 (pk1 (fun p q => I p * O q) 0 (n - 2) 2 0 1).1 (pk1 (fun p q => I p * O q) 0 (n - 2) 2 0 1).2 := by
    obtain ⟨k, rfl⟩ : ∃ k, n = k + 2 := ⟨n - 2, by omega⟩
    rw [pk2, show k + 2 - (0 + 1) = k + 1 from rfl, pk1, if_neg (Int32.not_lt.mpr (Int32.le_refl _))]
    rfl
  rw [q4] at e1 f1
  rw [ep]
  refine ⟨A6, ?_, by rw [f2, d2], fun c h1 h2 h3 => by rw [f3 c h3]; exact d3 c h1 h2 h3, f4, f5, f6⟩
  unfold fX5_seek fX5_countInto fX5_countOnward
  rw [a1, bv_V, if_pos (by decide), show Int32.toNatClampNeg 0 = 0 from rfl, show (0 : Int32) = nI 0 from rfl, b1, bv_V, show (nI 0 : Int32) = 0 from rfl, c1, bv_V, hn2, show nI n - 1 = nI (n - 1) from nI_sub (b := 1) (by omega), e_put (len := 12) rfl (by omega) (by decide), bv_V, si_c (by omega), hn2, d1, bv_V]
  rw [show FU = 99999 + 1 from rfl, fX5_seek_17, si_c (by omega), d3 _ (by omega) (by omega) (by omega), hn.n1, show (0 : Int32) = nI 0 from rfl, if_neg (nI_ge (by omega) (by omega)), nI_1, show FU = 99999 + 1 from rfl, fX5_seek_29, si_c (by omega), d3 _ (by omega) (by omega) (by omega), hn.n1, if_neg (nI_ge (by omega) (by omega)), e_at (len := 12) rfl (by omega) (by decide), bi_I, e_at (len := 12) rfl (by omega) (by decide), bi_I, si_c (by decide), si_c (by decide), hI4 0 (by omega), d6 (0 + 1) (by omega), si_s, if_neg (show ¬ I 0 * O (0 + 1) ≤ -1 from Int32.not_le.mpr (Int32.lt_of_lt_of_le (by decide) h0)), nI_1]
  refine Eq.trans e1 ?_
  exact f1
end P52
