section P41
/-! rows of numbers: one another's order, two places changed, sorted ones -/
def pmN (n : Nat) (f g : Nat → Nat) : Prop := ∃ s : Nat → Nat, (∀ k, k < n → s k < n) ∧ (∀ j k, j < n → k < n → s j = s k → j = k) ∧ ∀ k, k < n → f k = g (s k)
theorem pm_r (n : Nat) (f : Nat → Nat) : pmN n f f := ⟨fun k => k, fun _ h => h, fun _ _ _ _ h => h, fun _ _ => rfl⟩
theorem pm_t {n : Nat} {f g h : Nat → Nat} (h1 : pmN n f g) (h2 : pmN n g h) : pmN n f h := by
  obtain ⟨s, a1, a2, a3⟩ := h1
  obtain ⟨t, b1, b2, b3⟩ := h2
  refine ⟨fun k => t (s k), fun k hk => b1 _ (a1 k hk), fun j k hj hk e => a2 j k hj hk (b2 _ _ (a1 j hj) (a1 k hk) e), fun k hk => ?_⟩
  rw [a3 k hk, b3 _ (a1 k hk)]
theorem pm_s {n : Nat} {f g : Nat → Nat} (h : pmN n f g) : pmN n g f := by
  obtain ⟨s, a1, a2, a3⟩ := h
  have on : ∀ y, y < n → ∃ x, x < n ∧ s x = y := fun y hy => fb_onto a1 (fun i j hij hj e => by have := a2 i j (by omega) hj e; omega) hy
  refine ⟨fun y => if h : y < n then Classical.choose (on y h) else 0, fun y hy => ?_, fun j k hj hk e => ?_, fun y hy => ?_⟩
  · show (if h : y < n then Classical.choose (on y h) else 0) < n
    rw [dif_pos hy]
    exact (Classical.choose_spec (on y hy)).1
  · have e' : (if h : j < n then Classical.choose (on j h) else 0) = (if h : k < n then Classical.choose (on k h) else 0) := e
    rw [dif_pos hj, dif_pos hk] at e'
    have c1 := (Classical.choose_spec (on j hj)).2
    have c2 := (Classical.choose_spec (on k hk)).2
    rw [e', c2] at c1
    exact c1.symm
  · show g y = f (if h : y < n then Classical.choose (on y h) else 0)
    rw [dif_pos hy]
    have c1 := Classical.choose_spec (on y hy)
    rw [a3 _ c1.1, c1.2]
theorem pm_g {n : Nat} {f f' g : Nat → Nat} (h : pmN n f g) (e : ∀ k, k < n → f' k = f k) : pmN n f' g := by
  obtain ⟨s, a1, a2, a3⟩ := h
  exact ⟨s, a1, a2, fun k hk => (e k hk).trans (a3 k hk)⟩
theorem pm_up {m n : Nat} {f g : Nat → Nat} (h : pmN m f g) (hm : m ≤ n) (e : ∀ k, m ≤ k → f k = g k) : pmN n f g := by
  obtain ⟨s, a1, a2, a3⟩ := h
  refine ⟨fun k => if k < m then s k else k, fun k hk => ?_, fun j k hj hk he => ?_, fun k hk => ?_⟩
  · show (if k < m then s k else k) < n
    by_cases q : k < m
    · rw [if_pos q]
      have := a1 k q
      omega
    · rw [if_neg q]
      exact hk
  · have he' : (if j < m then s j else j) = (if k < m then s k else k) := he
    by_cases q : j < m
    · by_cases q2 : k < m
      · rw [if_pos q, if_pos q2] at he'
        exact a2 j k q q2 he'
      · rw [if_pos q, if_neg q2] at he'
        have := a1 j q
        omega
    · by_cases q2 : k < m
      · rw [if_neg q, if_pos q2] at he'
        have := a1 k q2
        omega
      · rw [if_neg q, if_neg q2] at he'
        exact he'
  · show f k = g (if k < m then s k else k)
    by_cases q : k < m
    · rw [if_pos q]
      exact a3 k q
    · rw [if_neg q]
      exact e k (by omega)
def swp (f : Nat → Nat) (a b : Nat) : Nat → Nat := fun k => if k = a then f b else if k = b then f a else f k
theorem sw_a (f : Nat → Nat) (a b : Nat) : swp f a b a = f b := if_pos rfl
theorem sw_b (f : Nat → Nat) (a b : Nat) : swp f a b b = f a := by
  unfold swp
  by_cases q : b = a
  · rw [if_pos q, q]
  · rw [if_neg q, if_pos rfl]
theorem sw_o {f : Nat → Nat} {a b k : Nat} (h1 : k ≠ a) (h2 : k ≠ b) : swp f a b k = f k := by
  unfold swp
  rw [if_neg h1, if_neg h2]
theorem pm_w {n a b : Nat} (f : Nat → Nat) (ha : a < n) (hb : b < n) : pmN n (swp f a b) f := by
  refine ⟨fun k => if k = a then b else if k = b then a else k, fun k hk => ?_, fun j k hj hk e => ?_, fun k hk => ?_⟩
  · show (if k = a then b else if k = b then a else k) < n
    split
    · exact hb
    · split
      · exact ha
      · exact hk
  · have e' : (if j = a then b else if j = b then a else j) = (if k = a then b else if k = b then a else k) := e
    split at e' <;> split at e' <;> (try split at e') <;> (try split at e') <;> omega
  · show (if k = a then f b else if k = b then f a else f k) = f (if k = a then b else if k = b then a else k)
    by_cases q : k = a
    · rw [if_pos q, if_pos q]
    · by_cases q2 : k = b
      · rw [if_neg q, if_neg q, if_pos q2, if_pos q2]
      · rw [if_neg q, if_neg q, if_neg q2, if_neg q2]
def inN (n : Nat) (f : Nat → Nat) : Prop := ∀ j k, j < n → k < n → f j = f k → j = k
theorem pm_i {n : Nat} {f g : Nat → Nat} (h : pmN n f g) (hg : inN n g) : inN n f := by
  obtain ⟨s, a1, a2, a3⟩ := h
  intro j k hj hk e
  rw [a3 j hj, a3 k hk] at e
  exact a2 j k hj hk (hg _ _ (a1 j hj) (a1 k hk) e)
theorem pm_all {n : Nat} {f g : Nat → Nat} {P : Nat → Prop} (h : pmN n f g) (hg : ∀ k, k < n → P (g k)) : ∀ k, k < n → P (f k) := by
  obtain ⟨s, a1, a2, a3⟩ := h
  intro k hk
  rw [a3 k hk]
  exact hg _ (a1 k hk)
def stN (n : Nat) (f : Nat → Nat) : Prop := ∀ j k, j < k → k < n → f j ≤ f k
/-- two sorted rows of the same numbers, told apart, are one -/
theorem st_one {n : Nat} {f g : Nat → Nat} (hf : stN n f) (hg : stN n g) (hi : inN n g) (h : pmN n f g) : ∀ k, k < n → f k = g k := by
  have hfi := pm_i h hi
  obtain ⟨s, a1, a2, a3⟩ := h
  have up : ∀ j k, j < k → k < n → s j < s k := by
    intro j k hjk hk
    have h1 := hf j k hjk hk
    rw [a3 j (by omega), a3 k hk] at h1
    rcases Nat.lt_trichotomy (s j) (s k) with q | q | q
    · exact q
    · have := a2 j k (by omega) hk q
      omega
    · have h2 := hg _ _ q (a1 j (by omega))
      have h3 := hi _ _ (a1 j (by omega)) (a1 k hk) (Nat.le_antisymm h1 h2)
      omega
  have lo : ∀ k, k < n → k ≤ s k := by
    intro k
    induction k with
    | zero => intro _; omega
    | succ k ih =>
      intro hk
      have h1 := ih (by omega)
      have h2 := up k (k + 1) (by omega) hk
      omega
  have hi2 : ∀ d k, k + d + 1 = n → s k + d + 1 ≤ n := by
    intro d
    induction d with
    | zero =>
      intro k hk
      have := a1 k (by omega)
      omega
    | succ d ih =>
      intro k hk
      have h1 := ih (k + 1) (by omega)
      have h2 := up k (k + 1) (by omega) (by omega)
      omega
  intro k hk
  have h1 := lo k hk
  have h2 := hi2 (n - 1 - k) k (by omega)
  rw [a3 k hk, show s k = k by omega]
/-! a heap: all but one place in order below lo .. n -/
def hpE (n lo x : Nat) (K : Nat → Nat) : Prop := ∀ j c, lo ≤ j → j ≠ x → (c = 2 * j + 1 ∨ c = 2 * j + 2) → c < n → K c ≤ K j
def hpG (n lo x : Nat) (K : Nat → Nat) : Prop := ∀ j c, lo ≤ j → (x = 2 * j + 1 ∨ x = 2 * j + 2) → (c = 2 * x + 1 ∨ c = 2 * x + 2) → c < n → K c ≤ K j
def hpF (n lo : Nat) (K : Nat → Nat) : Prop := ∀ j c, lo ≤ j → (c = 2 * j + 1 ∨ c = 2 * j + 2) → c < n → K c ≤ K j
theorem hp_b {n lo : Nat} {K : Nat → Nat} (h : hpF n (lo + 1) K) : hpE n lo lo K ∧ hpG n lo lo K :=
  ⟨fun j c h1 h2 h3 h4 => h j c (by omega) h3 h4, fun j c h1 h2 _ _ => by omega⟩
theorem hp_e {n lo x : Nat} {K : Nat → Nat} (h : hpE n lo x K) (hx : ∀ c, (c = 2 * x + 1 ∨ c = 2 * x + 2) → c < n → K c ≤ K x) : hpF n lo K := by
  intro j c h1 h2 h3
  by_cases q : j = x
  · subst q
    exact hx c h2 h3
  · exact h j c h1 q h2 h3
theorem hp_s {n lo x y : Nat} {K : Nat → Nat} (hlo : lo ≤ x) (h : hpE n lo x K) (hg : hpG n lo x K) (hy : y = 2 * x + 1 ∨ y = 2 * x + 2) (hyn : y < n) (hm : ∀ c, (c = 2 * x + 1 ∨ c = 2 * x + 2) → c < n → K c ≤ K y) (hl : K x < K y) : hpE n lo y (swp K x y) ∧ hpG n lo y (swp K x y) := by
  refine ⟨fun j c h1 h2 h3 h4 => ?_, fun j c h1 h2 h3 h4 => ?_⟩
  · by_cases q : j = x
    · subst q
      rw [sw_a]
      by_cases q2 : c = y
      · subst q2
        rw [sw_b]
        omega
      · rw [sw_o (by omega) q2]
        exact hm c h3 h4
    · rw [sw_o q h2]
      by_cases q2 : c = x
      · subst q2
        rw [sw_a]
        exact hg j y h1 h3 hy hyn
      · by_cases q3 : c = y
        · subst q3
          omega
        · rw [sw_o q2 q3]
          exact h j c h1 q h3 h4
  · have e : j = x := by omega
    subst e
    rw [sw_a, sw_o (by omega) (by omega)]
    exact h y c (by omega) (by omega) h3 h4
theorem hp_0 {n : Nat} {K : Nat → Nat} (h : hpF n 0 K) : ∀ m k, k ≤ m → k < n → K k ≤ K 0 := by
  intro m
  induction m with
  | zero =>
    intro k h1 _
    rw [show k = 0 by omega]
    exact Nat.le_refl _
  | succ m ih =>
    intro k h1 h2
    by_cases q : k = 0
    · rw [q]
      exact Nat.le_refl _
    · have h3 := ih ((k - 1) / 2) (by omega) (by omega)
      have h4 := h ((k - 1) / 2) k (Nat.zero_le _) (by omega) h2
      omega
/-- the last one changed against the top: still a heap but at the top -/
theorem hp_w {m : Nat} {K : Nat → Nat} (h : hpF (m + 1) 0 K) : hpF m 1 (swp K 0 m) := by
  intro j c h1 h2 h3
  rw [sw_o (by omega) (by omega), sw_o (by omega) (by omega)]
  exact h j c (by omega) h2 (by omega)
/-- a sorted end behind a heap -/
def hpT (m N : Nat) (K : Nat → Nat) : Prop := hpF m 0 K ∧ (∀ a b, a < m → m ≤ b → b < N → K a ≤ K b) ∧ ∀ a b, m ≤ a → a < b → b < N → K a ≤ K b
theorem hp_t {m N : Nat} {K K2 : Nat → Nat} (hm : m < N) (h : hpT (m + 1) N K) (h2 : hpF m 0 K2) (hp : pmN m K2 (swp K 0 m)) (ho : ∀ k, m ≤ k → K2 k = swp K 0 m k) : hpT m N K2 := by
  obtain ⟨a1, a2, a3⟩ := h
  have top : ∀ k, k < m → swp K 0 m k ≤ K 0 := by
    intro k hk
    by_cases q : k = 0
    · rw [q, sw_a]
      exact hp_0 a1 m m (Nat.le_refl _) (by omega)
    · rw [sw_o q (by omega)]
      exact hp_0 a1 k k (Nat.le_refl _) (by omega)
  have bel : ∀ k, k < m → ∀ b, m < b → b < N → swp K 0 m k ≤ K b := by
    intro k hk b hb1 hb2
    by_cases q : k = 0
    · rw [q, sw_a]
      exact a2 m b (by omega) (by omega) hb2
    · rw [sw_o q (by omega)]
      exact a2 k b (by omega) (by omega) hb2
  refine ⟨h2, fun a b h3 h4 h5 => ?_, fun a b h3 h4 h5 => ?_⟩
  · rw [ho b h4]
    refine pm_all (P := fun v => v ≤ swp K 0 m b) hp (fun k hk => ?_) a h3
    by_cases q : b = m
    · rw [q, sw_b]
      exact top k hk
    · rw [sw_o (f := K) (k := b) (by omega) q]
      exact bel k hk b (by omega) h5
  · rw [ho a h3, ho b (by omega), sw_o (f := K) (k := b) (by omega) (by omega)]
    by_cases q : a = m
    · rw [q, sw_b]
      exact a2 0 b (by omega) (by omega) h5
    · rw [sw_o (by omega) q]
      exact a3 a b (by omega) h4 h5
end P41
