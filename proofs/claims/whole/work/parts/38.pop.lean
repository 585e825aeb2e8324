/-! how many bits are set: the class counts them by halves, the reference takes them off one by one -/
def pcn : Nat → Nat → Nat
  | 0, _ => 0
  | k + 1, x => x % 2 + pcn k (x / 2)
theorem nI_sub {a b : Nat} (h : b ≤ a) : nI a - nI b = nI (a - b) := by
  have : nI a = nI (a - b) + nI b := by rw [nI_add, Nat.sub_add_cancel h]
  rw [this, Int32.add_sub_cancel]
theorem nI_mul (a b : Nat) : nI a * nI b = nI (a * b) := (Int32.ofNat_mul a b).symm
theorem nI_ush {k j : Nat} (hk : k < 2 ^ 32) (hj : j < 32) : ((nI k).toUInt32 >>> ((nI j).toUInt32 &&& Int32.toUInt32 31)).toInt32 = nI (k / 2 ^ j) := by
  have hs : k / 2 ^ j ≤ k := Nat.div_le_self _ _
  have e2 : UInt32.ofNat k >>> (UInt32.ofNat j &&& Int32.toUInt32 31) = UInt32.ofNat (k / 2 ^ j) := by
    apply UInt32.toNat_inj.1
    have h1 : (UInt32.ofNat k).toNat = k := Nat.mod_eq_of_lt hk
    have h2 : (UInt32.ofNat (k / 2 ^ j)).toNat = k / 2 ^ j := Nat.mod_eq_of_lt (by omega)
    rw [UInt32.toNat_shiftRight, nx_cnt ⟨j, hj⟩, h1, h2, Nat.shiftRight_eq_div_pow]
  show (UInt32.ofNat k >>> (UInt32.ofNat j &&& Int32.toUInt32 31)).toInt32 = _
  rw [e2]
  rfl
theorem pcn_le : ∀ k x, pcn k x ≤ k
  | 0, _ => Nat.le_refl 0
  | k + 1, x => by
    have := pcn_le k (x / 2)
    show x % 2 + pcn k (x / 2) ≤ k + 1
    omega
theorem pcn_add (a : Nat) : ∀ b x, pcn (b + a) x = pcn b x + pcn a (x / 2 ^ b)
  | 0, x => by
    rw [Nat.zero_add, Nat.pow_zero, Nat.div_one]
    exact (Nat.zero_add _).symm
  | b + 1, x => by
    rw [show b + 1 + a = (b + a) + 1 by omega]
    show x % 2 + pcn (b + a) (x / 2) = x % 2 + pcn b (x / 2) + pcn a (x / 2 ^ (b + 1))
    rw [pcn_add a b, Nat.div_div_eq_div_mul, Nat.pow_succ, Nat.mul_comm 2, Nat.add_assoc]
theorem pcn_mod : ∀ k x, pcn k (x % 2 ^ k) = pcn k x
  | 0, _ => rfl
  | k + 1, x => by
    show x % 2 ^ (k + 1) % 2 + pcn k (x % 2 ^ (k + 1) / 2) = x % 2 + pcn k (x / 2)
    have h1 : x % 2 ^ (k + 1) % 2 = x % 2 := Nat.mod_mod_of_dvd _ (by rw [Nat.pow_succ]; exact Nat.dvd_mul_left _ _)
    have h2 : x % 2 ^ (k + 1) / 2 = x / 2 % 2 ^ k := by
      rw [Nat.pow_succ, Nat.mul_comm, Nat.mod_mul_right_div_self]
    rw [h1, h2, pcn_mod k]
theorem pcn_0 : ∀ k, pcn k 0 = 0
  | 0 => rfl
  | k + 1 => by
    show 0 % 2 + pcn k (0 / 2) = 0
    rw [Nat.zero_div, pcn_0 k]
/-- the lowest set bit taken off -/
theorem pcn_off : ∀ k x, 0 < x → x < 2 ^ k → pcn k (x &&& (x - 1)) + 1 = pcn k x
  | 0, x, h, h2 => by
    have : x < 1 := h2
    omega
  | k + 1, x, h, h2 => by
    have hm : ∀ a b : Nat, (a &&& b) % 2 = (a % 2) &&& (b % 2) := fun a b => Nat.and_mod_two_pow (n := 1)
    have hd : ∀ a b : Nat, (a &&& b) / 2 = (a / 2) &&& (b / 2) := fun a b => Nat.and_div_two_pow (n := 1)
    show (x &&& (x - 1)) % 2 + pcn k ((x &&& (x - 1)) / 2) + 1 = x % 2 + pcn k (x / 2)
    rw [hm, hd]
    rcases Nat.mod_two_eq_zero_or_one x with h0 | h1
    · have e1 : (x - 1) % 2 = 1 := by omega
      have e2 : (x - 1) / 2 = x / 2 - 1 := by omega
      rw [h0, e1, e2]
      have := pcn_off k (x / 2) (by omega) (by rw [Nat.pow_succ] at h2; omega)
      show 0 + _ + 1 = _
      omega
    · have e1 : (x - 1) % 2 = 0 := by omega
      have e2 : (x - 1) / 2 = x / 2 := by omega
      rw [h1, e1, e2, Nat.and_self]
      show 0 + _ + 1 = _
      omega
/-- a number byte by byte -/
def bm (f : Nat → Nat) : Nat → Nat → Nat
  | 0, _ => 0
  | k + 1, x => f (x % 256) + 256 * bm f k (x / 256)
def rep (m : Nat) : Nat → Nat
  | 0 => 0
  | k + 1 => m + 256 * rep m k
theorem bm_id : ∀ k x, x < 256 ^ k → bm (fun b => b) k x = x
  | 0, x, h => by
    have : x < 1 := h
    show 0 = x
    omega
  | k + 1, x, h => by
    show x % 256 + 256 * bm (fun b => b) k (x / 256) = x
    rw [bm_id k (x / 256) (by rw [Nat.pow_succ] at h; omega)]
    omega
theorem bm_lt {f : Nat → Nat} (hf : ∀ b, b < 256 → f b < 256) : ∀ k x, bm f k x < 256 ^ k
  | 0, _ => Nat.one_pos
  | k + 1, x => by
    have h1 := bm_lt hf k (x / 256)
    have h2 := hf (x % 256) (Nat.mod_lt _ (by decide))
    show f (x % 256) + 256 * bm f k (x / 256) < 256 ^ (k + 1)
    rw [Nat.pow_succ]
    omega
theorem bm_cong {f g : Nat → Nat} (h : ∀ b, b < 256 → f b = g b) : ∀ k x, bm f k x = bm g k x
  | 0, _ => rfl
  | k + 1, x => by
    show f (x % 256) + 256 * bm f k (x / 256) = g (x % 256) + 256 * bm g k (x / 256)
    rw [h _ (Nat.mod_lt _ (by decide)), bm_cong h k]
theorem bm_comp {f g : Nat → Nat} (hg : ∀ b, b < 256 → g b < 256) : ∀ k x, bm f k (bm g k x) = bm (fun b => f (g b)) k x
  | 0, _ => rfl
  | k + 1, x => by
    have h2 := hg (x % 256) (Nat.mod_lt _ (by decide))
    show f ((g (x % 256) + 256 * bm g k (x / 256)) % 256) + 256 * bm f k ((g (x % 256) + 256 * bm g k (x / 256)) / 256) = f (g (x % 256)) + 256 * bm (fun b => f (g b)) k (x / 256)
    rw [show (g (x % 256) + 256 * bm g k (x / 256)) % 256 = g (x % 256) by omega, show (g (x % 256) + 256 * bm g k (x / 256)) / 256 = bm g k (x / 256) by omega, bm_comp hg k]
theorem bm_plus (f g : Nat → Nat) : ∀ k x, bm f k x + bm g k x = bm (fun b => f b + g b) k x
  | 0, _ => rfl
  | k + 1, x => by
    have := bm_plus f g k (x / 256)
    show f (x % 256) + 256 * bm f k (x / 256) + (g (x % 256) + 256 * bm g k (x / 256)) = f (x % 256) + g (x % 256) + 256 * bm (fun b => f b + g b) k (x / 256)
    omega
theorem bm_sub {f g : Nat → Nat} (h : ∀ b, b < 256 → g b ≤ f b) : ∀ k x, bm f k x - bm g k x = bm (fun b => f b - g b) k x ∧ bm g k x ≤ bm f k x
  | 0, _ => ⟨rfl, Nat.le_refl 0⟩
  | k + 1, x => by
    obtain ⟨h1, h2⟩ := bm_sub h k (x / 256)
    have h3 := h (x % 256) (Nat.mod_lt _ (by decide))
    refine ⟨?_, ?_⟩
    · show f (x % 256) + 256 * bm f k (x / 256) - (g (x % 256) + 256 * bm g k (x / 256)) = f (x % 256) - g (x % 256) + 256 * bm (fun b => f b - g b) k (x / 256)
      omega
    · show g (x % 256) + 256 * bm g k (x / 256) ≤ f (x % 256) + 256 * bm f k (x / 256)
      omega
theorem and256 (a b m r : Nat) (hm : m < 256) : (a &&& (m + 256 * r)) = (a % 256 &&& m) + 256 * (a / 256 &&& r) := by
  have h1 : (a &&& (m + 256 * r)) % 256 = a % 256 &&& m := by
    have := Nat.and_mod_two_pow (a := a) (b := m + 256 * r) (n := 8)
    rw [show (2 : Nat) ^ 8 = 256 from rfl] at this
    rw [this, show (m + 256 * r) % 256 = m by omega]
  have h2 : (a &&& (m + 256 * r)) / 256 = a / 256 &&& r := by
    have := Nat.and_div_two_pow (a := a) (b := m + 256 * r) (n := 8)
    rw [show (2 : Nat) ^ 8 = 256 from rfl] at this
    rw [this, show (m + 256 * r) / 256 = r by omega]
  omega
theorem bm_and {m : Nat} (hm : m < 256) : ∀ k x, x &&& rep m k = bm (fun b => b &&& m) k x
  | 0, x => Nat.and_zero x
  | k + 1, x => by
    show x &&& (m + 256 * rep m k) = (x % 256 &&& m) + 256 * bm (fun b => b &&& m) k (x / 256)
    rw [and256 x 0 m _ hm, bm_and hm k]
/-- shifted by s, where the mask has no bit that another byte reaches -/
theorem bm_shr {m s : Nat} (hs : s ≤ 8) (hm : m < 2 ^ (8 - s)) : ∀ k x, (x / 2 ^ s) &&& rep m k = bm (fun b => b / 2 ^ s &&& m) k x
  | 0, x => Nat.and_zero _
  | k + 1, x => by
    have hp : 2 ^ s * 2 ^ (8 - s) = 256 := by
      rw [← Nat.pow_add, show s + (8 - s) = 8 by omega]
    have hm2 : m < 256 := Nat.lt_of_lt_of_le hm (by rw [← hp]; exact Nat.le_mul_of_pos_left _ (Nat.two_pow_pos s))
    show x / 2 ^ s &&& (m + 256 * rep m k) = (x % 256 / 2 ^ s &&& m) + 256 * bm (fun b => b / 2 ^ s &&& m) k (x / 256)
    rw [and256 _ 0 m _ hm2, show x / 2 ^ s / 256 = x / 256 / 2 ^ s by rw [Nat.div_div_eq_div_mul, Nat.div_div_eq_div_mul, Nat.mul_comm], bm_shr hs hm k]
    congr 1
    have e1 : x / 2 ^ s % 256 % 2 ^ (8 - s) = x % 256 / 2 ^ s := by
      rw [← hp, Nat.mod_mul_right_div_self, Nat.mod_mod_of_dvd _ (Nat.dvd_mul_left _ _)]
    have e2 : ∀ y : Nat, y &&& m = y % 2 ^ (8 - s) &&& m := fun y => by
      have h1 : (y &&& m) % 2 ^ (8 - s) = y % 2 ^ (8 - s) &&& m % 2 ^ (8 - s) := Nat.and_mod_two_pow
      rw [Nat.mod_eq_of_lt hm] at h1
      rw [← h1]
      exact (Nat.mod_eq_of_lt (Nat.lt_of_le_of_lt Nat.and_le_right hm)).symm
    rw [e2, e1]
/-- two nibbles of a byte added, with what comes over from the next byte masked away -/
theorem bm_nib {f : Nat → Nat} (hf : ∀ b, b < 256 → f b % 16 ≤ 4 ∧ f b / 16 ≤ 4) : ∀ k x, (bm f k x + bm f k x / 16) &&& rep 15 k = bm (fun b => (f b + f b / 16) &&& 15) k x
  | 0, x => Nat.and_zero _
  | k + 1, x => by
    have h1 := hf (x % 256) (Nat.mod_lt _ (by decide))
    have h3 := bm_nib hf k (x / 256)
    have hy : bm f k (x / 256) % 16 ≤ 4 := by
      cases k with
      | zero => exact Nat.zero_le 4
      | succ k =>
        have h2 := hf (x / 256 % 256) (Nat.mod_lt _ (by decide))
        show (f (x / 256 % 256) + 256 * _) % 16 ≤ 4
        omega
    generalize hY : bm f k (x / 256) = y at h3 hy
    show (f (x % 256) + 256 * bm f k (x / 256) + (f (x % 256) + 256 * bm f k (x / 256)) / 16) &&& (15 + 256 * rep 15 k) = ((f (x % 256) + f (x % 256) / 16) &&& 15) + 256 * bm (fun b => (f b + f b / 16) &&& 15) k (x / 256)
    rw [hY, and256 _ 0 15 _ (by decide), ← h3]
    generalize f (x % 256) = b at h1
    have e1 : (b + 256 * y + (b + 256 * y) / 16) / 256 = y + y / 16 := by omega
    rw [e1]
    congr 1
    have e2 : ∀ z : Nat, z &&& 15 = z % 16 := fun z => Nat.and_two_pow_sub_one_eq_mod z 4
    rw [e2, e2]
    omega
def pb1 (b : Nat) : Nat := b - (b / 2 &&& 85)
def pb2 (c : Nat) : Nat := (c &&& 51) + (c / 4 &&& 51)
def pb3 (c : Nat) : Nat := (c + c / 16) &&& 15
theorem pb_ok : ((List.range 256).all fun b => decide ((b / 2 &&& 85) ≤ b ∧ pb1 b < 256 ∧ pb2 (pb1 b) < 256 ∧ pb2 (pb1 b) % 16 ≤ 4 ∧ pb2 (pb1 b) / 16 ≤ 4 ∧ pb3 (pb2 (pb1 b)) = pcn 8 b)) = true := by decide +kernel
theorem pb_ok' {b : Nat} (h : b < 256) : (b / 2 &&& 85) ≤ b ∧ pb1 b < 256 ∧ pb2 (pb1 b) < 256 ∧ pb2 (pb1 b) % 16 ≤ 4 ∧ pb2 (pb1 b) / 16 ≤ 4 ∧ pb3 (pb2 (pb1 b)) = pcn 8 b :=
  of_decide_eq_true (List.all_eq_true.mp pb_ok b (List.mem_range.mpr h))
theorem pop_swar {x : Nat} (hx : x < 2 ^ 32) : ∃ s1 s2 s3 : Nat, (x / 2 &&& 1431655765) ≤ x ∧ s1 = x - (x / 2 &&& 1431655765) ∧ s1 < 2 ^ 32 ∧ s2 = (s1 &&& 858993459) + (s1 / 4 &&& 858993459) ∧ s2 < 2 ^ 32 ∧ s3 = (s2 + s2 / 16) &&& 252645135 ∧ s3 < 2 ^ 32 ∧ s3 + s3 / 256 < 2 ^ 32 ∧ (s3 + s3 / 256 + (s3 + s3 / 256) / 65536) % 64 = pcn 32 x := by
  have m1 : (1431655765 : Nat) = rep 85 4 := rfl
  have m2 : (858993459 : Nat) = rep 51 4 := rfl
  have m3 : (252645135 : Nat) = rep 15 4 := rfl
  have hx4 : x < 256 ^ 4 := hx
  have a1 : (x / 2 &&& 1431655765) = bm (fun b => b / 2 &&& 85) 4 x := by
    rw [m1]
    exact bm_shr (s := 1) (by decide) (by decide) 4 x
  have a0 := bm_sub (f := fun b => b) (g := fun b => b / 2 &&& 85) (fun b hb => (pb_ok' hb).1) 4 x
  rw [bm_id 4 x hx4] at a0
  have e1 : x - (x / 2 &&& 1431655765) = bm pb1 4 x := by
    rw [a1]
    exact a0.1
  have l1 := bm_lt (f := pb1) (fun b hb => (pb_ok' hb).2.1) 4 x
  have e2 : (bm pb1 4 x &&& 858993459) + (bm pb1 4 x / 4 &&& 858993459) = bm (fun b => pb2 (pb1 b)) 4 x := by
    rw [m2, bm_and (by decide), show bm pb1 4 x / 4 &&& rep 51 4 = bm (fun b => b / 4 &&& 51) 4 (bm pb1 4 x) from bm_shr (s := 2) (by decide) (by decide) 4 _, bm_plus, bm_comp (fun b hb => (pb_ok' hb).2.1)]
    rfl
  have l2 := bm_lt (f := fun b => pb2 (pb1 b)) (fun b hb => (pb_ok' hb).2.2.1) 4 x
  have e3 : (bm (fun b => pb2 (pb1 b)) 4 x + bm (fun b => pb2 (pb1 b)) 4 x / 16) &&& 252645135 = bm (pcn 8) 4 x := by
    rw [m3, bm_nib (fun b hb => ⟨(pb_ok' hb).2.2.2.1, (pb_ok' hb).2.2.2.2.1⟩)]
    exact bm_cong (fun b hb => (pb_ok' hb).2.2.2.2.2) 4 x
  have g : ∀ y, pcn 8 y ≤ 8 := fun y => pcn_le 8 y
  have e4 : bm (pcn 8) 4 x = pcn 8 (x % 256) + 256 * (pcn 8 (x / 256 % 256) + 256 * (pcn 8 (x / 256 / 256 % 256) + 256 * (pcn 8 (x / 256 / 256 / 256 % 256) + 256 * 0))) := rfl
  have e5 : pcn 32 x = pcn 8 (x % 256) + (pcn 8 (x / 256 % 256) + (pcn 8 (x / 256 / 256 % 256) + pcn 8 (x / 256 / 256 / 256 % 256))) := by
    have q : ∀ y, pcn 8 (y % 256) = pcn 8 y := fun y => pcn_mod 8 y
    rw [q, q, q, q]
    have b1 := pcn_add 24 8 x
    have b2 := pcn_add 16 8 (x / 256)
    have b3 := pcn_add 8 8 (x / 256 / 256)
    rw [show (2 : Nat) ^ 8 = 256 from rfl] at b1 b2 b3
    rw [show (32 : Nat) = 8 + 24 from rfl, b1, show (24 : Nat) = 8 + 16 from rfl, b2, show (16 : Nat) = 8 + 8 from rfl, b3]
  refine ⟨bm pb1 4 x, bm (fun b => pb2 (pb1 b)) 4 x, bm (pcn 8) 4 x, by rw [a1]; exact a0.2, e1.symm, l1, e2.symm, l2, e3.symm, ?_, ?_, ?_⟩
  · rw [e4]
    have := g (x % 256); have := g (x / 256 % 256); have := g (x / 256 / 256 % 256); have := g (x / 256 / 256 / 256 % 256)
    omega
  · rw [e4]
    have := g (x % 256); have := g (x / 256 % 256); have := g (x / 256 / 256 % 256); have := g (x / 256 / 256 / 256 % 256)
    omega
  · rw [e4, e5]
    have h1 := g (x % 256); have h2 := g (x / 256 % 256); have h3 := g (x / 256 / 256 % 256); have h4 := g (x / 256 / 256 / 256 % 256)
    generalize pcn 8 (x % 256) = p1 at h1
    generalize pcn 8 (x / 256 % 256) = p2 at h2
    generalize pcn 8 (x / 256 / 256 % 256) = p3 at h3
    generalize pcn 8 (x / 256 / 256 / 256 % 256) = p4 at h4
    have q1 : (p1 + 256 * (p2 + 256 * (p3 + 256 * (p4 + 256 * 0)))) / 256 = p2 + 256 * p3 + 65536 * p4 := by omega
    rw [q1]
    have q2 : (p1 + 256 * (p2 + 256 * (p3 + 256 * (p4 + 256 * 0))) + (p2 + 256 * p3 + 65536 * p4)) / 65536 = p3 + p4 + 256 * p4 := by omega
    rw [q2]
    omega
theorem pop_nat {x : Nat} (hx : x < 2 ^ 32) (M : vM) : fJ6_bitCount_0f7a4 M (nI x) = rI (nI (pcn 32 x)) M := by
  obtain ⟨s1, s2, s3, h0, h1, l1, h2, l2, h3, l3, l4, h4⟩ := pop_swar hx
  unfold fJ6_bitCount_0f7a4
  have u1 : ((Int32.toUInt32 (nI x) >>> (Int32.toUInt32 1 &&& Int32.toUInt32 31)).toInt32) = nI (x / 2) := nI_ush (j := 1) hx (by decide)
  have u2 : ((Int32.toUInt32 (nI s1) >>> (Int32.toUInt32 2 &&& Int32.toUInt32 31)).toInt32) = nI (s1 / 4) := nI_ush (j := 2) l1 (by decide)
  have u3 : ((Int32.toUInt32 (nI s2) >>> (Int32.toUInt32 4 &&& Int32.toUInt32 31)).toInt32) = nI (s2 / 16) := nI_ush (j := 4) l2 (by decide)
  have u4 : ((Int32.toUInt32 (nI s3) >>> (Int32.toUInt32 8 &&& Int32.toUInt32 31)).toInt32) = nI (s3 / 256) := nI_ush (j := 8) l3 (by decide)
  have u5 : ((Int32.toUInt32 (nI (s3 + s3 / 256)) >>> (Int32.toUInt32 16 &&& Int32.toUInt32 31)).toInt32) = nI ((s3 + s3 / 256) / 65536) := nI_ush (j := 16) l4 (by decide)
  have v1 : nI x - (nI (x / 2) &&& 1431655765) = nI s1 := by
    rw [show (1431655765 : Int32) = nI 1431655765 from rfl, nx_and, nI_sub h0, h1]
  have v2 : (nI s1 &&& 858993459) + (nI (s1 / 4) &&& 858993459) = nI s2 := by
    rw [show (858993459 : Int32) = nI 858993459 from rfl, nx_and, nx_and, nI_add, h2]
  have v3 : (nI s2 + nI (s2 / 16)) &&& 252645135 = nI s3 := by
    rw [show (252645135 : Int32) = nI 252645135 from rfl, nI_add, nx_and, h3]
  rw [u1, v1, u2, v2, u3, v3, u4, nI_add s3 (s3 / 256), u5, nI_add]
  rw [show (63 : Int32) = nI (2 ^ 6 - 1) from rfl, nx_and, Nat.and_two_pow_sub_one_eq_mod]
  rw [show (2 : Nat) ^ 6 = 64 from rfl, h4]
theorem ref_pop (M : vM) (n : Nat) : ∀ (k x : Nat), x < 2 ^ 31 → pcn 32 x < n → fX11_bitsOf_4 n M (nI k) (nI x) = rI (nI (k + pcn 32 x)) M := by
  induction n with
  | zero => intro k x hx h; exact absurd h (Nat.not_lt_zero _)
  | succ n ih =>
    intro k x hx h
    unfold fX11_bitsOf_4
    by_cases h0 : x = 0
    · subst h0
      rw [if_pos nI_0, pcn_0]
      rfl
    · rw [if_neg (nI_ne0 (Nat.pos_of_ne_zero h0) hx), nI_1]
      have e1 : nI x &&& (nI x - 1) = nI (x &&& (x - 1)) := by
        rw [show (1 : Int32) = nI 1 from rfl, nI_sub (Nat.pos_of_ne_zero h0), nx_and]
      have e2 := pcn_off 32 x (Nat.pos_of_ne_zero h0) (Nat.lt_trans hx (by decide))
      rw [e1, ih (k + 1) _ (Nat.lt_of_le_of_lt Nat.and_le_left hx) (by omega), ← e2, Nat.add_assoc, Nat.add_comm 1]
theorem ref_bitsOf {x : Nat} (hx : x < 2 ^ 31) (M : vM) : fX11_bitsOf M (nI x) = rI (nI (pcn 32 x)) M := by
  unfold fX11_bitsOf
  have h := ref_pop M FU 0 x hx (Nat.lt_of_le_of_lt (pcn_le 32 x) (Nat.lt_of_lt_of_le (show 32 < 100 by decide) (Nat.le_of_ble_eq_true rfl)))
  rw [Nat.zero_add] at h
  exact h
