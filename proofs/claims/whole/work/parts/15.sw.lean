section V12
variable {l : Launch} {D : va_G} {dA : Nat → ClassId} {S : vS} {al : Bool} {nf d kc ks pc pc' : Nat} {lv lv' : List (Nat × Value)} {st st' : List Value} {n : Nat} {M : vM} {o : Option (vR × vM)}
theorem V_kc {kc1 ks1 : Nat} (h1 : kc1 ≤ kc) (h2 : ks1 ≤ ks) (k : V l D dA S al nf d kc1 ks1 pc lv st n M o) : V l D dA S al nf d kc ks pc lv st n M o := by
  intro r M' ho
  refine ⟨(k r M' ho).1, ?_⟩
  intro ad p e R s m args below meth c H locs cells slots Q A ls C Wd Zr h3 h4 hl Rt
  exact (k r M' ho).2 ad p e R s m args below meth c H locs cells slots Q A ls C Wd Zr (by omega) (by omega) hl Rt
/-- one case of a tableswitch, then the others -/
theorem V_tcase {dflt lo hi : Int} {offs : Array Int} {len tgt : Nat} {x k : Int32} {off : Int} {o1 o2 : Option (vR × vM)} (hd : decode S.2.1 pc = .ok (.tableswitch dflt lo hi offs, len)) (h1 : ¬ k.toInt < lo) (h2 : ¬ hi < k.toInt) (ho9 : offs[(k.toInt - lo).toNat]? = some off) (ht : (pc : Int) + off = (tgt : Int))
    (kt : x = k → V l D dA S al nf d kc ks tgt lv st n M o1) (kf : ¬ x = k → V l D dA S al nf d kc ks pc lv (.int x :: st) n M o2) : V l D dA S al nf d kc ks pc lv (.int x :: st) n M (if x = k then o1 else o2) := by
  by_cases h : x = k
  · rw [if_pos h]
    subst h
    exact V_step (fun hx hb _ w => lv_tableIn hx hb hd h1 h2 ho9 ht w) (kt rfl)
  · rw [if_neg h]
    exact kf h
theorem V_tdef {dflt lo hi : Int} {offs : Array Int} {len tgt : Nat} {x : Int32} (hd : decode S.2.1 pc = .ok (.tableswitch dflt lo hi offs, len)) (h : x.toInt < lo ∨ hi < x.toInt) (ht : (pc : Int) + dflt = (tgt : Int)) (kf : V l D dA S al nf d kc ks tgt lv st n M o) : V l D dA S al nf d kc ks pc lv (.int x :: st) n M o :=
  V_step (fun hx hb _ w => lv_tableOut hx hb hd h ht w) kf
theorem V_lcase {dflt : Int} {ps : Array (Int × Int)} {len tgt : Nat} {x k : Int32} {off : Int} {o1 o2 : Option (vR × vM)} (hd : decode S.2.1 pc = .ok (.lookupswitch dflt ps, len)) (hp : (ps.toList.zip (ps.toList.drop 1)).all (fun (a, next) => a.1 < next.1) = true) (ho9 : Op.lookupswitch.offset ps.toList dflt k.toInt = off) (ht : (pc : Int) + off = (tgt : Int))
    (kt : x = k → V l D dA S al nf d kc ks tgt lv st n M o1) (kf : ¬ x = k → V l D dA S al nf d kc ks pc lv (.int x :: st) n M o2) : V l D dA S al nf d kc ks pc lv (.int x :: st) n M (if x = k then o1 else o2) := by
  by_cases h : x = k
  · rw [if_pos h]
    subst h
    exact V_step (fun hx hb _ w => lv_lookup hx hb hd hp ho9 ht w) (kt rfl)
  · rw [if_neg h]
    exact kf h
theorem V_ldef {dflt : Int} {ps : Array (Int × Int)} {len tgt : Nat} {x : Int32} {off : Int} (hd : decode S.2.1 pc = .ok (.lookupswitch dflt ps, len)) (hp : (ps.toList.zip (ps.toList.drop 1)).all (fun (a, next) => a.1 < next.1) = true) (ho9 : Op.lookupswitch.offset ps.toList dflt x.toInt = off) (ht : (pc : Int) + off = (tgt : Int)) (kf : V l D dA S al nf d kc ks tgt lv st n M o) : V l D dA S al nf d kc ks pc lv (.int x :: st) n M o :=
  V_step (fun hx hb _ w => lv_lookup hx hb hd hp ho9 ht w) kf
end V12
/-! what the layout says -/
theorem v_LW {w : Nat} (h : v_isW w) : w < 175 ∧ v_LAY w = (0, 9, 0) ∧ v_LAY (w + 7) = (1, 1, 1458) ∧ v_LAY (w + 8) = (1, 3, 1458) ∧ w + 7 < 175 ∧ w + 8 < 175 := by
  obtain ⟨i, hi, rfl⟩ := h
  match i, hi with
  | 0, _ => decide +kernel
  | 1, _ => decide +kernel
  | 2, _ => decide +kernel
  | 3, _ => decide +kernel
  | 4, _ => decide +kernel
  | 5, _ => decide +kernel
theorem v_LP {w : Nat} (h : v_isP w) : w < 175 ∧ v_LAY w = (0, 3, 0) ∧ (v_LAY (w + 1) = (1, 0, 20) ∧ v_LAY (w + 2) = (1, 0, 20) ∧ v_LAY (w + 3) = (1, 0, 20) ∧ v_LAY (w + 4) = (1, 0, 12) ∧ v_LAY (w + 5) = (1, 0, 12)) ∧ w + 1 < 175 ∧ w + 2 < 175 ∧ w + 3 < 175 ∧ w + 4 < 175 ∧ w + 5 < 175 := by
  obtain ⟨i, hi, rfl⟩ := h
  match i, hi with
  | 0, _ => decide +kernel
  | 1, _ => decide +kernel
  | 2, _ => decide +kernel
  | 3, _ => decide +kernel
  | 4, _ => decide +kernel
  | 5, _ => decide +kernel
  | 6, _ => decide +kernel
  | 7, _ => decide +kernel
  | 8, _ => decide +kernel
  | 9, _ => decide +kernel
  | 10, _ => decide +kernel
  | 11, _ => decide +kernel
/-- the two ledgers -/
def v_isG (g : Nat) : Prop := g = 6 ∨ g = 15
theorem v_LG {g : Nat} (h : v_isG g) : g < 175 ∧ v_LAY g = (0, 1, 0) ∧ (v_LAY (g + 1) = (1, 0, 400) ∧ v_LAY (g + 2) = (1, 0, 400) ∧ v_LAY (g + 3) = (1, 0, 6) ∧ v_LAY (g + 4) = (1, 0, 600) ∧ v_LAY (g + 5) = (1, 0, 6) ∧ v_LAY (g + 6) = (1, 0, 72) ∧ v_LAY (g + 7) = (1, 0, 100) ∧ v_LAY (g + 8) = (1, 0, 4)) ∧ g + 1 < 175 ∧ g + 2 < 175 ∧ g + 3 < 175 ∧ g + 4 < 175 ∧ g + 5 < 175 ∧ g + 6 < 175 ∧ g + 7 < 175 ∧ g + 8 < 175 := by
  rcases h with rfl | rfl <;> decide +kernel
/-- a row of a type, of some length -/
def v_isA (t c : Nat) : Prop := c < 175 ∧ v_LAY c = (1, t, (v_LAY c).2.2)
theorem v_isA_of {t c len : Nat} (h1 : c < 175) (h2 : v_LAY c = (1, t, len)) : v_isA t c := ⟨h1, by rw [h2]⟩
def v_isS (x : Nat) : Prop := ∃ i, i < v_nS ∧ x = 1000 + i
section VWT
variable {R : Nat → Nat → Nat}
theorem v_fin {c j k : Nat} (h : v_WT R) (i : Nat) (hi : v_FIN[i]? = some (c, j, k)) : R c j = k + 1 := h.1 (c, j, k) (List.mem_of_getElem? hi)
theorem v_finD {c j k : Nat} (h : v_WT R) (hi : (c, j, k) ∈ v_FIN) : R c j = k + 1 := h.1 (c, j, k) hi
theorem v_finW {w : Nat} (h : v_WT R) (hw : v_isW w) : R w 4 = (w + 7) + 1 ∧ R w 5 = (w + 8) + 1 := by
  obtain ⟨i, hi, rfl⟩ := hw
  match i, hi with
  | 0, _ => exact ⟨v_finD h (by decide +kernel), v_finD h (by decide +kernel)⟩
  | 1, _ => exact ⟨v_finD h (by decide +kernel), v_finD h (by decide +kernel)⟩
  | 2, _ => exact ⟨v_finD h (by decide +kernel), v_finD h (by decide +kernel)⟩
  | 3, _ => exact ⟨v_finD h (by decide +kernel), v_finD h (by decide +kernel)⟩
  | 4, _ => exact ⟨v_finD h (by decide +kernel), v_finD h (by decide +kernel)⟩
  | 5, _ => exact ⟨v_finD h (by decide +kernel), v_finD h (by decide +kernel)⟩
theorem v_finP {w : Nat} (h : v_WT R) (hw : v_isP w) : R w 7 = (w + 1) + 1 ∧ R w 8 = (w + 2) + 1 ∧ R w 9 = (w + 3) + 1 ∧ R w 10 = (w + 4) + 1 ∧ R w 11 = (w + 5) + 1 := by
  obtain ⟨i, hi, rfl⟩ := hw
  have k : ((List.range 12).all fun i => (List.range 5).all fun j => decide ((v_plan i, 7 + j, v_plan i + (1 + j)) ∈ v_FIN)) = true := by decide +kernel
  have k0 : ∀ j, j < 5 → (v_plan i, 7 + j, v_plan i + (1 + j)) ∈ v_FIN := fun j hj => of_decide_eq_true (List.all_eq_true.mp (List.all_eq_true.mp k i (List.mem_range.mpr hi)) j (List.mem_range.mpr hj))
  have k1 := k0 0 (by decide)
  have k2 := k0 1 (by decide)
  have k3 := k0 2 (by decide)
  have k4 := k0 3 (by decide)
  have k5 := k0 4 (by decide)
  exact ⟨v_finD h k1, v_finD h k2, v_finD h k3, v_finD h k4, v_finD h k5⟩
theorem v_finG {g : Nat} (h : v_WT R) (hg : v_isG g) : R g 1 = (g + 1) + 1 ∧ R g 2 = (g + 2) + 1 ∧ R g 3 = (g + 3) + 1 ∧ R g 4 = (g + 4) + 1 ∧ R g 5 = (g + 5) + 1 ∧ R g 6 = (g + 6) + 1 ∧ R g 7 = (g + 7) + 1 ∧ R g 8 = (g + 8) + 1 := by
  rcases hg with rfl | rfl <;> exact ⟨v_finD h (by decide +kernel), v_finD h (by decide +kernel), v_finD h (by decide +kernel), v_finD h (by decide +kernel), v_finD h (by decide +kernel), v_finD h (by decide +kernel), v_finD h (by decide +kernel), v_finD h (by decide +kernel)⟩
theorem v_in_lt {i : Int32} {len : Nat} (h : v_in i len = true) : i.toNatClampNeg < len := Nat.not_le.mp (fun q => v_in_vp h (Or.inr q))
/-- works[i] -/
theorem v_wrk {i : Int32} (h : v_WT R) (hi : v_in i 6 = true) : R 5 i.toNatClampNeg = (46 + 15 * i.toNatClampNeg) + 1 := by
  have h1 := v_in_lt hi
  generalize i.toNatClampNeg = j at h1
  match j, h1 with
  | 0, _ => exact v_finD h (by decide +kernel)
  | 1, _ => exact v_finD h (by decide +kernel)
  | 2, _ => exact v_finD h (by decide +kernel)
  | 3, _ => exact v_finD h (by decide +kernel)
  | 4, _ => exact v_finD h (by decide +kernel)
  | 5, _ => exact v_finD h (by decide +kernel)
theorem v_wrkW {i : Int32} (hi : v_in i 6 = true) : v_isW (46 + 15 * i.toNatClampNeg) := ⟨_, v_in_lt hi, rfl⟩
/-- the reference's three words -/
theorem v_knd {i : Int32} (h : v_WT R) (hi : v_in i 3 = true) : R 131 i.toNatClampNeg = (1000 + i.toNatClampNeg) + 1 := by
  have h1 := v_in_lt hi
  generalize i.toNatClampNeg = j at h1
  match j, h1 with
  | 0, _ => exact v_finD h (by decide +kernel)
  | 1, _ => exact v_finD h (by decide +kernel)
  | 2, _ => exact v_finD h (by decide +kernel)
theorem v_kndS {i : Int32} (hi : v_in i 3 = true) : v_isS (1000 + i.toNatClampNeg) := ⟨_, Nat.lt_of_lt_of_le (v_in_lt hi) (by decide), rfl⟩
theorem v_spr {i : Int32} (h : v_WT R) (hi : v_in i 6 = true) : R 4 i.toNatClampNeg = (R 4 i.toNatClampNeg - 1) + 1 := by
  obtain ⟨x, hx, -⟩ := h.2.1 _ (v_in_lt hi)
  omega
theorem v_sprP {i : Int32} (h : v_WT R) (hi : v_in i 6 = true) : v_isP (R 4 i.toNatClampNeg - 1) := by
  obtain ⟨x, hx, hp⟩ := h.2.1 _ (v_in_lt hi)
  rw [hx]
  exact hp
theorem v_pln {w : Nat} (h : v_WT R) (hw : v_isW w) : R w 0 = (R w 0 - 1) + 1 := by
  obtain ⟨x, hx, -⟩ := h.2.2 w hw
  omega
theorem v_plnP {w : Nat} (h : v_WT R) (hw : v_isW w) : v_isP (R w 0 - 1) := by
  obtain ⟨x, hx, hp⟩ := h.2.2 w hw
  rw [hx]
  exact hp
end VWT
