/-! for the constructors: writes that are known to be in range, Arrays.fill -/
def v_fl (M : vM) (c k : Nat) (x : Int32) : vM := (fun c' j => if c' = c ∧ j < k then x else M.1 c' j, M.2)
theorem v_fl_0 {M : vM} {c : Nat} {x : Int32} : v_fl M c 0 x = M := by
  refine Prod.ext ?_ rfl
  funext a b
  show (if a = c ∧ b < 0 then x else M.1 a b) = M.1 a b
  rw [if_neg (by omega)]
theorem v_fl_s {M : vM} {c k : Nat} {x : Int32} : v_si (v_fl M c k x) c k x = v_fl M c (k + 1) x := by
  refine Prod.ext ?_ rfl
  funext a b
  show (if a = c ∧ b = k then x else (if a = c ∧ b < k then x else M.1 a b)) = if a = c ∧ b < k + 1 then x else M.1 a b
  by_cases h1 : a = c ∧ b = k
  · rw [if_pos h1, if_pos (by omega)]
  · rw [if_neg h1]
    by_cases h2 : a = c ∧ b < k
    · rw [if_pos h2, if_pos (by omega)]
    · rw [if_neg h2, if_neg (by omega)]
theorem v_Zr_fl {n c k : Nat} {x : Int32} {M : vM} (h : v_Zr n M) (hc : c < n) : v_Zr n (v_fl M c k x) := by
  refine ⟨fun c' j' h9 => ?_, h.2⟩
  have h1 := h.1 c' j' h9
  refine ⟨?_, h1.2⟩
  show (if c' = c ∧ j' < k then x else M.1 c' j') = 0
  rw [if_neg (by omega)]
  exact h1.1
theorem v_in_nI {j len : Nat} (h : j < len) (hl : len < 2 ^ 31) : v_in (nI j) len = true := by
  have h0 : ¬ nI j < 0 := nI_pos (by omega)
  have h1 : (nI j).toNatClampNeg = j := nI_clamp (by omega)
  unfold v_in
  rw [h1]
  simp [h0, h]
section V30
variable {l : Launch} {D : va_G} {dA : Nat → ClassId} {S : vS} {al : Bool} {nf d kc ks pc pc' : Nat} {lv lv' : List (Nat × Value)} {st st' : List Value} {n : Nat} {M : vM} {o : Option (vR × vM)}
theorem V_icmpgeT {x y : Int32} {off : Int} {tgt : Nat} (hd : decode S.2.1 pc = .ok (.if_icmp .ge off, 3)) (ht : (pc : Int) + off = (tgt : Int)) (h : y ≤ x) (k : V l D dA S al nf d kc ks tgt lv st n M o) : V l D dA S al nf d kc ks pc lv (.int y :: .int x :: st) n M o :=
  V_true (o2 := none) h (V_icmpge hd ht (fun _ => k) (fun h9 => absurd h h9))
theorem V_icmpgeF {x y : Int32} {off : Int} {tgt : Nat} (hd : decode S.2.1 pc = .ok (.if_icmp .ge off, 3)) (ht : (pc : Int) + off = (tgt : Int)) (h : ¬ y ≤ x) (k : V l D dA S al nf d kc ks (pc + 3) lv st n M o) : V l D dA S al nf d kc ks pc lv (.int y :: .int x :: st) n M o :=
  V_false (o2 := none) h (V_icmpge hd ht (fun h9 => absurd h9 h) (fun _ => k))
theorem V_iastT {c len j : Nat} {i x : Int32} (hd : decode S.2.1 pc = .ok (.iastore, 1)) (hL : v_LAY c = (1, 0, len)) (hc : c < n) (hin : v_in i len = true) (hj : i.toNatClampNeg = j)
    (kk : V l D dA S al nf d kc ks (pc + 1) lv st n (v_si M c j x) o) : V l D dA S al nf d kc ks pc lv (.int x :: .int i :: .ref c :: st) n M o := by
  subst hj
  have h := V_iast (x := x) hd hL hc (fun _ => kk)
  rw [if_pos hin] at h
  exact h
theorem V_aastT {c t len k cls j : Nat} {i : Int32} {q : vw_C} (hd : decode S.2.1 pc = .ok (.aastore, 1)) (hL : v_LAY c = (1, t, len)) (hc : c < n) (ht : 4 ≤ t ∧ t < 7) (hT : v_ty t = .object q.1) (hk : k < n) (hLk : v_LAY k = (0, cls, 0)) (hq : vwCl[cls]? = some q) (hin : v_in i len = true) (hj : i.toNatClampNeg = j)
    (kk : V l D dA S al nf d kc ks (pc + 1) lv st n (v_sr M c j (k + 1)) o) : V l D dA S al nf d kc ks pc lv (.ref k :: .int i :: .ref c :: st) n M o := by
  subst hj
  have h := V_aast hd hL hc ht hT hk hLk hq (fun _ => kk)
  rw [if_pos hin] at h
  exact h
/-- a string constant into a row of strings -/
theorem V_aastS {c len j sid : Nat} {i : Int32} (hd : decode S.2.1 pc = .ok (.aastore, 1)) (hL : v_LAY c = (1, 6, len)) (hc : c < n) (hs : sid < v_nS) (hin : v_in i len = true) (hj : i.toNatClampNeg = j)
    (kk : V l D dA S al nf d kc ks (pc + 1) lv st n (v_sr M c j (1000 + sid + 1)) o) : V l D dA S al nf d kc ks pc lv (.ref (1000 + sid) :: .int i :: .ref c :: st) n M o := by
  subst hj
  intro r M' ho
  refine ⟨(kk r M' ho).1, ?_⟩
  intro ad p e R s m args below meth cd H locs cells slots Q A ls C Wd Zr h3 h4 hl Rt
  have he := v_wl_get (dA := dA) (ad := ad) (M := M) hc
  rw [v_arr hL, v_arr4 (by decide)] at he
  have hty := v_tys_get (dA := dA) (t := 6) (by decide)
  have hany : va_Any "java/lang/String" s H (ad (1000 + sid)) := by
    obtain ⟨cell, h1, h2, h3'⟩ := vk_recv (adK := fun i => ad (1000 + i)) (i := sid) Wd.2.2.2.2.2.2.2.1 hs Wd.2.2.2.1
    obtain ⟨kC, hkC, -⟩ := Vm.findClass_spec h3'
    refine ⟨cell, h1, h2, ⟨kC, hkC⟩, fun comp h9 => ?_⟩
    rw [h3'] at h9
    cases Option.some.inj h9
    exact va_asg _ _
  refine va_astqM C.1 C.2.1 Wd.2.1 Wd.1 Wd.2.2.1 Wd.2.2.2.1 c 6 he hty hany (v_in_vp hin) hd (fun H1 locs1 p1 d1 s1 => ?_)
  rw [v_wl_set (M := M) (M' := v_sr M c i.toNatClampNeg (1000 + sid + 1)) (by rw [v_arr hL, v_arr4 (by decide), v_upr]) (fun i hi => v_ce_congr rfl rfl (v_sr_o hi))] at p1 d1
  exact (kk r M' ho).2 ad p e R s m args below meth cd H1 locs1 cells slots Q A ls C ⟨p1, Wd.2.1, d1, s1, Wd.2.2.2.2.1, Wd.2.2.2.2.2⟩ (fun h => v_Zr_sr (Zr h) hc (Or.inr (by omega))) h3 h4 hl Rt
/-- a static call that makes no cells, in a constructor -/
theorem V_callSA {S' : vS} {d' idx np : Nat} {av stk st0 : List Value} {M1 : vM} (hdg : decode S.2.1 pc = .ok (.invokestatic idx, 3)) (hlk : vLkS S.1.cls idx S' np) (hh' : S'.2.2.2.2 = []) (hCt : Ct l D dA S' true n d' 0 0 n av M (rV M1)) (hnp : av.length = np) (hstk : av.reverse ++ st0 = stk) (hd' : d' + 1 ≤ d) (hmx : S'.2.2.1 ≤ 45) (hcat : (st0.map fun v => v.category).sum ≤ 8) (hh : S.2.2.2.2 = []) (hZ : v_Zr n M → v_Zr n M1) (hst : st0.all (v_cl n) = true) (hlv : lv.all (fun q => v_cl n q.2) = true)
    (kk : V l D dA S true nf d kc ks (pc + 3) lv st0 n M1 o) : V l D dA S true nf d kc ks pc lv stk n M o := by
  have e0 : vG (rV M1) (fun v _ => match v with
    | none => o
    | _ => none) = o := rfl
  rw [← e0]
  refine V_callG (al' := true) (nf' := n) (mc' := 0) (ms' := 0) (kc' := kc) (ks' := ks) (st0 := st0) (fun C Wd hl hf h1 h2 => ⟨_, v_runS C Wd hl hlk hh' hCt hf hnp hstk hd' hmx hcat hdg h1 h2⟩) (Or.inl hh) (Or.inr ⟨rfl, rfl, Nat.le_refl _, ?_, ?_, hst, hlv⟩) (fun h => by cases h) (by omega) (by omega) ?_ (fun h => by cases h) (fun r1 M2 hf h => by cases h) ?_
  · intro k M2 h
    cases h
  · intro v M2 h hz
    cases h
    exact hZ hz
  · rintro ⟨k, M2, h⟩
    cases h
  · intro v M2 h hI
    cases h
    exact kk
end V30
section V31
variable {l : Launch} {D : va_G} {dA : Nat → ClassId} {n kc ks : Nat}
theorem cF_loop {c len : Nat} {x : Int32} (hc : c < n) (hL : v_LAY c = (1, 0, len)) (hlen : len < 2 ^ 31) {M : vM} : ∀ (q k : Nat), k + q = len → V l D dA sJ7_fill_53178 true n 1 kc ks 5 [(2, .int (nI k)), (3, .int (nI len)), (0, .ref c), (1, .int x)] [] n (v_fl M c k x) (rV (v_fl M c len x)) := by
  intro q
  induction q with
  | zero =>
    intro k hk
    have e : k = len := by omega
    subst e
    refine V_iload_n (k := 0) dJ7_fill_53178_5 rfl rfl ?_
    refine V_iload_n (k := 1) dJ7_fill_53178_6 rfl rfl ?_
    refine V_icmpgeT (tgt := 20) dJ7_fill_53178_7 (by decide) ((nI_leI (by omega) (by omega)).mpr (Nat.le_refl _)) ?_
    exact V_ret (fun h => by cases h) (Or.inl ⟨rfl, rfl⟩) dJ7_fill_53178_20 (fun ty x h1 h2 => by cases h1) rfl
  | succ q ih =>
    intro k hk
    have hnl : ¬ nI len ≤ nI k := by
      intro h
      have := (nI_leI (by omega) (by omega)).mp h
      omega
    refine V_iload_n (k := 0) dJ7_fill_53178_5 rfl rfl ?_
    refine V_iload_n (k := 1) dJ7_fill_53178_6 rfl rfl ?_
    refine V_icmpgeF (tgt := 20) dJ7_fill_53178_7 (by decide) hnl ?_
    refine V_aload_n (k := 2) dJ7_fill_53178_10 rfl rfl ?_
    refine V_iload_n (k := 0) dJ7_fill_53178_11 rfl rfl ?_
    refine V_iload_n (k := 3) dJ7_fill_53178_12 rfl rfl ?_
    refine V_iastT (j := k) dJ7_fill_53178_13 hL hc (v_in_nI (by omega) hlen) (nI_clamp (by omega)) ?_
    refine V_iinc (k := 0) (v := nI (k + 1)) (lv' := [(2, .int (nI (k + 1))), (3, .int (nI len)), (0, .ref c), (1, .int x)]) dJ7_fill_53178_14 rfl (nI_1 k) (by decide) rfl ?_
    refine V_goto (tgt := 5) dJ7_fill_53178_17 (by decide) ?_
    rw [v_fl_s]
    exact ih (k + 1) (by omega)
theorem cF_ok {c len : Nat} {x : Int32} {M : vM} (hc : c < n) (hL : v_LAY c = (1, 0, len)) (hlen : len < 2 ^ 31) (z : v_Zr n M) : Ct l D dA sJ7_fill_53178 true n 1 0 0 n [.ref c, .int x] M (rV (v_fl M c len x)) := by
  refine Ct_of (lv := [(0, .ref c), (1, .int x)]) (by decide +kernel) rfl (Nat.le_of_ble_eq_true rfl) rfl (fun _ => z) ?_
  refine V_iconst (v := 0) dJ7_fill_53178_0 rfl ?_
  refine V_istore_n (lv' := [(2, .int 0), (0, .ref c), (1, .int x)]) dJ7_fill_53178_1 rfl (by decide) rfl ?_
  refine V_aload_n (k := 1) dJ7_fill_53178_2 rfl rfl ?_
  refine V_alen dJ7_fill_53178_3 hL hc (by decide) ?_
  refine V_istore_n (lv' := [(3, .int (nI len)), (2, .int 0), (0, .ref c), (1, .int x)]) dJ7_fill_53178_4 rfl (by decide) rfl ?_
  refine V_sub [1, 0, 2, 3] (lv' := [(2, .int (nI 0)), (3, .int (nI len)), (0, .ref c), (1, .int x)]) rfl ?_
  have h := cF_loop (l := l) (D := D) (dA := dA) (kc := 0) (ks := 0) (x := x) hc hL hlen (M := M) len 0 (by omega)
  rw [v_fl_0] at h
  exact h
end V31
