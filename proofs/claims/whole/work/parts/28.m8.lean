def fX11_walk_24 (self : vM → Int32 → Int32 → Int32 → Int32 → Option (vR × vM)) : Nat → vM → Int32 → Int32 → Int32 → Int32 → Int32 → Option (vR × vM)
  | 0, _, _, _, _, _, _ => none
  | n9 + 1, M, x1, x2, x3, x4, x5 => if v_in x1 12 = true then if (M.1 136 (Int32.toNatClampNeg x1)) ≤ x5 then rV M else if v_in ((20 * x1) + x5) 240 = true then if (M.1 139 (Int32.toNatClampNeg ((20 * x1) + x5))) = x2 then if v_in ((20 * x1) + x5) 240 = true then if v_in ((20 * x1) + x5) 240 = true then bv (self M x1 (M.1 140 (Int32.toNatClampNeg ((20 * x1) + x5))) (x3 + (M.1 141 (Int32.toNatClampNeg ((20 * x1) + x5)))) (x4 ||| (1 <<< (x5 &&& (31 : Int32))))) fun M15 => fX11_walk_24 self n9 M15 x1 x2 x3 x4 (x5 + 1) else none else none else fX11_walk_24 self n9 M x1 x2 x3 x4 (x5 + 1) else none else none
set_option maxRecDepth 20000 in
set_option maxHeartbeats 2000000 in
theorem vX11_walk_24 {l : Launch} {D : va_G} {dA : Nat → ClassId} {dd : Nat} {self : vM → Int32 → Int32 → Int32 → Int32 → Option (vR × vM)} (hself : ∀ (M : vM) (x1 : Int32) (x2 : Int32) (x3 : Int32) (x4 : Int32), v_WT M.2.2 → Ct l D dA sX11_walk false 175 (2 + dd) 0 0 175 [.ref 130, .int x1, .int x2, .int x3, .int x4] M (self M x1 x2 x3 x4)) : ∀ (n9 : Nat) (M : vM) (x1 : Int32) (x2 : Int32) (x3 : Int32) (x4 : Int32) (x5 : Int32), v_WT M.2.2 → V l D dA sX11_walk false 175 (2 + dd + 1) 0 0 24 [(0, .ref 130), (1, .int x1), (2, .int x2), (3, .int x3), (4, .int x4), (5, .int x5)] [] 175 M (fX11_walk_24 self n9 M x1 x2 x3 x4 x5) := by
  intro n9
  induction n9 with
  | zero => intros; exact V_none
  | succ n9 ih =>
    intro M x1 x2 x3 x4 x5 hI
    refine V_iload (k := 5) dX11_walk_24 rfl ?_
    refine V_aload_n (k := 0) dX11_walk_26 rfl rfl ?_
    refine V_getr (k := 136) dX11_walk_27 rfl (by decide) vf_X11_34 (by decide) (v_fin hI 123 rfl) ?_
    refine V_iload_n (k := 1) dX11_walk_30 rfl rfl ?_
    refine V_iald dX11_walk_31 rfl (by decide) (fun h9 => ?_)
    refine V_icmpge (tgt := 95) dX11_walk_32 (by decide) (fun h10 => ?_) (fun h10 => ?_)
    · exact V_ret (fun _ => hI) (Or.inl ⟨rfl, rfl⟩) dX11_walk_95 (fun ty x h1 h2 => by cases h1) rfl
    · refine V_aload_n (k := 0) dX11_walk_35 rfl rfl ?_
      refine V_getr (k := 139) dX11_walk_36 rfl (by decide) vf_X11_43 (by decide) (v_fin hI 126 rfl) ?_
      refine V_bipush (v := 20) dX11_walk_39 rfl ?_
      refine V_iload_n (k := 1) dX11_walk_41 rfl rfl ?_
      refine V_imul dX11_walk_42 ?_
      refine V_iload (k := 5) dX11_walk_43 rfl ?_
      refine V_iadd dX11_walk_45 ?_
      refine V_iald dX11_walk_46 rfl (by decide) (fun h11 => ?_)
      refine V_iload_n (k := 2) dX11_walk_47 rfl rfl ?_
      refine V_icmpne (tgt := 89) dX11_walk_48 (by decide) (fun h12 => ?_) (fun h12 => ?_)
      · refine V_iinc (k := 5) (v := x5 + 1) (lv' := [(5, .int (x5 + 1)), (0, .ref 130), (1, .int x1), (2, .int x2), (3, .int x3), (4, .int x4)]) dX11_walk_89 rfl rfl (by decide) rfl ?_
        refine V_goto (tgt := 24) dX11_walk_92 (by decide) ?_
        refine V_sub [1, 2, 3, 4, 5, 0] rfl ?_
        exact ih M x1 x2 x3 x4 (x5 + 1) hI
      · refine V_aload_n (k := 0) dX11_walk_51 rfl rfl ?_
        refine V_iload_n (k := 1) dX11_walk_52 rfl rfl ?_
        refine V_aload_n (k := 0) dX11_walk_53 rfl rfl ?_
        refine V_getr (k := 140) dX11_walk_54 rfl (by decide) vf_X11_46 (by decide) (v_fin hI 127 rfl) ?_
        refine V_bipush (v := 20) dX11_walk_57 rfl ?_
        refine V_iload_n (k := 1) dX11_walk_59 rfl rfl ?_
        refine V_imul dX11_walk_60 ?_
        refine V_iload (k := 5) dX11_walk_61 rfl ?_
        refine V_iadd dX11_walk_63 ?_
        refine V_iald dX11_walk_64 rfl (by decide) (fun h13 => ?_)
        refine V_iload_n (k := 3) dX11_walk_65 rfl rfl ?_
        refine V_aload_n (k := 0) dX11_walk_66 rfl rfl ?_
        refine V_getr (k := 141) dX11_walk_67 rfl (by decide) vf_X11_49 (by decide) (v_fin hI 128 rfl) ?_
        refine V_bipush (v := 20) dX11_walk_70 rfl ?_
        refine V_iload_n (k := 1) dX11_walk_72 rfl rfl ?_
        refine V_imul dX11_walk_73 ?_
        refine V_iload (k := 5) dX11_walk_74 rfl ?_
        refine V_iadd dX11_walk_76 ?_
        refine V_iald dX11_walk_77 rfl (by decide) (fun h14 => ?_)
        refine V_iadd dX11_walk_78 ?_
        refine V_iload (k := 4) dX11_walk_79 rfl ?_
        refine V_iconst (v := 1) dX11_walk_81 rfl ?_
        refine V_iload (k := 5) dX11_walk_82 rfl ?_
        refine V_ishl dX11_walk_84 ?_
        refine V_ior dX11_walk_85 ?_
        refine V_callVv (q := (RX11, TX11, 61)) (cls := 11) (st0 := []) (kc' := 0) (ks' := 0) dX11_walk_86 lk_X11_303 rfl (by decide) rfl rfl rfl (hself M x1 (M.1 140 (Int32.toNatClampNeg ((20 * x1) + x5))) (x3 + (M.1 141 (Int32.toNatClampNeg ((20 * x1) + x5)))) (x4 ||| (1 <<< (x5 &&& (31 : Int32)))) hI) rfl rfl (by omega) (by decide) (Nat.le_of_ble_eq_true rfl) (Or.inl rfl) rfl rfl (by decide) (by decide) (fun  M15 e16 hI17 => ?_)
        refine V_iinc (k := 5) (v := x5 + 1) (lv' := [(5, .int (x5 + 1)), (0, .ref 130), (1, .int x1), (2, .int x2), (3, .int x3), (4, .int x4)]) dX11_walk_89 rfl rfl (by decide) rfl ?_
        refine V_goto (tgt := 24) dX11_walk_92 (by decide) ?_
        refine V_sub [1, 2, 3, 4, 5, 0] rfl ?_
        exact ih M15 x1 x2 x3 x4 (x5 + 1) hI17
def fX11_walk_b (self : vM → Int32 → Int32 → Int32 → Int32 → Option (vR × vM)) (M : vM) (x1 : Int32) (x2 : Int32) (x3 : Int32) (x4 : Int32) : Option (vR × vM) := if v_in x1 12 = true then if x2 = ((M.1 133 (Int32.toNatClampNeg x1)) - 1) then bv (fX11_addWay M x1 x3 x4) fun M20 => rV M20 else fX11_walk_24 self FU M x1 x2 x3 x4 0 else none
def fX11_walk_r : Nat → vM → Int32 → Int32 → Int32 → Int32 → Option (vR × vM)
  | 0, _, _, _, _, _ => none
  | d9 + 1, M, x1, x2, x3, x4 => fX11_walk_b (fX11_walk_r d9) M x1 x2 x3 x4
def fX11_walk (M : vM) (x1 : Int32) (x2 : Int32) (x3 : Int32) (x4 : Int32) : Option (vR × vM) := fX11_walk_r 14 M x1 x2 x3 x4
set_option maxRecDepth 20000 in
set_option maxHeartbeats 2000000 in
theorem cX11_walk_b {l : Launch} {D : va_G} {dA : Nat → ClassId} {dd : Nat} {self : vM → Int32 → Int32 → Int32 → Int32 → Option (vR × vM)} (hself : ∀ (M : vM) (x1 : Int32) (x2 : Int32) (x3 : Int32) (x4 : Int32), v_WT M.2.2 → Ct l D dA sX11_walk false 175 (2 + dd) 0 0 175 [.ref 130, .int x1, .int x2, .int x3, .int x4] M (self M x1 x2 x3 x4)) (M : vM) (x1 : Int32) (x2 : Int32) (x3 : Int32) (x4 : Int32) (hI : v_WT M.2.2) : Ct l D dA sX11_walk false 175 (2 + dd + 1) 0 0 175 [.ref 130, .int x1, .int x2, .int x3, .int x4] M (fX11_walk_b self M x1 x2 x3 x4) := by
  refine Ct_of (lv := [(0, .ref 130), (1, .int x1), (2, .int x2), (3, .int x3), (4, .int x4)]) (by decide +kernel) rfl (Nat.le_of_ble_eq_true rfl) rfl (fun h => by cases h) ?_
  refine V_iload_n (k := 2) dX11_walk_0 rfl rfl ?_
  refine V_aload_n (k := 0) dX11_walk_1 rfl rfl ?_
  refine V_getr (k := 133) dX11_walk_2 rfl (by decide) vf_X11_25 (by decide) (v_fin hI 120 rfl) ?_
  refine V_iload_n (k := 1) dX11_walk_5 rfl rfl ?_
  refine V_iald dX11_walk_6 rfl (by decide) (fun h18 => ?_)
  refine V_iconst (v := 1) dX11_walk_7 rfl ?_
  refine V_isub dX11_walk_8 ?_
  refine V_icmpne (tgt := 21) dX11_walk_9 (by decide) (fun h19 => ?_) (fun h19 => ?_)
  · refine V_iconst (v := 0) dX11_walk_21 rfl ?_
    refine V_istore (lv' := [(5, .int 0), (0, .ref 130), (1, .int x1), (2, .int x2), (3, .int x3), (4, .int x4)]) dX11_walk_22 (by decide) rfl ?_
    refine V_sub [1, 2, 3, 4, 5, 0] rfl ?_
    exact vX11_walk_24 hself FU M x1 x2 x3 x4 0 hI
  · refine V_aload_n (k := 0) dX11_walk_12 rfl rfl ?_
    refine V_iload_n (k := 1) dX11_walk_13 rfl rfl ?_
    refine V_iload_n (k := 3) dX11_walk_14 rfl rfl ?_
    refine V_iload (k := 4) dX11_walk_15 rfl ?_
    refine V_callVv (q := (RX11, TX11, 61)) (cls := 11) (st0 := []) (kc' := 0) (ks' := 0) dX11_walk_17 lk_X11_320 rfl (by decide) rfl rfl rfl (cX11_addWay_ok M x1 x3 x4 hI) rfl rfl (by omega) (by decide) (Nat.le_of_ble_eq_true rfl) (Or.inl rfl) rfl rfl (by decide) (by decide) (fun  M20 e21 hI22 => ?_)
    exact V_ret (fun _ => hI22) (Or.inl ⟨rfl, rfl⟩) dX11_walk_20 (fun ty x h1 h2 => by cases h1) rfl
theorem cX11_walk_r {l : Launch} {D : va_G} {dA : Nat → ClassId} : ∀ (d9 : Nat) (M : vM) (x1 : Int32) (x2 : Int32) (x3 : Int32) (x4 : Int32), v_WT M.2.2 → Ct l D dA sX11_walk false 175 (2 + d9) 0 0 175 [.ref 130, .int x1, .int x2, .int x3, .int x4] M (fX11_walk_r d9 M x1 x2 x3 x4) := by
  intro d9
  induction d9 with
  | zero => intros; intro r M9 h; cases h
  | succ d9 ih => exact fun M x1 x2 x3 x4 hI => cX11_walk_b (dd := d9) ih M x1 x2 x3 x4 hI
theorem cX11_walk_ok {l : Launch} {D : va_G} {dA : Nat → ClassId} (M : vM) (x1 : Int32) (x2 : Int32) (x3 : Int32) (x4 : Int32) (hI : v_WT M.2.2) : Ct l D dA sX11_walk false 175 16 0 0 175 [.ref 130, .int x1, .int x2, .int x3, .int x4] M (fX11_walk M x1 x2 x3 x4) := cX11_walk_r 14 M x1 x2 x3 x4 hI
def fX11_take_302 (k338 : vM → Int32 → Option (vR × vM)) : Nat → vM → Int32 → Int32 → Option (vR × vM)
  | 0, _, _, _ => none
  | n9 + 1, M, x1, x3 => if v_in x1 12 = true then if (1 <<< ((M.1 136 (Int32.toNatClampNeg x1)) &&& (31 : Int32))) ≤ x3 then k338 M x1 else bv (fX11_choose M x1 x3) fun M40 => fX11_take_302 k338 n9 M40 x1 (x3 + 1) else none
set_option maxRecDepth 20000 in
set_option maxHeartbeats 2000000 in
theorem vX11_take_302 {l : Launch} {D : va_G} {dA : Nat → ClassId} {k338 : vM → Int32 → Option (vR × vM)} (hk338 : ∀ (M : vM) (x1 : Int32), v_WT M.2.2 → V l D dA sX11_take false 175 17 0 0 338 [(0, .ref 130), (1, .int x1)] [] 175 M (k338 M x1)) : ∀ (n9 : Nat) (M : vM) (x1 : Int32) (x3 : Int32), v_WT M.2.2 → V l D dA sX11_take false 175 17 0 0 302 [(0, .ref 130), (1, .int x1), (3, .int x3)] [] 175 M (fX11_take_302 k338 n9 M x1 x3) := by
  intro n9
  induction n9 with
  | zero => intros; exact V_none
  | succ n9 ih =>
    intro M x1 x3 hI
    refine V_iload_n (k := 2) dX11_take_302 rfl rfl ?_
    refine V_iconst (v := 1) dX11_take_303 rfl ?_
    refine V_aload_n (k := 0) dX11_take_304 rfl rfl ?_
    refine V_getr (k := 136) dX11_take_305 rfl (by decide) vf_X11_34 (by decide) (v_fin hI 123 rfl) ?_
    refine V_iload_n (k := 1) dX11_take_308 rfl rfl ?_
    refine V_iald dX11_take_309 rfl (by decide) (fun h38 => ?_)
    refine V_ishl dX11_take_310 ?_
    refine V_icmpge (tgt := 326) dX11_take_311 (by decide) (fun h39 => ?_) (fun h39 => ?_)
    · refine V_goto (tgt := 338) dX11_take_326 (by decide) ?_
      refine V_sub [0, 1] rfl ?_
      exact hk338 M x1 hI
    · refine V_aload_n (k := 0) dX11_take_314 rfl rfl ?_
      refine V_iload_n (k := 1) dX11_take_315 rfl rfl ?_
      refine V_iload_n (k := 2) dX11_take_316 rfl rfl ?_
      refine V_callVv (q := (RX11, TX11, 61)) (cls := 11) (st0 := []) (kc' := 0) (ks' := 0) dX11_take_317 lk_X11_307 rfl (by decide) rfl rfl rfl (cX11_choose_ok M x1 x3 hI) rfl rfl (by decide) (by decide) (Nat.le_of_ble_eq_true rfl) (Or.inl rfl) rfl rfl (by decide) (by decide) (fun  M40 e41 hI42 => ?_)
      refine V_iinc (k := 2) (v := x3 + 1) (lv' := [(3, .int (x3 + 1)), (0, .ref 130), (1, .int x1)]) dX11_take_320 rfl rfl (by decide) rfl ?_
      refine V_goto (tgt := 302) dX11_take_323 (by decide) ?_
      refine V_sub [1, 2, 0] rfl ?_
      exact ih M40 x1 (x3 + 1) hI42
def fX11_take_338 (M : vM) (x1 : Int32) : Option (vR × vM) := bv (fX11_sort M x1) fun M43 => bv (fX11_tellSpent M43 x1) fun M46 => rV M46
set_option maxRecDepth 20000 in
set_option maxHeartbeats 2000000 in
theorem vX11_take_338 {l : Launch} {D : va_G} {dA : Nat → ClassId} : ∀ (M : vM) (x1 : Int32), v_WT M.2.2 → V l D dA sX11_take false 175 17 0 0 338 [(0, .ref 130), (1, .int x1)] [] 175 M (fX11_take_338 M x1) := by
  intro M x1 hI
  refine V_aload_n (k := 0) dX11_take_338 rfl rfl ?_
  refine V_iload_n (k := 1) dX11_take_339 rfl rfl ?_
  refine V_callVv (q := (RX11, TX11, 61)) (cls := 11) (st0 := []) (kc' := 0) (ks' := 0) dX11_take_340 lk_X11_314 rfl (by decide) rfl rfl rfl (cX11_sort_ok M x1 hI) rfl rfl (by decide) (by decide) (Nat.le_of_ble_eq_true rfl) (Or.inl rfl) rfl rfl (by decide) (by decide) (fun  M43 e44 hI45 => ?_)
  refine V_aload_n (k := 0) dX11_take_343 rfl rfl ?_
  refine V_iload_n (k := 1) dX11_take_344 rfl rfl ?_
  refine V_callVv (q := (RX11, TX11, 61)) (cls := 11) (st0 := []) (kc' := 0) (ks' := 0) dX11_take_345 lk_X11_317 rfl (by decide) rfl rfl rfl (cX11_tellSpent_ok M43 x1 hI45) rfl rfl (by decide) (by decide) (Nat.le_of_ble_eq_true rfl) (Or.inl rfl) rfl rfl (by decide) (by decide) (fun  M46 e47 hI48 => ?_)
  exact V_ret (fun _ => hI48) (Or.inl ⟨rfl, rfl⟩) dX11_take_348 (fun ty x h1 h2 => by cases h1) rfl
def fX11_take_171 : Nat → vM → Int32 → Int32 → Int32 → Option (vR × vM)
  | 0, _, _, _, _ => none
  | n9 + 1, M, x1, x2, x3 => if 12 ≤ x3 then if v_in x1 6 = true then if v_in x1 6 = true then if v_in x1 6 = true then if v_in x1 12 = true then if ((v_si (v_si (v_si M 151 (Int32.toNatClampNeg x1) 0) 153 (Int32.toNatClampNeg x1) 0) 145 (Int32.toNatClampNeg x1) 0).1 132 (Int32.toNatClampNeg x1)) = 0 then bv (fX11_walk (v_si (v_si (v_si M 151 (Int32.toNatClampNeg x1) 0) 153 (Int32.toNatClampNeg x1) 0) 145 (Int32.toNatClampNeg x1) 0) x1 0 0 0) fun M60 => fX11_take_338 M60 x1 else if v_in x1 12 = true then if ((v_si (v_si (v_si M 151 (Int32.toNatClampNeg x1) 0) 153 (Int32.toNatClampNeg x1) 0) 145 (Int32.toNatClampNeg x1) 0).1 132 (Int32.toNatClampNeg x1)) = 1 then fX11_take_302 (fX11_take_338) FU (v_si (v_si (v_si M 151 (Int32.toNatClampNeg x1) 0) 153 (Int32.toNatClampNeg x1) 0) 145 (Int32.toNatClampNeg x1) 0) x1 0 else bv (fX11_arrange (v_si (v_si (v_si M 151 (Int32.toNatClampNeg x1) 0) 153 (Int32.toNatClampNeg x1) 0) 145 (Int32.toNatClampNeg x1) 0) x1 0 0 0 0) fun M57 => fX11_take_338 M57 x1 else none else none else none else none else none else if v_in ((12 * x2) + x3) 144 = true then if v_in ((12 * x1) + x3) 144 = true then if v_in ((12 * x2) + x3) 144 = true then if v_in ((12 * x1) + x3) 144 = true then if v_in ((12 * x2) + x3) 144 = true then if v_in ((12 * x1) + x3) 144 = true then fX11_take_171 n9 (v_si (v_si (v_si M 142 (Int32.toNatClampNeg ((12 * x1) + x3)) (M.1 142 (Int32.toNatClampNeg ((12 * x2) + x3)))) 143 (Int32.toNatClampNeg ((12 * x1) + x3)) ((v_si M 142 (Int32.toNatClampNeg ((12 * x1) + x3)) (M.1 142 (Int32.toNatClampNeg ((12 * x2) + x3)))).1 143 (Int32.toNatClampNeg ((12 * x2) + x3)))) 144 (Int32.toNatClampNeg ((12 * x1) + x3)) ((v_si (v_si M 142 (Int32.toNatClampNeg ((12 * x1) + x3)) (M.1 142 (Int32.toNatClampNeg ((12 * x2) + x3)))) 143 (Int32.toNatClampNeg ((12 * x1) + x3)) ((v_si M 142 (Int32.toNatClampNeg ((12 * x1) + x3)) (M.1 142 (Int32.toNatClampNeg ((12 * x2) + x3)))).1 143 (Int32.toNatClampNeg ((12 * x2) + x3)))).1 144 (Int32.toNatClampNeg ((12 * x2) + x3)))) x1 x2 (x3 + 1) else none else none else none else none else none else none
set_option maxRecDepth 20000 in
set_option maxHeartbeats 2000000 in
theorem vX11_take_171 {l : Launch} {D : va_G} {dA : Nat → ClassId} : ∀ (n9 : Nat) (M : vM) (x1 : Int32) (x2 : Int32) (x3 : Int32), v_WT M.2.2 → V l D dA sX11_take false 175 17 0 0 171 [(0, .ref 130), (1, .int x1), (2, .int x2), (3, .int x3)] [] 175 M (fX11_take_171 n9 M x1 x2 x3) := by
  intro n9
  induction n9 with
  | zero => intros; exact V_none
  | succ n9 ih =>
    intro M x1 x2 x3 hI
    refine V_iload_n (k := 3) dX11_take_171 rfl rfl ?_
    refine V_bipush (v := 12) dX11_take_172 rfl ?_
    refine V_icmpge (tgt := 249) dX11_take_174 (by decide) (fun h49 => ?_) (fun h49 => ?_)
    · refine V_aload_n (k := 0) dX11_take_249 rfl rfl ?_
      refine V_getr (k := 151) dX11_take_250 rfl (by decide) vf_X11_80 (by decide) (v_fin hI 138 rfl) ?_
      refine V_iload_n (k := 1) dX11_take_253 rfl rfl ?_
      refine V_iconst (v := 0) dX11_take_254 rfl ?_
      refine V_iast dX11_take_255 rfl (by decide) (fun h50 => ?_)
      refine V_aload_n (k := 0) dX11_take_256 rfl rfl ?_
      refine V_getr (k := 153) dX11_take_257 rfl (by decide) vf_X11_86 (by decide) (v_fin hI 140 rfl) ?_
      refine V_iload_n (k := 1) dX11_take_260 rfl rfl ?_
      refine V_iconst (v := 0) dX11_take_261 rfl ?_
      refine V_iast dX11_take_262 rfl (by decide) (fun h51 => ?_)
      refine V_aload_n (k := 0) dX11_take_263 rfl rfl ?_
      refine V_getr (k := 145) dX11_take_264 rfl (by decide) vf_X11_61 (by decide) (v_fin hI 132 rfl) ?_
      refine V_iload_n (k := 1) dX11_take_267 rfl rfl ?_
      refine V_iconst (v := 0) dX11_take_268 rfl ?_
      refine V_iast dX11_take_269 rfl (by decide) (fun h52 => ?_)
      refine V_aload_n (k := 0) dX11_take_270 rfl rfl ?_
      refine V_getr (k := 132) dX11_take_271 rfl (by decide) vf_X11_21 (by decide) (v_fin hI 119 rfl) ?_
      refine V_iload_n (k := 1) dX11_take_274 rfl rfl ?_
      refine V_iald dX11_take_275 rfl (by decide) (fun h53 => ?_)
      refine V_ifne (tgt := 290) dX11_take_276 (by decide) (fun h54 => ?_) (fun h54 => ?_)
      · refine V_aload_n (k := 0) dX11_take_290 rfl rfl ?_
        refine V_getr (k := 132) dX11_take_291 rfl (by decide) vf_X11_21 (by decide) (v_fin hI 119 rfl) ?_
        refine V_iload_n (k := 1) dX11_take_294 rfl rfl ?_
        refine V_iald dX11_take_295 rfl (by decide) (fun h55 => ?_)
        refine V_iconst (v := 1) dX11_take_296 rfl ?_
        refine V_icmpne (tgt := 329) dX11_take_297 (by decide) (fun h56 => ?_) (fun h56 => ?_)
        · refine V_aload_n (k := 0) dX11_take_329 rfl rfl ?_
          refine V_iload_n (k := 1) dX11_take_330 rfl rfl ?_
          refine V_iconst (v := 0) dX11_take_331 rfl ?_
          refine V_iconst (v := 0) dX11_take_332 rfl ?_
          refine V_iconst (v := 0) dX11_take_333 rfl ?_
          refine V_iconst (v := 0) dX11_take_334 rfl ?_
          refine V_callVv (q := (RX11, TX11, 61)) (cls := 11) (st0 := []) (kc' := 0) (ks' := 0) dX11_take_335 lk_X11_310 rfl (by decide) rfl rfl rfl (cX11_arrange_ok (v_si (v_si (v_si M 151 (Int32.toNatClampNeg x1) 0) 153 (Int32.toNatClampNeg x1) 0) 145 (Int32.toNatClampNeg x1) 0) x1 0 0 0 0 hI) rfl rfl (by decide) (by decide) (Nat.le_of_ble_eq_true rfl) (Or.inl rfl) rfl rfl (by decide) (by decide) (fun  M57 e58 hI59 => ?_)
          refine V_sub [0, 1] rfl ?_
          exact vX11_take_338 M57 x1 hI59
        · refine V_iconst (v := 0) dX11_take_300 rfl ?_
          refine V_istore_n (lv' := [(3, .int 0), (0, .ref 130), (1, .int x1), (2, .int x2)]) dX11_take_301 rfl (by decide) rfl ?_
          refine V_sub [1, 2, 0] rfl ?_
          exact vX11_take_302 (vX11_take_338) FU (v_si (v_si (v_si M 151 (Int32.toNatClampNeg x1) 0) 153 (Int32.toNatClampNeg x1) 0) 145 (Int32.toNatClampNeg x1) 0) x1 0 hI
      · refine V_aload_n (k := 0) dX11_take_279 rfl rfl ?_
        refine V_iload_n (k := 1) dX11_take_280 rfl rfl ?_
        refine V_iconst (v := 0) dX11_take_281 rfl ?_
        refine V_iconst (v := 0) dX11_take_282 rfl ?_
        refine V_iconst (v := 0) dX11_take_283 rfl ?_
        refine V_callVv (q := (RX11, TX11, 61)) (cls := 11) (st0 := []) (kc' := 0) (ks' := 0) dX11_take_284 lk_X11_303 rfl (by decide) rfl rfl rfl (cX11_walk_ok (v_si (v_si (v_si M 151 (Int32.toNatClampNeg x1) 0) 153 (Int32.toNatClampNeg x1) 0) 145 (Int32.toNatClampNeg x1) 0) x1 0 0 0 hI) rfl rfl (by decide) (by decide) (Nat.le_of_ble_eq_true rfl) (Or.inl rfl) rfl rfl (by decide) (by decide) (fun  M60 e61 hI62 => ?_)
        refine V_goto (tgt := 338) dX11_take_287 (by decide) ?_
        refine V_sub [0, 1] rfl ?_
        exact vX11_take_338 M60 x1 hI62
    · refine V_aload_n (k := 0) dX11_take_177 rfl rfl ?_
      refine V_getr (k := 142) dX11_take_178 rfl (by decide) vf_X11_52 (by decide) (v_fin hI 129 rfl) ?_
      refine V_bipush (v := 12) dX11_take_181 rfl ?_
      refine V_iload_n (k := 1) dX11_take_183 rfl rfl ?_
      refine V_imul dX11_take_184 ?_
      refine V_iload_n (k := 3) dX11_take_185 rfl rfl ?_
      refine V_iadd dX11_take_186 ?_
      refine V_aload_n (k := 0) dX11_take_187 rfl rfl ?_
      refine V_getr (k := 142) dX11_take_188 rfl (by decide) vf_X11_52 (by decide) (v_fin hI 129 rfl) ?_
      refine V_bipush (v := 12) dX11_take_191 rfl ?_
      refine V_iload_n (k := 2) dX11_take_193 rfl rfl ?_
      refine V_imul dX11_take_194 ?_
      refine V_iload_n (k := 3) dX11_take_195 rfl rfl ?_
      refine V_iadd dX11_take_196 ?_
      refine V_iald dX11_take_197 rfl (by decide) (fun h63 => ?_)
      refine V_iast dX11_take_198 rfl (by decide) (fun h64 => ?_)
      refine V_aload_n (k := 0) dX11_take_199 rfl rfl ?_
      refine V_getr (k := 143) dX11_take_200 rfl (by decide) vf_X11_55 (by decide) (v_fin hI 130 rfl) ?_
      refine V_bipush (v := 12) dX11_take_203 rfl ?_
      refine V_iload_n (k := 1) dX11_take_205 rfl rfl ?_
      refine V_imul dX11_take_206 ?_
      refine V_iload_n (k := 3) dX11_take_207 rfl rfl ?_
      refine V_iadd dX11_take_208 ?_
      refine V_aload_n (k := 0) dX11_take_209 rfl rfl ?_
      refine V_getr (k := 143) dX11_take_210 rfl (by decide) vf_X11_55 (by decide) (v_fin hI 130 rfl) ?_
      refine V_bipush (v := 12) dX11_take_213 rfl ?_
      refine V_iload_n (k := 2) dX11_take_215 rfl rfl ?_
      refine V_imul dX11_take_216 ?_
      refine V_iload_n (k := 3) dX11_take_217 rfl rfl ?_
      refine V_iadd dX11_take_218 ?_
      refine V_iald dX11_take_219 rfl (by decide) (fun h65 => ?_)
      refine V_iast dX11_take_220 rfl (by decide) (fun h66 => ?_)
      refine V_aload_n (k := 0) dX11_take_221 rfl rfl ?_
      refine V_getr (k := 144) dX11_take_222 rfl (by decide) vf_X11_58 (by decide) (v_fin hI 131 rfl) ?_
      refine V_bipush (v := 12) dX11_take_225 rfl ?_
      refine V_iload_n (k := 1) dX11_take_227 rfl rfl ?_
      refine V_imul dX11_take_228 ?_
      refine V_iload_n (k := 3) dX11_take_229 rfl rfl ?_
      refine V_iadd dX11_take_230 ?_
      refine V_aload_n (k := 0) dX11_take_231 rfl rfl ?_
      refine V_getr (k := 144) dX11_take_232 rfl (by decide) vf_X11_58 (by decide) (v_fin hI 131 rfl) ?_
      refine V_bipush (v := 12) dX11_take_235 rfl ?_
      refine V_iload_n (k := 2) dX11_take_237 rfl rfl ?_
      refine V_imul dX11_take_238 ?_
      refine V_iload_n (k := 3) dX11_take_239 rfl rfl ?_
      refine V_iadd dX11_take_240 ?_
      refine V_iald dX11_take_241 rfl (by decide) (fun h67 => ?_)
      refine V_iast dX11_take_242 rfl (by decide) (fun h68 => ?_)
      refine V_iinc (k := 3) (v := x3 + 1) (lv' := [(3, .int (x3 + 1)), (0, .ref 130), (1, .int x1), (2, .int x2)]) dX11_take_243 rfl rfl (by decide) rfl ?_
      refine V_goto (tgt := 171) dX11_take_246 (by decide) ?_
      refine V_sub [1, 2, 3, 0] rfl ?_
      exact ih (v_si (v_si (v_si M 142 (Int32.toNatClampNeg ((12 * x1) + x3)) (M.1 142 (Int32.toNatClampNeg ((12 * x2) + x3)))) 143 (Int32.toNatClampNeg ((12 * x1) + x3)) ((v_si M 142 (Int32.toNatClampNeg ((12 * x1) + x3)) (M.1 142 (Int32.toNatClampNeg ((12 * x2) + x3)))).1 143 (Int32.toNatClampNeg ((12 * x2) + x3)))) 144 (Int32.toNatClampNeg ((12 * x1) + x3)) ((v_si (v_si M 142 (Int32.toNatClampNeg ((12 * x1) + x3)) (M.1 142 (Int32.toNatClampNeg ((12 * x2) + x3)))) 143 (Int32.toNatClampNeg ((12 * x1) + x3)) ((v_si M 142 (Int32.toNatClampNeg ((12 * x1) + x3)) (M.1 142 (Int32.toNatClampNeg ((12 * x2) + x3)))).1 143 (Int32.toNatClampNeg ((12 * x2) + x3)))).1 144 (Int32.toNatClampNeg ((12 * x2) + x3)))) x1 x2 (x3 + 1) hI
def fX11_take_91 : Nat → vM → Int32 → Int32 → Int32 → Option (vR × vM)
  | 0, _, _, _, _ => none
  | n9 + 1, M, x1, x2, x3 => if 20 ≤ x3 then fX11_take_171 FU M x1 x2 0 else if v_in ((20 * x2) + x3) 240 = true then if v_in ((20 * x1) + x3) 240 = true then if v_in ((20 * x2) + x3) 240 = true then if v_in ((20 * x1) + x3) 240 = true then if v_in ((20 * x2) + x3) 240 = true then if v_in ((20 * x1) + x3) 240 = true then fX11_take_91 n9 (v_si (v_si (v_si M 139 (Int32.toNatClampNeg ((20 * x1) + x3)) (M.1 139 (Int32.toNatClampNeg ((20 * x2) + x3)))) 140 (Int32.toNatClampNeg ((20 * x1) + x3)) ((v_si M 139 (Int32.toNatClampNeg ((20 * x1) + x3)) (M.1 139 (Int32.toNatClampNeg ((20 * x2) + x3)))).1 140 (Int32.toNatClampNeg ((20 * x2) + x3)))) 141 (Int32.toNatClampNeg ((20 * x1) + x3)) ((v_si (v_si M 139 (Int32.toNatClampNeg ((20 * x1) + x3)) (M.1 139 (Int32.toNatClampNeg ((20 * x2) + x3)))) 140 (Int32.toNatClampNeg ((20 * x1) + x3)) ((v_si M 139 (Int32.toNatClampNeg ((20 * x1) + x3)) (M.1 139 (Int32.toNatClampNeg ((20 * x2) + x3)))).1 140 (Int32.toNatClampNeg ((20 * x2) + x3)))).1 141 (Int32.toNatClampNeg ((20 * x2) + x3)))) x1 x2 (x3 + 1) else none else none else none else none else none else none
set_option maxRecDepth 20000 in
set_option maxHeartbeats 2000000 in
theorem vX11_take_91 {l : Launch} {D : va_G} {dA : Nat → ClassId} : ∀ (n9 : Nat) (M : vM) (x1 : Int32) (x2 : Int32) (x3 : Int32), v_WT M.2.2 → V l D dA sX11_take false 175 17 0 0 91 [(0, .ref 130), (1, .int x1), (2, .int x2), (3, .int x3)] [] 175 M (fX11_take_91 n9 M x1 x2 x3) := by
  intro n9
  induction n9 with
  | zero => intros; exact V_none
  | succ n9 ih =>
    intro M x1 x2 x3 hI
    refine V_iload_n (k := 3) dX11_take_91 rfl rfl ?_
    refine V_bipush (v := 20) dX11_take_92 rfl ?_
    refine V_icmpge (tgt := 169) dX11_take_94 (by decide) (fun h69 => ?_) (fun h69 => ?_)
    · refine V_iconst (v := 0) dX11_take_169 rfl ?_
      refine V_istore_n (lv' := [(3, .int 0), (0, .ref 130), (1, .int x1), (2, .int x2)]) dX11_take_170 rfl (by decide) rfl ?_
      refine V_sub [1, 2, 3, 0] rfl ?_
      exact vX11_take_171 FU M x1 x2 0 hI
    · refine V_aload_n (k := 0) dX11_take_97 rfl rfl ?_
      refine V_getr (k := 139) dX11_take_98 rfl (by decide) vf_X11_43 (by decide) (v_fin hI 126 rfl) ?_
      refine V_bipush (v := 20) dX11_take_101 rfl ?_
      refine V_iload_n (k := 1) dX11_take_103 rfl rfl ?_
      refine V_imul dX11_take_104 ?_
      refine V_iload_n (k := 3) dX11_take_105 rfl rfl ?_
      refine V_iadd dX11_take_106 ?_
      refine V_aload_n (k := 0) dX11_take_107 rfl rfl ?_
      refine V_getr (k := 139) dX11_take_108 rfl (by decide) vf_X11_43 (by decide) (v_fin hI 126 rfl) ?_
      refine V_bipush (v := 20) dX11_take_111 rfl ?_
      refine V_iload_n (k := 2) dX11_take_113 rfl rfl ?_
      refine V_imul dX11_take_114 ?_
      refine V_iload_n (k := 3) dX11_take_115 rfl rfl ?_
      refine V_iadd dX11_take_116 ?_
      refine V_iald dX11_take_117 rfl (by decide) (fun h70 => ?_)
      refine V_iast dX11_take_118 rfl (by decide) (fun h71 => ?_)
      refine V_aload_n (k := 0) dX11_take_119 rfl rfl ?_
      refine V_getr (k := 140) dX11_take_120 rfl (by decide) vf_X11_46 (by decide) (v_fin hI 127 rfl) ?_
      refine V_bipush (v := 20) dX11_take_123 rfl ?_
      refine V_iload_n (k := 1) dX11_take_125 rfl rfl ?_
      refine V_imul dX11_take_126 ?_
      refine V_iload_n (k := 3) dX11_take_127 rfl rfl ?_
      refine V_iadd dX11_take_128 ?_
      refine V_aload_n (k := 0) dX11_take_129 rfl rfl ?_
      refine V_getr (k := 140) dX11_take_130 rfl (by decide) vf_X11_46 (by decide) (v_fin hI 127 rfl) ?_
      refine V_bipush (v := 20) dX11_take_133 rfl ?_
      refine V_iload_n (k := 2) dX11_take_135 rfl rfl ?_
      refine V_imul dX11_take_136 ?_
      refine V_iload_n (k := 3) dX11_take_137 rfl rfl ?_
      refine V_iadd dX11_take_138 ?_
      refine V_iald dX11_take_139 rfl (by decide) (fun h72 => ?_)
      refine V_iast dX11_take_140 rfl (by decide) (fun h73 => ?_)
      refine V_aload_n (k := 0) dX11_take_141 rfl rfl ?_
      refine V_getr (k := 141) dX11_take_142 rfl (by decide) vf_X11_49 (by decide) (v_fin hI 128 rfl) ?_
      refine V_bipush (v := 20) dX11_take_145 rfl ?_
      refine V_iload_n (k := 1) dX11_take_147 rfl rfl ?_
      refine V_imul dX11_take_148 ?_
      refine V_iload_n (k := 3) dX11_take_149 rfl rfl ?_
      refine V_iadd dX11_take_150 ?_
      refine V_aload_n (k := 0) dX11_take_151 rfl rfl ?_
      refine V_getr (k := 141) dX11_take_152 rfl (by decide) vf_X11_49 (by decide) (v_fin hI 128 rfl) ?_
      refine V_bipush (v := 20) dX11_take_155 rfl ?_
      refine V_iload_n (k := 2) dX11_take_157 rfl rfl ?_
      refine V_imul dX11_take_158 ?_
      refine V_iload_n (k := 3) dX11_take_159 rfl rfl ?_
      refine V_iadd dX11_take_160 ?_
      refine V_iald dX11_take_161 rfl (by decide) (fun h74 => ?_)
      refine V_iast dX11_take_162 rfl (by decide) (fun h75 => ?_)
      refine V_iinc (k := 3) (v := x3 + 1) (lv' := [(3, .int (x3 + 1)), (0, .ref 130), (1, .int x1), (2, .int x2)]) dX11_take_163 rfl rfl (by decide) rfl ?_
      refine V_goto (tgt := 91) dX11_take_166 (by decide) ?_
      refine V_sub [1, 2, 3, 0] rfl ?_
      exact ih (v_si (v_si (v_si M 139 (Int32.toNatClampNeg ((20 * x1) + x3)) (M.1 139 (Int32.toNatClampNeg ((20 * x2) + x3)))) 140 (Int32.toNatClampNeg ((20 * x1) + x3)) ((v_si M 139 (Int32.toNatClampNeg ((20 * x1) + x3)) (M.1 139 (Int32.toNatClampNeg ((20 * x2) + x3)))).1 140 (Int32.toNatClampNeg ((20 * x2) + x3)))) 141 (Int32.toNatClampNeg ((20 * x1) + x3)) ((v_si (v_si M 139 (Int32.toNatClampNeg ((20 * x1) + x3)) (M.1 139 (Int32.toNatClampNeg ((20 * x2) + x3)))) 140 (Int32.toNatClampNeg ((20 * x1) + x3)) ((v_si M 139 (Int32.toNatClampNeg ((20 * x1) + x3)) (M.1 139 (Int32.toNatClampNeg ((20 * x2) + x3)))).1 140 (Int32.toNatClampNeg ((20 * x2) + x3)))).1 141 (Int32.toNatClampNeg ((20 * x2) + x3)))) x1 x2 (x3 + 1) hI
def fX11_take (M : vM) (x1 : Int32) : Option (vR × vM) := if v_in (6 + x1) 12 = true then if v_in x1 12 = true then if v_in (6 + x1) 12 = true then if v_in x1 12 = true then if v_in (6 + x1) 12 = true then if v_in x1 12 = true then if v_in (6 + x1) 12 = true then if v_in x1 12 = true then if v_in (6 + x1) 12 = true then if v_in x1 12 = true then if v_in (6 + x1) 12 = true then if v_in x1 12 = true then if v_in (6 + x1) 12 = true then if v_in x1 12 = true then fX11_take_91 FU (v_si (v_si (v_si (v_si (v_si (v_si (v_si M 132 (Int32.toNatClampNeg x1) (M.1 132 (Int32.toNatClampNeg (6 + x1)))) 133 (Int32.toNatClampNeg x1) ((v_si M 132 (Int32.toNatClampNeg x1) (M.1 132 (Int32.toNatClampNeg (6 + x1)))).1 133 (Int32.toNatClampNeg (6 + x1)))) 134 (Int32.toNatClampNeg x1) ((v_si (v_si M 132 (Int32.toNatClampNeg x1) (M.1 132 (Int32.toNatClampNeg (6 + x1)))) 133 (Int32.toNatClampNeg x1) ((v_si M 132 (Int32.toNatClampNeg x1) (M.1 132 (Int32.toNatClampNeg (6 + x1)))).1 133 (Int32.toNatClampNeg (6 + x1)))).1 134 (Int32.toNatClampNeg (6 + x1)))) 135 (Int32.toNatClampNeg x1) ((v_si (v_si (v_si M 132 (Int32.toNatClampNeg x1) (M.1 132 (Int32.toNatClampNeg (6 + x1)))) 133 (Int32.toNatClampNeg x1) ((v_si M 132 (Int32.toNatClampNeg x1) (M.1 132 (Int32.toNatClampNeg (6 + x1)))).1 133 (Int32.toNatClampNeg (6 + x1)))) 134 (Int32.toNatClampNeg x1) ((v_si (v_si M 132 (Int32.toNatClampNeg x1) (M.1 132 (Int32.toNatClampNeg (6 + x1)))) 133 (Int32.toNatClampNeg x1) ((v_si M 132 (Int32.toNatClampNeg x1) (M.1 132 (Int32.toNatClampNeg (6 + x1)))).1 133 (Int32.toNatClampNeg (6 + x1)))).1 134 (Int32.toNatClampNeg (6 + x1)))).1 135 (Int32.toNatClampNeg (6 + x1)))) 136 (Int32.toNatClampNeg x1) ((v_si (v_si (v_si (v_si M 132 (Int32.toNatClampNeg x1) (M.1 132 (Int32.toNatClampNeg (6 + x1)))) 133 (Int32.toNatClampNeg x1) ((v_si M 132 (Int32.toNatClampNeg x1) (M.1 132 (Int32.toNatClampNeg (6 + x1)))).1 133 (Int32.toNatClampNeg (6 + x1)))) 134 (Int32.toNatClampNeg x1) ((v_si (v_si M 132 (Int32.toNatClampNeg x1) (M.1 132 (Int32.toNatClampNeg (6 + x1)))) 133 (Int32.toNatClampNeg x1) ((v_si M 132 (Int32.toNatClampNeg x1) (M.1 132 (Int32.toNatClampNeg (6 + x1)))).1 133 (Int32.toNatClampNeg (6 + x1)))).1 134 (Int32.toNatClampNeg (6 + x1)))) 135 (Int32.toNatClampNeg x1) ((v_si (v_si (v_si M 132 (Int32.toNatClampNeg x1) (M.1 132 (Int32.toNatClampNeg (6 + x1)))) 133 (Int32.toNatClampNeg x1) ((v_si M 132 (Int32.toNatClampNeg x1) (M.1 132 (Int32.toNatClampNeg (6 + x1)))).1 133 (Int32.toNatClampNeg (6 + x1)))) 134 (Int32.toNatClampNeg x1) ((v_si (v_si M 132 (Int32.toNatClampNeg x1) (M.1 132 (Int32.toNatClampNeg (6 + x1)))) 133 (Int32.toNatClampNeg x1) ((v_si M 132 (Int32.toNatClampNeg x1) (M.1 132 (Int32.toNatClampNeg (6 + x1)))).1 133 (Int32.toNatClampNeg (6 + x1)))).1 134 (Int32.toNatClampNeg (6 + x1)))).1 135 (Int32.toNatClampNeg (6 + x1)))).1 136 (Int32.toNatClampNeg (6 + x1)))) 137 (Int32.toNatClampNeg x1) ((v_si (v_si (v_si (v_si (v_si M 132 (Int32.toNatClampNeg x1) (M.1 132 (Int32.toNatClampNeg (6 + x1)))) 133 (Int32.toNatClampNeg x1) ((v_si M 132 (Int32.toNatClampNeg x1) (M.1 132 (Int32.toNatClampNeg (6 + x1)))).1 133 (Int32.toNatClampNeg (6 + x1)))) 134 (Int32.toNatClampNeg x1) ((v_si (v_si M 132 (Int32.toNatClampNeg x1) (M.1 132 (Int32.toNatClampNeg (6 + x1)))) 133 (Int32.toNatClampNeg x1) ((v_si M 132 (Int32.toNatClampNeg x1) (M.1 132 (Int32.toNatClampNeg (6 + x1)))).1 133 (Int32.toNatClampNeg (6 + x1)))).1 134 (Int32.toNatClampNeg (6 + x1)))) 135 (Int32.toNatClampNeg x1) ((v_si (v_si (v_si M 132 (Int32.toNatClampNeg x1) (M.1 132 (Int32.toNatClampNeg (6 + x1)))) 133 (Int32.toNatClampNeg x1) ((v_si M 132 (Int32.toNatClampNeg x1) (M.1 132 (Int32.toNatClampNeg (6 + x1)))).1 133 (Int32.toNatClampNeg (6 + x1)))) 134 (Int32.toNatClampNeg x1) ((v_si (v_si M 132 (Int32.toNatClampNeg x1) (M.1 132 (Int32.toNatClampNeg (6 + x1)))) 133 (Int32.toNatClampNeg x1) ((v_si M 132 (Int32.toNatClampNeg x1) (M.1 132 (Int32.toNatClampNeg (6 + x1)))).1 133 (Int32.toNatClampNeg (6 + x1)))).1 134 (Int32.toNatClampNeg (6 + x1)))).1 135 (Int32.toNatClampNeg (6 + x1)))) 136 (Int32.toNatClampNeg x1) ((v_si (v_si (v_si (v_si M 132 (Int32.toNatClampNeg x1) (M.1 132 (Int32.toNatClampNeg (6 + x1)))) 133 (Int32.toNatClampNeg x1) ((v_si M 132 (Int32.toNatClampNeg x1) (M.1 132 (Int32.toNatClampNeg (6 + x1)))).1 133 (Int32.toNatClampNeg (6 + x1)))) 134 (Int32.toNatClampNeg x1) ((v_si (v_si M 132 (Int32.toNatClampNeg x1) (M.1 132 (Int32.toNatClampNeg (6 + x1)))) 133 (Int32.toNatClampNeg x1) ((v_si M 132 (Int32.toNatClampNeg x1) (M.1 132 (Int32.toNatClampNeg (6 + x1)))).1 133 (Int32.toNatClampNeg (6 + x1)))).1 134 (Int32.toNatClampNeg (6 + x1)))) 135 (Int32.toNatClampNeg x1) ((v_si (v_si (v_si M 132 (Int32.toNatClampNeg x1) (M.1 132 (Int32.toNatClampNeg (6 + x1)))) 133 (Int32.toNatClampNeg x1) ((v_si M 132 (Int32.toNatClampNeg x1) (M.1 132 (Int32.toNatClampNeg (6 + x1)))).1 133 (Int32.toNatClampNeg (6 + x1)))) 134 (Int32.toNatClampNeg x1) ((v_si (v_si M 132 (Int32.toNatClampNeg x1) (M.1 132 (Int32.toNatClampNeg (6 + x1)))) 133 (Int32.toNatClampNeg x1) ((v_si M 132 (Int32.toNatClampNeg x1) (M.1 132 (Int32.toNatClampNeg (6 + x1)))).1 133 (Int32.toNatClampNeg (6 + x1)))).1 134 (Int32.toNatClampNeg (6 + x1)))).1 135 (Int32.toNatClampNeg (6 + x1)))).1 136 (Int32.toNatClampNeg (6 + x1)))).1 137 (Int32.toNatClampNeg (6 + x1)))) 138 (Int32.toNatClampNeg x1) ((v_si (v_si (v_si (v_si (v_si (v_si M 132 (Int32.toNatClampNeg x1) (M.1 132 (Int32.toNatClampNeg (6 + x1)))) 133 (Int32.toNatClampNeg x1) ((v_si M 132 (Int32.toNatClampNeg x1) (M.1 132 (Int32.toNatClampNeg (6 + x1)))).1 133 (Int32.toNatClampNeg (6 + x1)))) 134 (Int32.toNatClampNeg x1) ((v_si (v_si M 132 (Int32.toNatClampNeg x1) (M.1 132 (Int32.toNatClampNeg (6 + x1)))) 133 (Int32.toNatClampNeg x1) ((v_si M 132 (Int32.toNatClampNeg x1) (M.1 132 (Int32.toNatClampNeg (6 + x1)))).1 133 (Int32.toNatClampNeg (6 + x1)))).1 134 (Int32.toNatClampNeg (6 + x1)))) 135 (Int32.toNatClampNeg x1) ((v_si (v_si (v_si M 132 (Int32.toNatClampNeg x1) (M.1 132 (Int32.toNatClampNeg (6 + x1)))) 133 (Int32.toNatClampNeg x1) ((v_si M 132 (Int32.toNatClampNeg x1) (M.1 132 (Int32.toNatClampNeg (6 + x1)))).1 133 (Int32.toNatClampNeg (6 + x1)))) 134 (Int32.toNatClampNeg x1) ((v_si (v_si M 132 (Int32.toNatClampNeg x1) (M.1 132 (Int32.toNatClampNeg (6 + x1)))) 133 (Int32.toNatClampNeg x1) ((v_si M 132 (Int32.toNatClampNeg x1) (M.1 132 (Int32.toNatClampNeg (6 + x1)))).1 133 (Int32.toNatClampNeg (6 + x1)))).1 134 (Int32.toNatClampNeg (6 + x1)))).1 135 (Int32.toNatClampNeg (6 + x1)))) 136 (Int32.toNatClampNeg x1) ((v_si (v_si (v_si (v_si M 132 (Int32.toNatClampNeg x1) (M.1 132 (Int32.toNatClampNeg (6 + x1)))) 133 (Int32.toNatClampNeg x1) ((v_si M 132 (Int32.toNatClampNeg x1) (M.1 132 (Int32.toNatClampNeg (6 + x1)))).1 133 (Int32.toNatClampNeg (6 + x1)))) 134 (Int32.toNatClampNeg x1) ((v_si (v_si M 132 (Int32.toNatClampNeg x1) (M.1 132 (Int32.toNatClampNeg (6 + x1)))) 133 (Int32.toNatClampNeg x1) ((v_si M 132 (Int32.toNatClampNeg x1) (M.1 132 (Int32.toNatClampNeg (6 + x1)))).1 133 (Int32.toNatClampNeg (6 + x1)))).1 134 (Int32.toNatClampNeg (6 + x1)))) 135 (Int32.toNatClampNeg x1) ((v_si (v_si (v_si M 132 (Int32.toNatClampNeg x1) (M.1 132 (Int32.toNatClampNeg (6 + x1)))) 133 (Int32.toNatClampNeg x1) ((v_si M 132 (Int32.toNatClampNeg x1) (M.1 132 (Int32.toNatClampNeg (6 + x1)))).1 133 (Int32.toNatClampNeg (6 + x1)))) 134 (Int32.toNatClampNeg x1) ((v_si (v_si M 132 (Int32.toNatClampNeg x1) (M.1 132 (Int32.toNatClampNeg (6 + x1)))) 133 (Int32.toNatClampNeg x1) ((v_si M 132 (Int32.toNatClampNeg x1) (M.1 132 (Int32.toNatClampNeg (6 + x1)))).1 133 (Int32.toNatClampNeg (6 + x1)))).1 134 (Int32.toNatClampNeg (6 + x1)))).1 135 (Int32.toNatClampNeg (6 + x1)))).1 136 (Int32.toNatClampNeg (6 + x1)))) 137 (Int32.toNatClampNeg x1) ((v_si (v_si (v_si (v_si (v_si M 132 (Int32.toNatClampNeg x1) (M.1 132 (Int32.toNatClampNeg (6 + x1)))) 133 (Int32.toNatClampNeg x1) ((v_si M 132 (Int32.toNatClampNeg x1) (M.1 132 (Int32.toNatClampNeg (6 + x1)))).1 133 (Int32.toNatClampNeg (6 + x1)))) 134 (Int32.toNatClampNeg x1) ((v_si (v_si M 132 (Int32.toNatClampNeg x1) (M.1 132 (Int32.toNatClampNeg (6 + x1)))) 133 (Int32.toNatClampNeg x1) ((v_si M 132 (Int32.toNatClampNeg x1) (M.1 132 (Int32.toNatClampNeg (6 + x1)))).1 133 (Int32.toNatClampNeg (6 + x1)))).1 134 (Int32.toNatClampNeg (6 + x1)))) 135 (Int32.toNatClampNeg x1) ((v_si (v_si (v_si M 132 (Int32.toNatClampNeg x1) (M.1 132 (Int32.toNatClampNeg (6 + x1)))) 133 (Int32.toNatClampNeg x1) ((v_si M 132 (Int32.toNatClampNeg x1) (M.1 132 (Int32.toNatClampNeg (6 + x1)))).1 133 (Int32.toNatClampNeg (6 + x1)))) 134 (Int32.toNatClampNeg x1) ((v_si (v_si M 132 (Int32.toNatClampNeg x1) (M.1 132 (Int32.toNatClampNeg (6 + x1)))) 133 (Int32.toNatClampNeg x1) ((v_si M 132 (Int32.toNatClampNeg x1) (M.1 132 (Int32.toNatClampNeg (6 + x1)))).1 133 (Int32.toNatClampNeg (6 + x1)))).1 134 (Int32.toNatClampNeg (6 + x1)))).1 135 (Int32.toNatClampNeg (6 + x1)))) 136 (Int32.toNatClampNeg x1) ((v_si (v_si (v_si (v_si M 132 (Int32.toNatClampNeg x1) (M.1 132 (Int32.toNatClampNeg (6 + x1)))) 133 (Int32.toNatClampNeg x1) ((v_si M 132 (Int32.toNatClampNeg x1) (M.1 132 (Int32.toNatClampNeg (6 + x1)))).1 133 (Int32.toNatClampNeg (6 + x1)))) 134 (Int32.toNatClampNeg x1) ((v_si (v_si M 132 (Int32.toNatClampNeg x1) (M.1 132 (Int32.toNatClampNeg (6 + x1)))) 133 (Int32.toNatClampNeg x1) ((v_si M 132 (Int32.toNatClampNeg x1) (M.1 132 (Int32.toNatClampNeg (6 + x1)))).1 133 (Int32.toNatClampNeg (6 + x1)))).1 134 (Int32.toNatClampNeg (6 + x1)))) 135 (Int32.toNatClampNeg x1) ((v_si (v_si (v_si M 132 (Int32.toNatClampNeg x1) (M.1 132 (Int32.toNatClampNeg (6 + x1)))) 133 (Int32.toNatClampNeg x1) ((v_si M 132 (Int32.toNatClampNeg x1) (M.1 132 (Int32.toNatClampNeg (6 + x1)))).1 133 (Int32.toNatClampNeg (6 + x1)))) 134 (Int32.toNatClampNeg x1) ((v_si (v_si M 132 (Int32.toNatClampNeg x1) (M.1 132 (Int32.toNatClampNeg (6 + x1)))) 133 (Int32.toNatClampNeg x1) ((v_si M 132 (Int32.toNatClampNeg x1) (M.1 132 (Int32.toNatClampNeg (6 + x1)))).1 133 (Int32.toNatClampNeg (6 + x1)))).1 134 (Int32.toNatClampNeg (6 + x1)))).1 135 (Int32.toNatClampNeg (6 + x1)))).1 136 (Int32.toNatClampNeg (6 + x1)))).1 137 (Int32.toNatClampNeg (6 + x1)))).1 138 (Int32.toNatClampNeg (6 + x1)))) x1 (6 + x1) 0 else none else none else none else none else none else none else none else none else none else none else none else none else none else none
set_option maxRecDepth 20000 in
set_option maxHeartbeats 2000000 in
theorem cX11_take_ok {l : Launch} {D : va_G} {dA : Nat → ClassId} (M : vM) (x1 : Int32) (hI : v_WT M.2.2) : Ct l D dA sX11_take false 175 17 0 0 175 [.ref 130, .int x1] M (fX11_take M x1) := by
  refine Ct_of (lv := [(0, .ref 130), (1, .int x1)]) (by decide +kernel) rfl (Nat.le_of_ble_eq_true rfl) rfl (fun h => by cases h) ?_
  refine V_bipush (v := 6) dX11_take_0 rfl ?_
  refine V_iload_n (k := 1) dX11_take_2 rfl rfl ?_
  refine V_iadd dX11_take_3 ?_
  refine V_istore_n (lv' := [(2, .int (6 + x1)), (0, .ref 130), (1, .int x1)]) dX11_take_4 rfl (by decide) rfl ?_
  refine V_aload_n (k := 1) dX11_take_5 rfl rfl ?_
  refine V_getr (k := 132) dX11_take_6 rfl (by decide) vf_X11_21 (by decide) (v_fin hI 119 rfl) ?_
  refine V_iload_n (k := 2) dX11_take_9 rfl rfl ?_
  refine V_aload_n (k := 1) dX11_take_10 rfl rfl ?_
  refine V_getr (k := 132) dX11_take_11 rfl (by decide) vf_X11_21 (by decide) (v_fin hI 119 rfl) ?_
  refine V_iload_n (k := 0) dX11_take_14 rfl rfl ?_
  refine V_iald dX11_take_15 rfl (by decide) (fun h76 => ?_)
  refine V_iast dX11_take_16 rfl (by decide) (fun h77 => ?_)
  refine V_aload_n (k := 1) dX11_take_17 rfl rfl ?_
  refine V_getr (k := 133) dX11_take_18 rfl (by decide) vf_X11_25 (by decide) (v_fin hI 120 rfl) ?_
  refine V_iload_n (k := 2) dX11_take_21 rfl rfl ?_
  refine V_aload_n (k := 1) dX11_take_22 rfl rfl ?_
  refine V_getr (k := 133) dX11_take_23 rfl (by decide) vf_X11_25 (by decide) (v_fin hI 120 rfl) ?_
  refine V_iload_n (k := 0) dX11_take_26 rfl rfl ?_
  refine V_iald dX11_take_27 rfl (by decide) (fun h78 => ?_)
  refine V_iast dX11_take_28 rfl (by decide) (fun h79 => ?_)
  refine V_aload_n (k := 1) dX11_take_29 rfl rfl ?_
  refine V_getr (k := 134) dX11_take_30 rfl (by decide) vf_X11_28 (by decide) (v_fin hI 121 rfl) ?_
  refine V_iload_n (k := 2) dX11_take_33 rfl rfl ?_
  refine V_aload_n (k := 1) dX11_take_34 rfl rfl ?_
  refine V_getr (k := 134) dX11_take_35 rfl (by decide) vf_X11_28 (by decide) (v_fin hI 121 rfl) ?_
  refine V_iload_n (k := 0) dX11_take_38 rfl rfl ?_
  refine V_iald dX11_take_39 rfl (by decide) (fun h80 => ?_)
  refine V_iast dX11_take_40 rfl (by decide) (fun h81 => ?_)
  refine V_aload_n (k := 1) dX11_take_41 rfl rfl ?_
  refine V_getr (k := 135) dX11_take_42 rfl (by decide) vf_X11_31 (by decide) (v_fin hI 122 rfl) ?_
  refine V_iload_n (k := 2) dX11_take_45 rfl rfl ?_
  refine V_aload_n (k := 1) dX11_take_46 rfl rfl ?_
  refine V_getr (k := 135) dX11_take_47 rfl (by decide) vf_X11_31 (by decide) (v_fin hI 122 rfl) ?_
  refine V_iload_n (k := 0) dX11_take_50 rfl rfl ?_
  refine V_iald dX11_take_51 rfl (by decide) (fun h82 => ?_)
  refine V_iast dX11_take_52 rfl (by decide) (fun h83 => ?_)
  refine V_aload_n (k := 1) dX11_take_53 rfl rfl ?_
  refine V_getr (k := 136) dX11_take_54 rfl (by decide) vf_X11_34 (by decide) (v_fin hI 123 rfl) ?_
  refine V_iload_n (k := 2) dX11_take_57 rfl rfl ?_
  refine V_aload_n (k := 1) dX11_take_58 rfl rfl ?_
  refine V_getr (k := 136) dX11_take_59 rfl (by decide) vf_X11_34 (by decide) (v_fin hI 123 rfl) ?_
  refine V_iload_n (k := 0) dX11_take_62 rfl rfl ?_
  refine V_iald dX11_take_63 rfl (by decide) (fun h84 => ?_)
  refine V_iast dX11_take_64 rfl (by decide) (fun h85 => ?_)
  refine V_aload_n (k := 1) dX11_take_65 rfl rfl ?_
  refine V_getr (k := 137) dX11_take_66 rfl (by decide) vf_X11_37 (by decide) (v_fin hI 124 rfl) ?_
  refine V_iload_n (k := 2) dX11_take_69 rfl rfl ?_
  refine V_aload_n (k := 1) dX11_take_70 rfl rfl ?_
  refine V_getr (k := 137) dX11_take_71 rfl (by decide) vf_X11_37 (by decide) (v_fin hI 124 rfl) ?_
  refine V_iload_n (k := 0) dX11_take_74 rfl rfl ?_
  refine V_iald dX11_take_75 rfl (by decide) (fun h86 => ?_)
  refine V_iast dX11_take_76 rfl (by decide) (fun h87 => ?_)
  refine V_aload_n (k := 1) dX11_take_77 rfl rfl ?_
  refine V_getr (k := 138) dX11_take_78 rfl (by decide) vf_X11_40 (by decide) (v_fin hI 125 rfl) ?_
  refine V_iload_n (k := 2) dX11_take_81 rfl rfl ?_
  refine V_aload_n (k := 1) dX11_take_82 rfl rfl ?_
  refine V_getr (k := 138) dX11_take_83 rfl (by decide) vf_X11_40 (by decide) (v_fin hI 125 rfl) ?_
  refine V_iload_n (k := 0) dX11_take_86 rfl rfl ?_
  refine V_iald dX11_take_87 rfl (by decide) (fun h88 => ?_)
  refine V_iast dX11_take_88 rfl (by decide) (fun h89 => ?_)
  refine V_iconst (v := 0) dX11_take_89 rfl ?_
  refine V_istore_n (lv' := [(3, .int 0), (2, .int (6 + x1)), (0, .ref 130), (1, .int x1)]) dX11_take_90 rfl (by decide) rfl ?_
  refine V_sub [2, 3, 1, 0] rfl ?_
  exact vX11_take_91 FU (v_si (v_si (v_si (v_si (v_si (v_si (v_si M 132 (Int32.toNatClampNeg x1) (M.1 132 (Int32.toNatClampNeg (6 + x1)))) 133 (Int32.toNatClampNeg x1) ((v_si M 132 (Int32.toNatClampNeg x1) (M.1 132 (Int32.toNatClampNeg (6 + x1)))).1 133 (Int32.toNatClampNeg (6 + x1)))) 134 (Int32.toNatClampNeg x1) ((v_si (v_si M 132 (Int32.toNatClampNeg x1) (M.1 132 (Int32.toNatClampNeg (6 + x1)))) 133 (Int32.toNatClampNeg x1) ((v_si M 132 (Int32.toNatClampNeg x1) (M.1 132 (Int32.toNatClampNeg (6 + x1)))).1 133 (Int32.toNatClampNeg (6 + x1)))).1 134 (Int32.toNatClampNeg (6 + x1)))) 135 (Int32.toNatClampNeg x1) ((v_si (v_si (v_si M 132 (Int32.toNatClampNeg x1) (M.1 132 (Int32.toNatClampNeg (6 + x1)))) 133 (Int32.toNatClampNeg x1) ((v_si M 132 (Int32.toNatClampNeg x1) (M.1 132 (Int32.toNatClampNeg (6 + x1)))).1 133 (Int32.toNatClampNeg (6 + x1)))) 134 (Int32.toNatClampNeg x1) ((v_si (v_si M 132 (Int32.toNatClampNeg x1) (M.1 132 (Int32.toNatClampNeg (6 + x1)))) 133 (Int32.toNatClampNeg x1) ((v_si M 132 (Int32.toNatClampNeg x1) (M.1 132 (Int32.toNatClampNeg (6 + x1)))).1 133 (Int32.toNatClampNeg (6 + x1)))).1 134 (Int32.toNatClampNeg (6 + x1)))).1 135 (Int32.toNatClampNeg (6 + x1)))) 136 (Int32.toNatClampNeg x1) ((v_si (v_si (v_si (v_si M 132 (Int32.toNatClampNeg x1) (M.1 132 (Int32.toNatClampNeg (6 + x1)))) 133 (Int32.toNatClampNeg x1) ((v_si M 132 (Int32.toNatClampNeg x1) (M.1 132 (Int32.toNatClampNeg (6 + x1)))).1 133 (Int32.toNatClampNeg (6 + x1)))) 134 (Int32.toNatClampNeg x1) ((v_si (v_si M 132 (Int32.toNatClampNeg x1) (M.1 132 (Int32.toNatClampNeg (6 + x1)))) 133 (Int32.toNatClampNeg x1) ((v_si M 132 (Int32.toNatClampNeg x1) (M.1 132 (Int32.toNatClampNeg (6 + x1)))).1 133 (Int32.toNatClampNeg (6 + x1)))).1 134 (Int32.toNatClampNeg (6 + x1)))) 135 (Int32.toNatClampNeg x1) ((v_si (v_si (v_si M 132 (Int32.toNatClampNeg x1) (M.1 132 (Int32.toNatClampNeg (6 + x1)))) 133 (Int32.toNatClampNeg x1) ((v_si M 132 (Int32.toNatClampNeg x1) (M.1 132 (Int32.toNatClampNeg (6 + x1)))).1 133 (Int32.toNatClampNeg (6 + x1)))) 134 (Int32.toNatClampNeg x1) ((v_si (v_si M 132 (Int32.toNatClampNeg x1) (M.1 132 (Int32.toNatClampNeg (6 + x1)))) 133 (Int32.toNatClampNeg x1) ((v_si M 132 (Int32.toNatClampNeg x1) (M.1 132 (Int32.toNatClampNeg (6 + x1)))).1 133 (Int32.toNatClampNeg (6 + x1)))).1 134 (Int32.toNatClampNeg (6 + x1)))).1 135 (Int32.toNatClampNeg (6 + x1)))).1 136 (Int32.toNatClampNeg (6 + x1)))) 137 (Int32.toNatClampNeg x1) ((v_si (v_si (v_si (v_si (v_si M 132 (Int32.toNatClampNeg x1) (M.1 132 (Int32.toNatClampNeg (6 + x1)))) 133 (Int32.toNatClampNeg x1) ((v_si M 132 (Int32.toNatClampNeg x1) (M.1 132 (Int32.toNatClampNeg (6 + x1)))).1 133 (Int32.toNatClampNeg (6 + x1)))) 134 (Int32.toNatClampNeg x1) ((v_si (v_si M 132 (Int32.toNatClampNeg x1) (M.1 132 (Int32.toNatClampNeg (6 + x1)))) 133 (Int32.toNatClampNeg x1) ((v_si M 132 (Int32.toNatClampNeg x1) (M.1 132 (Int32.toNatClampNeg (6 + x1)))).1 133 (Int32.toNatClampNeg (6 + x1)))).1 134 (Int32.toNatClampNeg (6 + x1)))) 135 (Int32.toNatClampNeg x1) ((v_si (v_si (v_si M 132 (Int32.toNatClampNeg x1) (M.1 132 (Int32.toNatClampNeg (6 + x1)))) 133 (Int32.toNatClampNeg x1) ((v_si M 132 (Int32.toNatClampNeg x1) (M.1 132 (Int32.toNatClampNeg (6 + x1)))).1 133 (Int32.toNatClampNeg (6 + x1)))) 134 (Int32.toNatClampNeg x1) ((v_si (v_si M 132 (Int32.toNatClampNeg x1) (M.1 132 (Int32.toNatClampNeg (6 + x1)))) 133 (Int32.toNatClampNeg x1) ((v_si M 132 (Int32.toNatClampNeg x1) (M.1 132 (Int32.toNatClampNeg (6 + x1)))).1 133 (Int32.toNatClampNeg (6 + x1)))).1 134 (Int32.toNatClampNeg (6 + x1)))).1 135 (Int32.toNatClampNeg (6 + x1)))) 136 (Int32.toNatClampNeg x1) ((v_si (v_si (v_si (v_si M 132 (Int32.toNatClampNeg x1) (M.1 132 (Int32.toNatClampNeg (6 + x1)))) 133 (Int32.toNatClampNeg x1) ((v_si M 132 (Int32.toNatClampNeg x1) (M.1 132 (Int32.toNatClampNeg (6 + x1)))).1 133 (Int32.toNatClampNeg (6 + x1)))) 134 (Int32.toNatClampNeg x1) ((v_si (v_si M 132 (Int32.toNatClampNeg x1) (M.1 132 (Int32.toNatClampNeg (6 + x1)))) 133 (Int32.toNatClampNeg x1) ((v_si M 132 (Int32.toNatClampNeg x1) (M.1 132 (Int32.toNatClampNeg (6 + x1)))).1 133 (Int32.toNatClampNeg (6 + x1)))).1 134 (Int32.toNatClampNeg (6 + x1)))) 135 (Int32.toNatClampNeg x1) ((v_si (v_si (v_si M 132 (Int32.toNatClampNeg x1) (M.1 132 (Int32.toNatClampNeg (6 + x1)))) 133 (Int32.toNatClampNeg x1) ((v_si M 132 (Int32.toNatClampNeg x1) (M.1 132 (Int32.toNatClampNeg (6 + x1)))).1 133 (Int32.toNatClampNeg (6 + x1)))) 134 (Int32.toNatClampNeg x1) ((v_si (v_si M 132 (Int32.toNatClampNeg x1) (M.1 132 (Int32.toNatClampNeg (6 + x1)))) 133 (Int32.toNatClampNeg x1) ((v_si M 132 (Int32.toNatClampNeg x1) (M.1 132 (Int32.toNatClampNeg (6 + x1)))).1 133 (Int32.toNatClampNeg (6 + x1)))).1 134 (Int32.toNatClampNeg (6 + x1)))).1 135 (Int32.toNatClampNeg (6 + x1)))).1 136 (Int32.toNatClampNeg (6 + x1)))).1 137 (Int32.toNatClampNeg (6 + x1)))) 138 (Int32.toNatClampNeg x1) ((v_si (v_si (v_si (v_si (v_si (v_si M 132 (Int32.toNatClampNeg x1) (M.1 132 (Int32.toNatClampNeg (6 + x1)))) 133 (Int32.toNatClampNeg x1) ((v_si M 132 (Int32.toNatClampNeg x1) (M.1 132 (Int32.toNatClampNeg (6 + x1)))).1 133 (Int32.toNatClampNeg (6 + x1)))) 134 (Int32.toNatClampNeg x1) ((v_si (v_si M 132 (Int32.toNatClampNeg x1) (M.1 132 (Int32.toNatClampNeg (6 + x1)))) 133 (Int32.toNatClampNeg x1) ((v_si M 132 (Int32.toNatClampNeg x1) (M.1 132 (Int32.toNatClampNeg (6 + x1)))).1 133 (Int32.toNatClampNeg (6 + x1)))).1 134 (Int32.toNatClampNeg (6 + x1)))) 135 (Int32.toNatClampNeg x1) ((v_si (v_si (v_si M 132 (Int32.toNatClampNeg x1) (M.1 132 (Int32.toNatClampNeg (6 + x1)))) 133 (Int32.toNatClampNeg x1) ((v_si M 132 (Int32.toNatClampNeg x1) (M.1 132 (Int32.toNatClampNeg (6 + x1)))).1 133 (Int32.toNatClampNeg (6 + x1)))) 134 (Int32.toNatClampNeg x1) ((v_si (v_si M 132 (Int32.toNatClampNeg x1) (M.1 132 (Int32.toNatClampNeg (6 + x1)))) 133 (Int32.toNatClampNeg x1) ((v_si M 132 (Int32.toNatClampNeg x1) (M.1 132 (Int32.toNatClampNeg (6 + x1)))).1 133 (Int32.toNatClampNeg (6 + x1)))).1 134 (Int32.toNatClampNeg (6 + x1)))).1 135 (Int32.toNatClampNeg (6 + x1)))) 136 (Int32.toNatClampNeg x1) ((v_si (v_si (v_si (v_si M 132 (Int32.toNatClampNeg x1) (M.1 132 (Int32.toNatClampNeg (6 + x1)))) 133 (Int32.toNatClampNeg x1) ((v_si M 132 (Int32.toNatClampNeg x1) (M.1 132 (Int32.toNatClampNeg (6 + x1)))).1 133 (Int32.toNatClampNeg (6 + x1)))) 134 (Int32.toNatClampNeg x1) ((v_si (v_si M 132 (Int32.toNatClampNeg x1) (M.1 132 (Int32.toNatClampNeg (6 + x1)))) 133 (Int32.toNatClampNeg x1) ((v_si M 132 (Int32.toNatClampNeg x1) (M.1 132 (Int32.toNatClampNeg (6 + x1)))).1 133 (Int32.toNatClampNeg (6 + x1)))).1 134 (Int32.toNatClampNeg (6 + x1)))) 135 (Int32.toNatClampNeg x1) ((v_si (v_si (v_si M 132 (Int32.toNatClampNeg x1) (M.1 132 (Int32.toNatClampNeg (6 + x1)))) 133 (Int32.toNatClampNeg x1) ((v_si M 132 (Int32.toNatClampNeg x1) (M.1 132 (Int32.toNatClampNeg (6 + x1)))).1 133 (Int32.toNatClampNeg (6 + x1)))) 134 (Int32.toNatClampNeg x1) ((v_si (v_si M 132 (Int32.toNatClampNeg x1) (M.1 132 (Int32.toNatClampNeg (6 + x1)))) 133 (Int32.toNatClampNeg x1) ((v_si M 132 (Int32.toNatClampNeg x1) (M.1 132 (Int32.toNatClampNeg (6 + x1)))).1 133 (Int32.toNatClampNeg (6 + x1)))).1 134 (Int32.toNatClampNeg (6 + x1)))).1 135 (Int32.toNatClampNeg (6 + x1)))).1 136 (Int32.toNatClampNeg (6 + x1)))) 137 (Int32.toNatClampNeg x1) ((v_si (v_si (v_si (v_si (v_si M 132 (Int32.toNatClampNeg x1) (M.1 132 (Int32.toNatClampNeg (6 + x1)))) 133 (Int32.toNatClampNeg x1) ((v_si M 132 (Int32.toNatClampNeg x1) (M.1 132 (Int32.toNatClampNeg (6 + x1)))).1 133 (Int32.toNatClampNeg (6 + x1)))) 134 (Int32.toNatClampNeg x1) ((v_si (v_si M 132 (Int32.toNatClampNeg x1) (M.1 132 (Int32.toNatClampNeg (6 + x1)))) 133 (Int32.toNatClampNeg x1) ((v_si M 132 (Int32.toNatClampNeg x1) (M.1 132 (Int32.toNatClampNeg (6 + x1)))).1 133 (Int32.toNatClampNeg (6 + x1)))).1 134 (Int32.toNatClampNeg (6 + x1)))) 135 (Int32.toNatClampNeg x1) ((v_si (v_si (v_si M 132 (Int32.toNatClampNeg x1) (M.1 132 (Int32.toNatClampNeg (6 + x1)))) 133 (Int32.toNatClampNeg x1) ((v_si M 132 (Int32.toNatClampNeg x1) (M.1 132 (Int32.toNatClampNeg (6 + x1)))).1 133 (Int32.toNatClampNeg (6 + x1)))) 134 (Int32.toNatClampNeg x1) ((v_si (v_si M 132 (Int32.toNatClampNeg x1) (M.1 132 (Int32.toNatClampNeg (6 + x1)))) 133 (Int32.toNatClampNeg x1) ((v_si M 132 (Int32.toNatClampNeg x1) (M.1 132 (Int32.toNatClampNeg (6 + x1)))).1 133 (Int32.toNatClampNeg (6 + x1)))).1 134 (Int32.toNatClampNeg (6 + x1)))).1 135 (Int32.toNatClampNeg (6 + x1)))) 136 (Int32.toNatClampNeg x1) ((v_si (v_si (v_si (v_si M 132 (Int32.toNatClampNeg x1) (M.1 132 (Int32.toNatClampNeg (6 + x1)))) 133 (Int32.toNatClampNeg x1) ((v_si M 132 (Int32.toNatClampNeg x1) (M.1 132 (Int32.toNatClampNeg (6 + x1)))).1 133 (Int32.toNatClampNeg (6 + x1)))) 134 (Int32.toNatClampNeg x1) ((v_si (v_si M 132 (Int32.toNatClampNeg x1) (M.1 132 (Int32.toNatClampNeg (6 + x1)))) 133 (Int32.toNatClampNeg x1) ((v_si M 132 (Int32.toNatClampNeg x1) (M.1 132 (Int32.toNatClampNeg (6 + x1)))).1 133 (Int32.toNatClampNeg (6 + x1)))).1 134 (Int32.toNatClampNeg (6 + x1)))) 135 (Int32.toNatClampNeg x1) ((v_si (v_si (v_si M 132 (Int32.toNatClampNeg x1) (M.1 132 (Int32.toNatClampNeg (6 + x1)))) 133 (Int32.toNatClampNeg x1) ((v_si M 132 (Int32.toNatClampNeg x1) (M.1 132 (Int32.toNatClampNeg (6 + x1)))).1 133 (Int32.toNatClampNeg (6 + x1)))) 134 (Int32.toNatClampNeg x1) ((v_si (v_si M 132 (Int32.toNatClampNeg x1) (M.1 132 (Int32.toNatClampNeg (6 + x1)))) 133 (Int32.toNatClampNeg x1) ((v_si M 132 (Int32.toNatClampNeg x1) (M.1 132 (Int32.toNatClampNeg (6 + x1)))).1 133 (Int32.toNatClampNeg (6 + x1)))).1 134 (Int32.toNatClampNeg (6 + x1)))).1 135 (Int32.toNatClampNeg (6 + x1)))).1 136 (Int32.toNatClampNeg (6 + x1)))).1 137 (Int32.toNatClampNeg (6 + x1)))).1 138 (Int32.toNatClampNeg (6 + x1)))) x1 (6 + x1) 0 hI
def fX11_tell (M : vM) (x1 : Int32) (x2 : Int32) : Option (vR × vM) := bi (fX11_isWork (v_si M 130 1 0) x1) fun y11 M12 => if y11 = 0 then bi (fX11_fail M12 1) fun y25 M26 => rI y25 M26 else if v_in x1 6 = true then if (M12.1 151 (Int32.toNatClampNeg x1)) = 100 then if v_in 2 4 = true then if v_in 2 4 = true then rI ((-1)) (v_si M12 156 (Int32.toNatClampNeg 2) ((M12.1 156 (Int32.toNatClampNeg 2)) + 1)) else none else none else if v_in x1 6 = true then if v_in ((100 * x1) + (M12.1 151 (Int32.toNatClampNeg x1))) 600 = true then if v_in x1 6 = true then if v_in x1 6 = true then if v_in x1 6 = true then rI ((v_si (v_si M12 152 (Int32.toNatClampNeg ((100 * x1) + (M12.1 151 (Int32.toNatClampNeg x1)))) x2) 151 (Int32.toNatClampNeg x1) (((v_si M12 152 (Int32.toNatClampNeg ((100 * x1) + (M12.1 151 (Int32.toNatClampNeg x1)))) x2).1 151 (Int32.toNatClampNeg x1)) + 1)).1 151 (Int32.toNatClampNeg x1)) (v_si (v_si M12 152 (Int32.toNatClampNeg ((100 * x1) + (M12.1 151 (Int32.toNatClampNeg x1)))) x2) 151 (Int32.toNatClampNeg x1) (((v_si M12 152 (Int32.toNatClampNeg ((100 * x1) + (M12.1 151 (Int32.toNatClampNeg x1)))) x2).1 151 (Int32.toNatClampNeg x1)) + 1)) else none else none else none else none else none else none
set_option maxRecDepth 20000 in
set_option maxHeartbeats 2000000 in
theorem cX11_tell_ok {l : Launch} {D : va_G} {dA : Nat → ClassId} (M : vM) (x1 : Int32) (x2 : Int32) (hI : v_WT M.2.2) : Ct l D dA sX11_tell false 175 3 0 0 175 [.ref 130, .int x1, .int x2] M (fX11_tell M x1 x2) := by
  refine Ct_of (lv := [(0, .ref 130), (1, .int x1), (2, .int x2)]) (by decide +kernel) rfl (Nat.le_of_ble_eq_true rfl) rfl (fun h => by cases h) ?_
  refine V_aload_n (k := 0) dX11_tell_0 rfl rfl ?_
  refine V_iconst (v := 0) dX11_tell_1 rfl ?_
  refine V_puti dX11_tell_2 rfl (by decide) vf_X11_154 (by decide) rfl rfl ?_
  refine V_aload_n (k := 0) dX11_tell_5 rfl rfl ?_
  refine V_iload_n (k := 1) dX11_tell_6 rfl rfl ?_
  refine V_callVi (q := (RX11, TX11, 61)) (cls := 11) (st0 := []) (kc' := 0) (ks' := 0) dX11_tell_7 lk_X11_164 rfl (by decide) rfl rfl rfl (cX11_isWork_ok (v_si M 130 1 0) x1 hI) rfl rfl (by decide) (by decide) (Nat.le_of_ble_eq_true rfl) (Or.inl rfl) rfl rfl (by decide) (by decide) (fun y11 M12 e13 hI14 => ?_)
  refine V_ifne (tgt := 19) dX11_tell_10 (by decide) (fun h15 => ?_) (fun h15 => ?_)
  · refine V_aload_n (k := 0) dX11_tell_19 rfl rfl ?_
    refine V_getr (k := 151) dX11_tell_20 rfl (by decide) vf_X11_80 (by decide) (v_fin hI14 138 rfl) ?_
    refine V_iload_n (k := 1) dX11_tell_23 rfl rfl ?_
    refine V_iald dX11_tell_24 rfl (by decide) (fun h16 => ?_)
    refine V_bipush (v := 100) dX11_tell_25 rfl ?_
    refine V_icmpne (tgt := 42) dX11_tell_27 (by decide) (fun h17 => ?_) (fun h17 => ?_)
    · refine V_aload_n (k := 0) dX11_tell_42 rfl rfl ?_
      refine V_getr (k := 152) dX11_tell_43 rfl (by decide) vf_X11_83 (by decide) (v_fin hI14 139 rfl) ?_
      refine V_bipush (v := 100) dX11_tell_46 rfl ?_
      refine V_iload_n (k := 1) dX11_tell_48 rfl rfl ?_
      refine V_imul dX11_tell_49 ?_
      refine V_aload_n (k := 0) dX11_tell_50 rfl rfl ?_
      refine V_getr (k := 151) dX11_tell_51 rfl (by decide) vf_X11_80 (by decide) (v_fin hI14 138 rfl) ?_
      refine V_iload_n (k := 1) dX11_tell_54 rfl rfl ?_
      refine V_iald dX11_tell_55 rfl (by decide) (fun h18 => ?_)
      refine V_iadd dX11_tell_56 ?_
      refine V_iload_n (k := 2) dX11_tell_57 rfl rfl ?_
      refine V_iast dX11_tell_58 rfl (by decide) (fun h19 => ?_)
      refine V_aload_n (k := 0) dX11_tell_59 rfl rfl ?_
      refine V_getr (k := 151) dX11_tell_60 rfl (by decide) vf_X11_80 (by decide) (v_fin hI14 138 rfl) ?_
      refine V_iload_n (k := 1) dX11_tell_63 rfl rfl ?_
      refine V_dup2 dX11_tell_64 rfl rfl ?_
      refine V_iald dX11_tell_65 rfl (by decide) (fun h20 => ?_)
      refine V_iconst (v := 1) dX11_tell_66 rfl ?_
      refine V_iadd dX11_tell_67 ?_
      refine V_iast dX11_tell_68 rfl (by decide) (fun h21 => ?_)
      refine V_aload_n (k := 0) dX11_tell_69 rfl rfl ?_
      refine V_getr (k := 151) dX11_tell_70 rfl (by decide) vf_X11_80 (by decide) (v_fin hI14 138 rfl) ?_
      refine V_iload_n (k := 1) dX11_tell_73 rfl rfl ?_
      refine V_iald dX11_tell_74 rfl (by decide) (fun h22 => ?_)
      exact V_ret (fun _ => hI14) (Or.inr (Or.inl ⟨rfl, _, rfl⟩)) dX11_tell_75 (fun ty x h1 h2 => by cases h1; rfl) rfl
    · refine V_aload_n (k := 0) dX11_tell_30 rfl rfl ?_
      refine V_getr (k := 156) dX11_tell_31 rfl (by decide) vf_X11_95 (by decide) (v_fin hI14 143 rfl) ?_
      refine V_iconst (v := 2) dX11_tell_34 rfl ?_
      refine V_dup2 dX11_tell_35 rfl rfl ?_
      refine V_iald dX11_tell_36 rfl (by decide) (fun h23 => ?_)
      refine V_iconst (v := 1) dX11_tell_37 rfl ?_
      refine V_iadd dX11_tell_38 ?_
      refine V_iast dX11_tell_39 rfl (by decide) (fun h24 => ?_)
      refine V_iconst (v := (-1)) dX11_tell_40 rfl ?_
      exact V_ret (fun _ => hI14) (Or.inr (Or.inl ⟨rfl, _, rfl⟩)) dX11_tell_41 (fun ty x h1 h2 => by cases h1; rfl) rfl
  · refine V_aload_n (k := 0) dX11_tell_13 rfl rfl ?_
    refine V_iconst (v := 1) dX11_tell_14 rfl ?_
    refine V_callVi (q := (RX11, TX11, 61)) (cls := 11) (st0 := []) (kc' := 0) (ks' := 0) dX11_tell_15 lk_X11_287 rfl (by decide) rfl rfl rfl (cX11_fail_ok M12 1 hI14) rfl rfl (by decide) (by decide) (Nat.le_of_ble_eq_true rfl) (Or.inl rfl) rfl rfl (by decide) (by decide) (fun y25 M26 e27 hI28 => ?_)
    exact V_ret (fun _ => hI28) (Or.inr (Or.inl ⟨rfl, _, rfl⟩)) dX11_tell_18 (fun ty x h1 h2 => by cases h1; rfl) rfl
def fX11_thrown (M : vM) : Option (vR × vM) := rI (M.1 130 1) M
set_option maxRecDepth 20000 in
set_option maxHeartbeats 2000000 in
theorem cX11_thrown_ok {l : Launch} {D : va_G} {dA : Nat → ClassId} (M : vM) (hI : v_WT M.2.2) : Ct l D dA sX11_thrown false 175 1 0 0 175 [.ref 130] M (fX11_thrown M) := by
  refine Ct_of (lv := [(0, .ref 130)]) (by decide +kernel) rfl (Nat.le_of_ble_eq_true rfl) rfl (fun h => by cases h) ?_
  refine V_aload_n (k := 0) dX11_thrown_0 rfl rfl ?_
  refine V_geti dX11_thrown_1 rfl (by decide) vf_X11_154 (by decide) ?_
  exact V_ret (fun _ => hI) (Or.inr (Or.inl ⟨rfl, _, rfl⟩)) dX11_thrown_4 (fun ty x h1 h2 => by cases h1; rfl) rfl
def fX11_town_17 (M : vM) : Option (vR × vM) := bi (fX11_fail M 1) fun y11 M12 => rI y11 M12
set_option maxRecDepth 20000 in
set_option maxHeartbeats 2000000 in
theorem vX11_town_17 {l : Launch} {D : va_G} {dA : Nat → ClassId} : ∀ (M : vM), v_WT M.2.2 → V l D dA sX11_town false 175 18 0 0 17 [(0, .ref 130)] [] 175 M (fX11_town_17 M) := by
  intro M hI
  refine V_aload_n (k := 0) dX11_town_17 rfl rfl ?_
  refine V_iconst (v := 1) dX11_town_18 rfl ?_
  refine V_callVi (q := (RX11, TX11, 61)) (cls := 11) (st0 := []) (kc' := 0) (ks' := 0) dX11_town_19 lk_X11_287 rfl (by decide) rfl rfl rfl (cX11_fail_ok M 1 hI) rfl rfl (by decide) (by decide) (Nat.le_of_ble_eq_true rfl) (Or.inl rfl) rfl rfl (by decide) (by decide) (fun y11 M12 e13 hI14 => ?_)
  exact V_ret (fun _ => hI14) (Or.inr (Or.inl ⟨rfl, _, rfl⟩)) dX11_town_22 (fun ty x h1 h2 => by cases h1; rfl) rfl
def fX11_town_144 : Nat → vM → Int32 → Option (vR × vM)
  | 0, _, _ => none
  | n9 + 1, M, x2 => if 100 ≤ x2 then rI 0 (v_si M 130 51 0) else if v_in x2 100 = true then fX11_town_144 n9 (v_si M 155 (Int32.toNatClampNeg x2) 1) (x2 + 1) else none
set_option maxRecDepth 20000 in
set_option maxHeartbeats 2000000 in
theorem vX11_town_144 {l : Launch} {D : va_G} {dA : Nat → ClassId} : ∀ (n9 : Nat) (M : vM) (x2 : Int32), v_WT M.2.2 → V l D dA sX11_town false 175 18 0 0 144 [(0, .ref 130), (2, .int x2)] [] 175 M (fX11_town_144 n9 M x2) := by
  intro n9
  induction n9 with
  | zero => intros; exact V_none
  | succ n9 ih =>
    intro M x2 hI
    refine V_iload_n (k := 1) dX11_town_144 rfl rfl ?_
    refine V_bipush (v := 100) dX11_town_145 rfl ?_
    refine V_icmpge (tgt := 163) dX11_town_147 (by decide) (fun h15 => ?_) (fun h15 => ?_)
    · refine V_aload_n (k := 0) dX11_town_163 rfl rfl ?_
      refine V_iconst (v := 0) dX11_town_164 rfl ?_
      refine V_puti dX11_town_165 rfl (by decide) vf_X11_299 (by decide) rfl rfl ?_
      refine V_iconst (v := 0) dX11_town_168 rfl ?_
      exact V_ret (fun _ => hI) (Or.inr (Or.inl ⟨rfl, _, rfl⟩)) dX11_town_169 (fun ty x h1 h2 => by cases h1; rfl) rfl
    · refine V_aload_n (k := 0) dX11_town_150 rfl rfl ?_
      refine V_getr (k := 155) dX11_town_151 rfl (by decide) vf_X11_92 (by decide) (v_fin hI 142 rfl) ?_
      refine V_iload_n (k := 1) dX11_town_154 rfl rfl ?_
      refine V_iconst (v := 1) dX11_town_155 rfl ?_
      refine V_iast dX11_town_156 rfl (by decide) (fun h16 => ?_)
      refine V_iinc (k := 1) (v := x2 + 1) (lv' := [(2, .int (x2 + 1)), (0, .ref 130)]) dX11_town_157 rfl rfl (by decide) rfl ?_
      refine V_goto (tgt := 144) dX11_town_160 (by decide) ?_
      refine V_sub [1, 0] rfl ?_
      exact ih (v_si M 155 (Int32.toNatClampNeg x2) 1) (x2 + 1) hI
def fX11_town_123 : Nat → vM → Int32 → Option (vR × vM)
  | 0, _, _ => none
  | n9 + 1, M, x2 => if (M.1 130 2) ≤ x2 then fX11_town_144 FU M 0 else bv (fX11_take M x2) fun M18 => fX11_town_123 n9 M18 (x2 + 1)
set_option maxRecDepth 20000 in
set_option maxHeartbeats 2000000 in
theorem vX11_town_123 {l : Launch} {D : va_G} {dA : Nat → ClassId} : ∀ (n9 : Nat) (M : vM) (x2 : Int32), v_WT M.2.2 → V l D dA sX11_town false 175 18 0 0 123 [(0, .ref 130), (2, .int x2)] [] 175 M (fX11_town_123 n9 M x2) := by
  intro n9
  induction n9 with
  | zero => intros; exact V_none
  | succ n9 ih =>
    intro M x2 hI
    refine V_iload_n (k := 1) dX11_town_123 rfl rfl ?_
    refine V_aload_n (k := 0) dX11_town_124 rfl rfl ?_
    refine V_geti dX11_town_125 rfl (by decide) vf_X11_157 (by decide) ?_
    refine V_icmpge (tgt := 142) dX11_town_128 (by decide) (fun h17 => ?_) (fun h17 => ?_)
    · refine V_iconst (v := 0) dX11_town_142 rfl ?_
      refine V_istore_n (lv' := [(2, .int 0), (0, .ref 130)]) dX11_town_143 rfl (by decide) rfl ?_
      refine V_sub [1, 0] rfl ?_
      exact vX11_town_144 FU M 0 hI
    · refine V_aload_n (k := 0) dX11_town_131 rfl rfl ?_
      refine V_iload_n (k := 1) dX11_town_132 rfl rfl ?_
      refine V_callVv (q := (RX11, TX11, 61)) (cls := 11) (st0 := []) (kc' := 0) (ks' := 0) dX11_town_133 lk_X11_296 rfl (by decide) rfl rfl rfl (cX11_take_ok M x2 hI) rfl rfl (by decide) (by decide) (Nat.le_of_ble_eq_true rfl) (Or.inl rfl) rfl rfl (by decide) (by decide) (fun  M18 e19 hI20 => ?_)
      refine V_iinc (k := 1) (v := x2 + 1) (lv' := [(2, .int (x2 + 1)), (0, .ref 130)]) dX11_town_136 rfl rfl (by decide) rfl ?_
      refine V_goto (tgt := 123) dX11_town_139 (by decide) ?_
      refine V_sub [1, 0] rfl ?_
      exact ih M18 (x2 + 1) hI20
def fX11_town_78 (M : vM) : Option (vR × vM) := if (M.1 130 38) = 0 then fX11_town_123 FU (v_si (v_si M 130 2 (M.1 130 3)) 130 21 0) 0 else if v_in 0 4 = true then if v_in 0 4 = true then rI ((v_si (v_si M 130 40 (M.1 130 39)) 156 (Int32.toNatClampNeg 0) (((v_si M 130 40 (M.1 130 39)).1 156 (Int32.toNatClampNeg 0)) + 1)).1 130 38) (v_si (v_si M 130 40 (M.1 130 39)) 156 (Int32.toNatClampNeg 0) (((v_si M 130 40 (M.1 130 39)).1 156 (Int32.toNatClampNeg 0)) + 1)) else none else none
set_option maxRecDepth 20000 in
set_option maxHeartbeats 2000000 in
theorem vX11_town_78 {l : Launch} {D : va_G} {dA : Nat → ClassId} : ∀ (M : vM), v_WT M.2.2 → V l D dA sX11_town false 175 18 0 0 78 [(0, .ref 130)] [] 175 M (fX11_town_78 M) := by
  intro M hI
  refine V_aload_n (k := 0) dX11_town_78 rfl rfl ?_
  refine V_geti dX11_town_79 rfl (by decide) vf_X11_206 (by decide) ?_
  refine V_ifeq (tgt := 108) dX11_town_82 (by decide) (fun h21 => ?_) (fun h21 => ?_)
  · refine V_aload_n (k := 0) dX11_town_108 rfl rfl ?_
    refine V_aload_n (k := 0) dX11_town_109 rfl rfl ?_
    refine V_geti dX11_town_110 rfl (by decide) vf_X11_278 (by decide) ?_
    refine V_puti dX11_town_113 rfl (by decide) vf_X11_157 (by decide) rfl rfl ?_
    refine V_aload_n (k := 0) dX11_town_116 rfl rfl ?_
    refine V_iconst (v := 0) dX11_town_117 rfl ?_
    refine V_puti dX11_town_118 rfl (by decide) vf_X11_293 (by decide) rfl rfl ?_
    refine V_iconst (v := 0) dX11_town_121 rfl ?_
    refine V_istore_n (lv' := [(2, .int 0), (0, .ref 130)]) dX11_town_122 rfl (by decide) rfl ?_
    refine V_sub [1, 0] rfl ?_
    exact vX11_town_123 FU (v_si (v_si M 130 2 (M.1 130 3)) 130 21 0) 0 hI
  · refine V_aload_n (k := 0) dX11_town_85 rfl rfl ?_
    refine V_aload_n (k := 0) dX11_town_86 rfl rfl ?_
    refine V_geti dX11_town_87 rfl (by decide) vf_X11_209 (by decide) ?_
    refine V_puti dX11_town_90 rfl (by decide) vf_X11_101 (by decide) rfl rfl ?_
    refine V_aload_n (k := 0) dX11_town_93 rfl rfl ?_
    refine V_getr (k := 156) dX11_town_94 rfl (by decide) vf_X11_95 (by decide) (v_fin hI 143 rfl) ?_
    refine V_iconst (v := 0) dX11_town_97 rfl ?_
    refine V_dup2 dX11_town_98 rfl rfl ?_
    refine V_iald dX11_town_99 rfl (by decide) (fun h22 => ?_)
    refine V_iconst (v := 1) dX11_town_100 rfl ?_
    refine V_iadd dX11_town_101 ?_
    refine V_iast dX11_town_102 rfl (by decide) (fun h23 => ?_)
    refine V_aload_n (k := 0) dX11_town_103 rfl rfl ?_
    refine V_geti dX11_town_104 rfl (by decide) vf_X11_206 (by decide) ?_
    exact V_ret (fun _ => hI) (Or.inr (Or.inl ⟨rfl, _, rfl⟩)) dX11_town_107 (fun ty x h1 h2 => by cases h1; rfl) rfl
def fX11_town_57 : Nat → vM → Option (vR × vM)
  | 0, _ => none
  | n9 + 1, M => if (M.1 130 38) = 0 then if (M.1 130 34) = 0 then fX11_town_78 M else bv (fX11_readWork M ) fun M26 => fX11_town_57 n9 M26 else fX11_town_78 M
set_option maxRecDepth 20000 in
set_option maxHeartbeats 2000000 in
theorem vX11_town_57 {l : Launch} {D : va_G} {dA : Nat → ClassId} : ∀ (n9 : Nat) (M : vM), v_WT M.2.2 → V l D dA sX11_town false 175 18 0 0 57 [(0, .ref 130)] [] 175 M (fX11_town_57 n9 M) := by
  intro n9
  induction n9 with
  | zero => intros; exact V_none
  | succ n9 ih =>
    intro M hI
    refine V_aload_n (k := 0) dX11_town_57 rfl rfl ?_
    refine V_geti dX11_town_58 rfl (by decide) vf_X11_206 (by decide) ?_
    refine V_ifne (tgt := 78) dX11_town_61 (by decide) (fun h24 => ?_) (fun h24 => ?_)
    · refine V_sub [0] rfl ?_
      exact vX11_town_78 M hI
    · refine V_aload_n (k := 0) dX11_town_64 rfl rfl ?_
      refine V_geti dX11_town_65 rfl (by decide) vf_X11_184 (by decide) ?_
      refine V_ifeq (tgt := 78) dX11_town_68 (by decide) (fun h25 => ?_) (fun h25 => ?_)
      · refine V_sub [0] rfl ?_
        exact vX11_town_78 M hI
      · refine V_aload_n (k := 0) dX11_town_71 rfl rfl ?_
        refine V_callVv (q := (RX11, TX11, 61)) (cls := 11) (st0 := []) (kc' := 0) (ks' := 0) dX11_town_72 lk_X11_290 rfl (by decide) rfl rfl rfl (cX11_readWork_ok M  hI) rfl rfl (by decide) (by decide) (Nat.le_of_ble_eq_true rfl) (Or.inl rfl) rfl rfl (by decide) (by decide) (fun  M26 e27 hI28 => ?_)
        refine V_goto (tgt := 57) dX11_town_75 (by decide) ?_
        refine V_sub [0] rfl ?_
        exact ih M26 hI28
def fX11_town (M : vM) (x1 : Int32) : Option (vR × vM) := if x1 < 0 then fX11_town_17 (v_si M 130 1 0) else if x1 ≤ ((v_si M 130 1 0).1 130 31) then bv (fX11_stepOn (v_si (v_si (v_si (v_si (v_si (v_si (v_si M 130 1 0) 130 31 0) 130 33 x1) 130 32 0) 130 38 0) 130 40 ((-1))) 130 3 0) ) fun M31 => fX11_town_57 FU M31 else fX11_town_17 (v_si M 130 1 0)
set_option maxRecDepth 20000 in
set_option maxHeartbeats 2000000 in
theorem cX11_town_ok {l : Launch} {D : va_G} {dA : Nat → ClassId} (M : vM) (x1 : Int32) (hI : v_WT M.2.2) : Ct l D dA sX11_town false 175 18 0 0 175 [.ref 130, .int x1] M (fX11_town M x1) := by
  refine Ct_of (lv := [(0, .ref 130), (1, .int x1)]) (by decide +kernel) rfl (Nat.le_of_ble_eq_true rfl) rfl (fun h => by cases h) ?_
  refine V_aload_n (k := 0) dX11_town_0 rfl rfl ?_
  refine V_iconst (v := 0) dX11_town_1 rfl ?_
  refine V_puti dX11_town_2 rfl (by decide) vf_X11_154 (by decide) rfl rfl ?_
  refine V_iload_n (k := 1) dX11_town_5 rfl rfl ?_
  refine V_iflt (tgt := 17) dX11_town_6 (by decide) (fun h29 => ?_) (fun h29 => ?_)
  · refine V_sub [0] rfl ?_
    exact vX11_town_17 (v_si M 130 1 0) hI
  · refine V_iload_n (k := 1) dX11_town_9 rfl rfl ?_
    refine V_aload_n (k := 0) dX11_town_10 rfl rfl ?_
    refine V_geti dX11_town_11 rfl (by decide) vf_X11_168 (by decide) ?_
    refine V_icmple (tgt := 23) dX11_town_14 (by decide) (fun h30 => ?_) (fun h30 => ?_)
    · refine V_aload_n (k := 0) dX11_town_23 rfl rfl ?_
      refine V_iconst (v := 0) dX11_town_24 rfl ?_
      refine V_puti dX11_town_25 rfl (by decide) vf_X11_168 (by decide) rfl rfl ?_
      refine V_aload_n (k := 0) dX11_town_28 rfl rfl ?_
      refine V_iload_n (k := 1) dX11_town_29 rfl rfl ?_
      refine V_puti dX11_town_30 rfl (by decide) vf_X11_171 (by decide) rfl rfl ?_
      refine V_aload_n (k := 0) dX11_town_33 rfl rfl ?_
      refine V_iconst (v := 0) dX11_town_34 rfl ?_
      refine V_puti dX11_town_35 rfl (by decide) vf_X11_174 (by decide) rfl rfl ?_
      refine V_aload_n (k := 0) dX11_town_38 rfl rfl ?_
      refine V_iconst (v := 0) dX11_town_39 rfl ?_
      refine V_puti dX11_town_40 rfl (by decide) vf_X11_206 (by decide) rfl rfl ?_
      refine V_aload_n (k := 0) dX11_town_43 rfl rfl ?_
      refine V_iconst (v := (-1)) dX11_town_44 rfl ?_
      refine V_puti dX11_town_45 rfl (by decide) vf_X11_101 (by decide) rfl rfl ?_
      refine V_aload_n (k := 0) dX11_town_48 rfl rfl ?_
      refine V_iconst (v := 0) dX11_town_49 rfl ?_
      refine V_puti dX11_town_50 rfl (by decide) vf_X11_278 (by decide) rfl rfl ?_
      refine V_aload_n (k := 0) dX11_town_53 rfl rfl ?_
      refine V_callVv (q := (RX11, TX11, 61)) (cls := 11) (st0 := []) (kc' := 0) (ks' := 0) dX11_town_54 lk_X11_223 rfl (by decide) rfl rfl rfl (cX11_stepOn_ok (v_si (v_si (v_si (v_si (v_si (v_si (v_si M 130 1 0) 130 31 0) 130 33 x1) 130 32 0) 130 38 0) 130 40 ((-1))) 130 3 0)  hI) rfl rfl (by decide) (by decide) (Nat.le_of_ble_eq_true rfl) (Or.inl rfl) rfl rfl (by decide) (by decide) (fun  M31 e32 hI33 => ?_)
      refine V_sub [0] rfl ?_
      exact vX11_town_57 FU M31 hI33
    · refine V_sub [0] rfl ?_
      exact vX11_town_17 (v_si M 130 1 0) hI
def fX11_way_23 (M : vM) : Option (vR × vM) := bi (fX11_fail M 1) fun y9 M10 => rI y9 M10
set_option maxRecDepth 20000 in
set_option maxHeartbeats 2000000 in
theorem vX11_way_23 {l : Launch} {D : va_G} {dA : Nat → ClassId} : ∀ (M : vM), v_WT M.2.2 → V l D dA sX11_way false 175 4 0 0 23 [(0, .ref 130)] [] 175 M (fX11_way_23 M) := by
  intro M hI
  refine V_aload_n (k := 0) dX11_way_23 rfl rfl ?_
  refine V_iconst (v := 1) dX11_way_24 rfl ?_
  refine V_callVi (q := (RX11, TX11, 61)) (cls := 11) (st0 := []) (kc' := 0) (ks' := 0) dX11_way_25 lk_X11_287 rfl (by decide) rfl rfl rfl (cX11_fail_ok M 1 hI) rfl rfl (by decide) (by decide) (Nat.le_of_ble_eq_true rfl) (Or.inl rfl) rfl rfl (by decide) (by decide) (fun y9 M10 e11 hI12 => ?_)
  exact V_ret (fun _ => hI12) (Or.inr (Or.inl ⟨rfl, _, rfl⟩)) dX11_way_28 (fun ty x h1 h2 => by cases h1; rfl) rfl
def fX11_way (M : vM) (x1 : Int32) (x2 : Int32) (x3 : Int32) : Option (vR × vM) := bi (fX11_isWay (v_si M 130 1 0) x1 x2) fun y13 M14 => if y13 = 0 then fX11_way_23 M14 else bi (fX11_isIn M14 x3 0 3) fun y18 M19 => if y18 = 0 then fX11_way_23 M19 else if x3 = 0 then if v_in ((2000 * x1) + x2) 12000 = true then rI (M19.1 146 (Int32.toNatClampNeg ((2000 * x1) + x2))) M19 else none else if x3 = 1 then bi (fX11_markOf M19 x1 x2) fun y26 M27 => rI y26 M27 else if x3 = 2 then if v_in ((2000 * x1) + x2) 12000 = true then if (M19.1 148 (Int32.toNatClampNeg ((2000 * x1) + x2))) = 0 then rI 0 M19 else rI 1 M19 else none else bi (fX11_numberLeft M19 x1 x2) fun y33 M34 => rI y33 M34
set_option maxRecDepth 20000 in
set_option maxHeartbeats 2000000 in
theorem cX11_way_ok {l : Launch} {D : va_G} {dA : Nat → ClassId} (M : vM) (x1 : Int32) (x2 : Int32) (x3 : Int32) (hI : v_WT M.2.2) : Ct l D dA sX11_way false 175 4 0 0 175 [.ref 130, .int x1, .int x2, .int x3] M (fX11_way M x1 x2 x3) := by
  refine Ct_of (lv := [(0, .ref 130), (1, .int x1), (2, .int x2), (3, .int x3)]) (by decide +kernel) rfl (Nat.le_of_ble_eq_true rfl) rfl (fun h => by cases h) ?_
  refine V_aload_n (k := 0) dX11_way_0 rfl rfl ?_
  refine V_iconst (v := 0) dX11_way_1 rfl ?_
  refine V_puti dX11_way_2 rfl (by decide) vf_X11_154 (by decide) rfl rfl ?_
  refine V_aload_n (k := 0) dX11_way_5 rfl rfl ?_
  refine V_iload_n (k := 1) dX11_way_6 rfl rfl ?_
  refine V_iload_n (k := 2) dX11_way_7 rfl rfl ?_
  refine V_callVi (q := (RX11, TX11, 61)) (cls := 11) (st0 := []) (kc' := 0) (ks' := 0) dX11_way_8 lk_X11_362 rfl (by decide) rfl rfl rfl (cX11_isWay_ok (v_si M 130 1 0) x1 x2 hI) rfl rfl (by decide) (by decide) (Nat.le_of_ble_eq_true rfl) (Or.inl rfl) rfl rfl (by decide) (by decide) (fun y13 M14 e15 hI16 => ?_)
  refine V_ifeq (tgt := 23) dX11_way_11 (by decide) (fun h17 => ?_) (fun h17 => ?_)
  · refine V_sub [0] rfl ?_
    exact vX11_way_23 M14 hI16
  · refine V_iload_n (k := 3) dX11_way_14 rfl rfl ?_
    refine V_iconst (v := 0) dX11_way_15 rfl ?_
    refine V_iconst (v := 3) dX11_way_16 rfl ?_
    refine V_callSi (st0 := []) (kc' := 0) (ks' := 0) dX11_way_17 lk_X11_160 rfl (cX11_isIn_ok M14 x3 0 3 hI16) rfl rfl (by decide) (by decide) (Nat.le_of_ble_eq_true rfl) (Or.inl rfl) rfl rfl (by decide) (by decide) (fun y18 M19 e20 hI21 => ?_)
    refine V_ifne (tgt := 29) dX11_way_20 (by decide) (fun h22 => ?_) (fun h22 => ?_)
    · refine V_iload_n (k := 3) dX11_way_29 rfl rfl ?_
      refine V_tcase (k := 0) (tgt := 56) dX11_way_30 (by decide) (by decide) rfl (by decide) (fun h23 => ?_) (fun h23 => ?_)
      · refine V_aload_n (k := 0) dX11_way_56 rfl rfl ?_
        refine V_getr (k := 146) dX11_way_57 rfl (by decide) vf_X11_64 (by decide) (v_fin hI21 133 rfl) ?_
        refine V_sipush (v := 2000) dX11_way_60 rfl ?_
        refine V_iload_n (k := 1) dX11_way_63 rfl rfl ?_
        refine V_imul dX11_way_64 ?_
        refine V_iload_n (k := 2) dX11_way_65 rfl rfl ?_
        refine V_iadd dX11_way_66 ?_
        refine V_iald dX11_way_67 rfl (by decide) (fun h24 => ?_)
        exact V_ret (fun _ => hI21) (Or.inr (Or.inl ⟨rfl, _, rfl⟩)) dX11_way_68 (fun ty x h1 h2 => by cases h1; rfl) rfl
      refine V_tcase (k := 1) (tgt := 69) dX11_way_30 (by decide) (by decide) rfl (by decide) (fun h25 => ?_) (fun h25 => ?_)
      · refine V_aload_n (k := 0) dX11_way_69 rfl rfl ?_
        refine V_iload_n (k := 1) dX11_way_70 rfl rfl ?_
        refine V_iload_n (k := 2) dX11_way_71 rfl rfl ?_
        refine V_callVi (q := (RX11, TX11, 61)) (cls := 11) (st0 := []) (kc' := 0) (ks' := 0) dX11_way_72 lk_X11_349 rfl (by decide) rfl rfl rfl (cX11_markOf_ok M19 x1 x2 hI21) rfl rfl (by decide) (by decide) (Nat.le_of_ble_eq_true rfl) (Or.inl rfl) rfl rfl (by decide) (by decide) (fun y26 M27 e28 hI29 => ?_)
        exact V_ret (fun _ => hI29) (Or.inr (Or.inl ⟨rfl, _, rfl⟩)) dX11_way_75 (fun ty x h1 h2 => by cases h1; rfl) rfl
      refine V_tcase (k := 2) (tgt := 76) dX11_way_30 (by decide) (by decide) rfl (by decide) (fun h30 => ?_) (fun h30 => ?_)
      · refine V_aload_n (k := 0) dX11_way_76 rfl rfl ?_
        refine V_getr (k := 148) dX11_way_77 rfl (by decide) vf_X11_70 (by decide) (v_fin hI21 135 rfl) ?_
        refine V_sipush (v := 2000) dX11_way_80 rfl ?_
        refine V_iload_n (k := 1) dX11_way_83 rfl rfl ?_
        refine V_imul dX11_way_84 ?_
        refine V_iload_n (k := 2) dX11_way_85 rfl rfl ?_
        refine V_iadd dX11_way_86 ?_
        refine V_zald dX11_way_87 rfl (by decide) (fun h31 => ?_)
        refine V_ifeq (tgt := 95) dX11_way_88 (by decide) (fun h32 => ?_) (fun h32 => ?_)
        · refine V_iconst (v := 0) dX11_way_95 rfl ?_
          exact V_ret (fun _ => hI21) (Or.inr (Or.inl ⟨rfl, _, rfl⟩)) dX11_way_96 (fun ty x h1 h2 => by cases h1; rfl) rfl
        · refine V_iconst (v := 1) dX11_way_91 rfl ?_
          refine V_goto (tgt := 96) dX11_way_92 (by decide) ?_
          exact V_ret (fun _ => hI21) (Or.inr (Or.inl ⟨rfl, _, rfl⟩)) dX11_way_96 (fun ty x h1 h2 => by cases h1; rfl) rfl
      refine V_tdef (tgt := 97) dX11_way_30 (v_tout (m := 2) (by decide) (lt_s (lt_s (lt_s lt_0 h23) h25) h30)) (by decide) ?_
      refine V_aload_n (k := 0) dX11_way_97 rfl rfl ?_
      refine V_iload_n (k := 1) dX11_way_98 rfl rfl ?_
      refine V_iload_n (k := 2) dX11_way_99 rfl rfl ?_
      refine V_callVi (q := (RX11, TX11, 61)) (cls := 11) (st0 := []) (kc' := 0) (ks' := 0) dX11_way_100 lk_X11_366 rfl (by decide) rfl rfl rfl (cX11_numberLeft_ok M19 x1 x2 hI21) rfl rfl (by decide) (by decide) (Nat.le_of_ble_eq_true rfl) (Or.inl rfl) rfl rfl (by decide) (by decide) (fun y33 M34 e35 hI36 => ?_)
      exact V_ret (fun _ => hI36) (Or.inr (Or.inl ⟨rfl, _, rfl⟩)) dX11_way_103 (fun ty x h1 h2 => by cases h1; rfl) rfl
    · refine V_sub [0] rfl ?_
      exact vX11_way_23 M19 hI21
def fX11_weight (M : vM) (x1 : Int32) (x2 : Int32) : Option (vR × vM) := bi (fX11_isIn (v_si M 130 1 0) x1 0 99) fun y4 M5 => if y4 = 0 then rI 0 M5 else bi (fX11_isIn M5 x2 0 99) fun y9 M10 => if y9 = 0 then rI 0 M10 else if v_in x1 100 = true then rI 1 (v_si M10 155 (Int32.toNatClampNeg x1) x2) else none
set_option maxRecDepth 20000 in
set_option maxHeartbeats 2000000 in
theorem cX11_weight_ok {l : Launch} {D : va_G} {dA : Nat → ClassId} (M : vM) (x1 : Int32) (x2 : Int32) (hI : v_WT M.2.2) : Ct l D dA sX11_weight false 175 2 0 0 175 [.ref 130, .int x1, .int x2] M (fX11_weight M x1 x2) := by
  refine Ct_of (lv := [(0, .ref 130), (1, .int x1), (2, .int x2)]) (by decide +kernel) rfl (Nat.le_of_ble_eq_true rfl) rfl (fun h => by cases h) ?_
  refine V_aload_n (k := 0) dX11_weight_0 rfl rfl ?_
  refine V_iconst (v := 0) dX11_weight_1 rfl ?_
  refine V_puti dX11_weight_2 rfl (by decide) vf_X11_154 (by decide) rfl rfl ?_
  refine V_iload_n (k := 1) dX11_weight_5 rfl rfl ?_
  refine V_iconst (v := 0) dX11_weight_6 rfl ?_
  refine V_bipush (v := 99) dX11_weight_7 rfl ?_
  refine V_callSi (st0 := []) (kc' := 0) (ks' := 0) dX11_weight_9 lk_X11_160 rfl (cX11_isIn_ok (v_si M 130 1 0) x1 0 99 hI) rfl rfl (by decide) (by decide) (Nat.le_of_ble_eq_true rfl) (Or.inl rfl) rfl rfl (by decide) (by decide) (fun y4 M5 e6 hI7 => ?_)
  refine V_ifeq (tgt := 25) dX11_weight_12 (by decide) (fun h8 => ?_) (fun h8 => ?_)
  · refine V_iconst (v := 0) dX11_weight_25 rfl ?_
    exact V_ret (fun _ => hI7) (Or.inr (Or.inr (Or.inl ⟨rfl, _, rfl⟩))) dX11_weight_26 (fun ty x h1 h2 => by cases h1; cases h2; rfl) rfl
  · refine V_iload_n (k := 2) dX11_weight_15 rfl rfl ?_
    refine V_iconst (v := 0) dX11_weight_16 rfl ?_
    refine V_bipush (v := 99) dX11_weight_17 rfl ?_
    refine V_callSi (st0 := []) (kc' := 0) (ks' := 0) dX11_weight_19 lk_X11_160 rfl (cX11_isIn_ok M5 x2 0 99 hI7) rfl rfl (by decide) (by decide) (Nat.le_of_ble_eq_true rfl) (Or.inl rfl) rfl rfl (by decide) (by decide) (fun y9 M10 e11 hI12 => ?_)
    refine V_ifne (tgt := 27) dX11_weight_22 (by decide) (fun h13 => ?_) (fun h13 => ?_)
    · refine V_aload_n (k := 0) dX11_weight_27 rfl rfl ?_
      refine V_getr (k := 155) dX11_weight_28 rfl (by decide) vf_X11_92 (by decide) (v_fin hI12 142 rfl) ?_
      refine V_iload_n (k := 1) dX11_weight_31 rfl rfl ?_
      refine V_iload_n (k := 2) dX11_weight_32 rfl rfl ?_
      refine V_iast dX11_weight_33 rfl (by decide) (fun h14 => ?_)
      refine V_iconst (v := 1) dX11_weight_34 rfl ?_
      exact V_ret (fun _ => hI12) (Or.inr (Or.inr (Or.inl ⟨rfl, _, rfl⟩))) dX11_weight_35 (fun ty x h1 h2 => by cases h1; cases h2; rfl) rfl
    · refine V_iconst (v := 0) dX11_weight_25 rfl ?_
      exact V_ret (fun _ => hI12) (Or.inr (Or.inr (Or.inl ⟨rfl, _, rfl⟩))) dX11_weight_26 (fun ty x h1 h2 => by cases h1; cases h2; rfl) rfl
def fX11_work (M : vM) (x1 : Int32) (x2 : Int32) : Option (vR × vM) := bi (fX11_isWork (v_si M 130 1 0) x1) fun y20 M21 => if y20 = 0 then bi (fX11_fail M21 1) fun y55 M56 => rI y55 M56 else if x2 = 0 then if v_in x1 12 = true then rI (M21.1 132 (Int32.toNatClampNeg x1)) M21 else none else if x2 = 1 then if v_in x1 6 = true then rI (M21.1 145 (Int32.toNatClampNeg x1)) M21 else none else if x2 = 2 then if v_in x1 12 = true then rI (M21.1 134 (Int32.toNatClampNeg x1)) M21 else none else if x2 = 3 then if v_in x1 12 = true then rI (M21.1 135 (Int32.toNatClampNeg x1)) M21 else none else if x2 = 4 then if v_in x1 12 = true then rI (M21.1 136 (Int32.toNatClampNeg x1)) M21 else none else if x2 = 5 then bi (fX11_leftOf M21 x1) fun y36 M37 => rI y36 M37 else if x2 = 6 then bi (fX11_doneOf M21 x1) fun y41 M42 => rI y41 M42 else if x2 = 7 then if v_in x1 12 = true then rI (M21.1 137 (Int32.toNatClampNeg x1)) M21 else none else if x2 = 8 then if v_in x1 6 = true then rI (M21.1 151 (Int32.toNatClampNeg x1)) M21 else none else if x2 = 9 then if v_in x1 6 = true then rI (M21.1 153 (Int32.toNatClampNeg x1)) M21 else none else bi (fX11_fail M21 1) fun y51 M52 => rI y51 M52
set_option maxRecDepth 20000 in
set_option maxHeartbeats 2000000 in
theorem cX11_work_ok {l : Launch} {D : va_G} {dA : Nat → ClassId} (M : vM) (x1 : Int32) (x2 : Int32) (hI : v_WT M.2.2) : Ct l D dA sX11_work false 175 3 0 0 175 [.ref 130, .int x1, .int x2] M (fX11_work M x1 x2) := by
  refine Ct_of (lv := [(0, .ref 130), (1, .int x1), (2, .int x2)]) (by decide +kernel) rfl (Nat.le_of_ble_eq_true rfl) rfl (fun h => by cases h) ?_
  refine V_aload_n (k := 0) dX11_work_0 rfl rfl ?_
  refine V_iconst (v := 0) dX11_work_1 rfl ?_
  refine V_puti dX11_work_2 rfl (by decide) vf_X11_154 (by decide) rfl rfl ?_
  refine V_aload_n (k := 0) dX11_work_5 rfl rfl ?_
  refine V_iload_n (k := 1) dX11_work_6 rfl rfl ?_
  refine V_callVi (q := (RX11, TX11, 61)) (cls := 11) (st0 := []) (kc' := 0) (ks' := 0) dX11_work_7 lk_X11_164 rfl (by decide) rfl rfl rfl (cX11_isWork_ok (v_si M 130 1 0) x1 hI) rfl rfl (by decide) (by decide) (Nat.le_of_ble_eq_true rfl) (Or.inl rfl) rfl rfl (by decide) (by decide) (fun y20 M21 e22 hI23 => ?_)
  refine V_ifne (tgt := 19) dX11_work_10 (by decide) (fun h24 => ?_) (fun h24 => ?_)
  · refine V_iload_n (k := 2) dX11_work_19 rfl rfl ?_
    refine V_tcase (k := 0) (tgt := 76) dX11_work_20 (by decide) (by decide) rfl (by decide) (fun h25 => ?_) (fun h25 => ?_)
    · refine V_aload_n (k := 0) dX11_work_76 rfl rfl ?_
      refine V_getr (k := 132) dX11_work_77 rfl (by decide) vf_X11_21 (by decide) (v_fin hI23 119 rfl) ?_
      refine V_iload_n (k := 1) dX11_work_80 rfl rfl ?_
      refine V_iald dX11_work_81 rfl (by decide) (fun h26 => ?_)
      exact V_ret (fun _ => hI23) (Or.inr (Or.inl ⟨rfl, _, rfl⟩)) dX11_work_82 (fun ty x h1 h2 => by cases h1; rfl) rfl
    refine V_tcase (k := 1) (tgt := 83) dX11_work_20 (by decide) (by decide) rfl (by decide) (fun h27 => ?_) (fun h27 => ?_)
    · refine V_aload_n (k := 0) dX11_work_83 rfl rfl ?_
      refine V_getr (k := 145) dX11_work_84 rfl (by decide) vf_X11_61 (by decide) (v_fin hI23 132 rfl) ?_
      refine V_iload_n (k := 1) dX11_work_87 rfl rfl ?_
      refine V_iald dX11_work_88 rfl (by decide) (fun h28 => ?_)
      exact V_ret (fun _ => hI23) (Or.inr (Or.inl ⟨rfl, _, rfl⟩)) dX11_work_89 (fun ty x h1 h2 => by cases h1; rfl) rfl
    refine V_tcase (k := 2) (tgt := 90) dX11_work_20 (by decide) (by decide) rfl (by decide) (fun h29 => ?_) (fun h29 => ?_)
    · refine V_aload_n (k := 0) dX11_work_90 rfl rfl ?_
      refine V_getr (k := 134) dX11_work_91 rfl (by decide) vf_X11_28 (by decide) (v_fin hI23 121 rfl) ?_
      refine V_iload_n (k := 1) dX11_work_94 rfl rfl ?_
      refine V_iald dX11_work_95 rfl (by decide) (fun h30 => ?_)
      exact V_ret (fun _ => hI23) (Or.inr (Or.inl ⟨rfl, _, rfl⟩)) dX11_work_96 (fun ty x h1 h2 => by cases h1; rfl) rfl
    refine V_tcase (k := 3) (tgt := 97) dX11_work_20 (by decide) (by decide) rfl (by decide) (fun h31 => ?_) (fun h31 => ?_)
    · refine V_aload_n (k := 0) dX11_work_97 rfl rfl ?_
      refine V_getr (k := 135) dX11_work_98 rfl (by decide) vf_X11_31 (by decide) (v_fin hI23 122 rfl) ?_
      refine V_iload_n (k := 1) dX11_work_101 rfl rfl ?_
      refine V_iald dX11_work_102 rfl (by decide) (fun h32 => ?_)
      exact V_ret (fun _ => hI23) (Or.inr (Or.inl ⟨rfl, _, rfl⟩)) dX11_work_103 (fun ty x h1 h2 => by cases h1; rfl) rfl
    refine V_tcase (k := 4) (tgt := 104) dX11_work_20 (by decide) (by decide) rfl (by decide) (fun h33 => ?_) (fun h33 => ?_)
    · refine V_aload_n (k := 0) dX11_work_104 rfl rfl ?_
      refine V_getr (k := 136) dX11_work_105 rfl (by decide) vf_X11_34 (by decide) (v_fin hI23 123 rfl) ?_
      refine V_iload_n (k := 1) dX11_work_108 rfl rfl ?_
      refine V_iald dX11_work_109 rfl (by decide) (fun h34 => ?_)
      exact V_ret (fun _ => hI23) (Or.inr (Or.inl ⟨rfl, _, rfl⟩)) dX11_work_110 (fun ty x h1 h2 => by cases h1; rfl) rfl
    refine V_tcase (k := 5) (tgt := 111) dX11_work_20 (by decide) (by decide) rfl (by decide) (fun h35 => ?_) (fun h35 => ?_)
    · refine V_aload_n (k := 0) dX11_work_111 rfl rfl ?_
      refine V_iload_n (k := 1) dX11_work_112 rfl rfl ?_
      refine V_callVi (q := (RX11, TX11, 61)) (cls := 11) (st0 := []) (kc' := 0) (ks' := 0) dX11_work_113 lk_X11_356 rfl (by decide) rfl rfl rfl (cX11_leftOf_ok M21 x1 hI23) rfl rfl (by decide) (by decide) (Nat.le_of_ble_eq_true rfl) (Or.inl rfl) rfl rfl (by decide) (by decide) (fun y36 M37 e38 hI39 => ?_)
      exact V_ret (fun _ => hI39) (Or.inr (Or.inl ⟨rfl, _, rfl⟩)) dX11_work_116 (fun ty x h1 h2 => by cases h1; rfl) rfl
    refine V_tcase (k := 6) (tgt := 117) dX11_work_20 (by decide) (by decide) rfl (by decide) (fun h40 => ?_) (fun h40 => ?_)
    · refine V_aload_n (k := 0) dX11_work_117 rfl rfl ?_
      refine V_iload_n (k := 1) dX11_work_118 rfl rfl ?_
      refine V_callVi (q := (RX11, TX11, 61)) (cls := 11) (st0 := []) (kc' := 0) (ks' := 0) dX11_work_119 lk_X11_359 rfl (by decide) rfl rfl rfl (cX11_doneOf_ok M21 x1 hI23) rfl rfl (by decide) (by decide) (Nat.le_of_ble_eq_true rfl) (Or.inl rfl) rfl rfl (by decide) (by decide) (fun y41 M42 e43 hI44 => ?_)
      exact V_ret (fun _ => hI44) (Or.inr (Or.inl ⟨rfl, _, rfl⟩)) dX11_work_122 (fun ty x h1 h2 => by cases h1; rfl) rfl
    refine V_tcase (k := 7) (tgt := 123) dX11_work_20 (by decide) (by decide) rfl (by decide) (fun h45 => ?_) (fun h45 => ?_)
    · refine V_aload_n (k := 0) dX11_work_123 rfl rfl ?_
      refine V_getr (k := 137) dX11_work_124 rfl (by decide) vf_X11_37 (by decide) (v_fin hI23 124 rfl) ?_
      refine V_iload_n (k := 1) dX11_work_127 rfl rfl ?_
      refine V_iald dX11_work_128 rfl (by decide) (fun h46 => ?_)
      exact V_ret (fun _ => hI23) (Or.inr (Or.inl ⟨rfl, _, rfl⟩)) dX11_work_129 (fun ty x h1 h2 => by cases h1; rfl) rfl
    refine V_tcase (k := 8) (tgt := 130) dX11_work_20 (by decide) (by decide) rfl (by decide) (fun h47 => ?_) (fun h47 => ?_)
    · refine V_aload_n (k := 0) dX11_work_130 rfl rfl ?_
      refine V_getr (k := 151) dX11_work_131 rfl (by decide) vf_X11_80 (by decide) (v_fin hI23 138 rfl) ?_
      refine V_iload_n (k := 1) dX11_work_134 rfl rfl ?_
      refine V_iald dX11_work_135 rfl (by decide) (fun h48 => ?_)
      exact V_ret (fun _ => hI23) (Or.inr (Or.inl ⟨rfl, _, rfl⟩)) dX11_work_136 (fun ty x h1 h2 => by cases h1; rfl) rfl
    refine V_tcase (k := 9) (tgt := 137) dX11_work_20 (by decide) (by decide) rfl (by decide) (fun h49 => ?_) (fun h49 => ?_)
    · refine V_aload_n (k := 0) dX11_work_137 rfl rfl ?_
      refine V_getr (k := 153) dX11_work_138 rfl (by decide) vf_X11_86 (by decide) (v_fin hI23 140 rfl) ?_
      refine V_iload_n (k := 1) dX11_work_141 rfl rfl ?_
      refine V_iald dX11_work_142 rfl (by decide) (fun h50 => ?_)
      exact V_ret (fun _ => hI23) (Or.inr (Or.inl ⟨rfl, _, rfl⟩)) dX11_work_143 (fun ty x h1 h2 => by cases h1; rfl) rfl
    refine V_tdef (tgt := 144) dX11_work_20 (v_tout (m := 9) (by decide) (lt_s (lt_s (lt_s (lt_s (lt_s (lt_s (lt_s (lt_s (lt_s (lt_s lt_0 h25) h27) h29) h31) h33) h35) h40) h45) h47) h49)) (by decide) ?_
    refine V_aload_n (k := 0) dX11_work_144 rfl rfl ?_
    refine V_iconst (v := 1) dX11_work_145 rfl ?_
    refine V_callVi (q := (RX11, TX11, 61)) (cls := 11) (st0 := []) (kc' := 0) (ks' := 0) dX11_work_146 lk_X11_287 rfl (by decide) rfl rfl rfl (cX11_fail_ok M21 1 hI23) rfl rfl (by decide) (by decide) (Nat.le_of_ble_eq_true rfl) (Or.inl rfl) rfl rfl (by decide) (by decide) (fun y51 M52 e53 hI54 => ?_)
    exact V_ret (fun _ => hI54) (Or.inr (Or.inl ⟨rfl, _, rfl⟩)) dX11_work_149 (fun ty x h1 h2 => by cases h1; rfl) rfl
  · refine V_aload_n (k := 0) dX11_work_13 rfl rfl ?_
    refine V_iconst (v := 1) dX11_work_14 rfl ?_
    refine V_callVi (q := (RX11, TX11, 61)) (cls := 11) (st0 := []) (kc' := 0) (ks' := 0) dX11_work_15 lk_X11_287 rfl (by decide) rfl rfl rfl (cX11_fail_ok M21 1 hI23) rfl rfl (by decide) (by decide) (Nat.le_of_ble_eq_true rfl) (Or.inl rfl) rfl rfl (by decide) (by decide) (fun y55 M56 e57 hI58 => ?_)
    exact V_ret (fun _ => hI58) (Or.inr (Or.inl ⟨rfl, _, rfl⟩)) dX11_work_18 (fun ty x h1 h2 => by cases h1; rfl) rfl
def fX11_yearCosts_18 (k10 : vM → Int32 → Int32 → Int32 → Int32 → Int32 → Option (vR × vM)) : Nat → vM → Int32 → Int32 → Int32 → Int32 → Int32 → Int32 → Option (vR × vM)
  | 0, _, _, _, _, _, _, _ => none
  | n9 + 1, M, x1, x2, x4, x5, x6, x7 => if x2 ≤ x7 then k10 M x1 x2 x4 x5 (x6 + (-1)) else if v_in x7 100 = true then if (M.1 155 (Int32.toNatClampNeg x7)) = x6 then bi (fX11_leftAt M x1 x5) fun y9 M10 => if v_in ((2000 * x1) + y9) 12000 = true then fX11_yearCosts_18 k10 n9 M10 x1 x2 (x4 + (x6 * (M10.1 146 (Int32.toNatClampNeg ((2000 * x1) + y9))))) (x5 + 1) x6 (x7 + 1) else none else fX11_yearCosts_18 k10 n9 M x1 x2 x4 x5 x6 (x7 + 1) else none
set_option maxRecDepth 20000 in
set_option maxHeartbeats 2000000 in
theorem vX11_yearCosts_18 {l : Launch} {D : va_G} {dA : Nat → ClassId} {k10 : vM → Int32 → Int32 → Int32 → Int32 → Int32 → Option (vR × vM)} (hk10 : ∀ (M : vM) (x1 : Int32) (x2 : Int32) (x4 : Int32) (x5 : Int32) (x6 : Int32), v_WT M.2.2 → V l D dA sX11_yearCosts false 175 2 0 0 10 [(0, .ref 130), (1, .int x1), (2, .int x2), (4, .int x4), (5, .int x5), (6, .int x6)] [] 175 M (k10 M x1 x2 x4 x5 x6)) : ∀ (n9 : Nat) (M : vM) (x1 : Int32) (x2 : Int32) (x4 : Int32) (x5 : Int32) (x6 : Int32) (x7 : Int32), v_WT M.2.2 → V l D dA sX11_yearCosts false 175 2 0 0 18 [(0, .ref 130), (1, .int x1), (2, .int x2), (4, .int x4), (5, .int x5), (6, .int x6), (7, .int x7)] [] 175 M (fX11_yearCosts_18 k10 n9 M x1 x2 x4 x5 x6 x7) := by
  intro n9
  induction n9 with
  | zero => intros; exact V_none
  | succ n9 ih =>
    intro M x1 x2 x4 x5 x6 x7 hI
    refine V_iload (k := 6) dX11_yearCosts_18 rfl ?_
    refine V_iload_n (k := 2) dX11_yearCosts_20 rfl rfl ?_
    refine V_icmpge (tgt := 74) dX11_yearCosts_21 (by decide) (fun h6 => ?_) (fun h6 => ?_)
    · refine V_iinc (k := 5) (v := x6 + (-1)) (lv' := [(6, .int (x6 + (-1))), (0, .ref 130), (1, .int x1), (2, .int x2), (4, .int x4), (5, .int x5), (7, .int x7)]) dX11_yearCosts_74 rfl rfl (by decide) rfl ?_
      refine V_goto (tgt := 10) dX11_yearCosts_77 (by decide) ?_
      refine V_sub [1, 2, 3, 4, 5, 0] rfl ?_
      exact hk10 M x1 x2 x4 x5 (x6 + (-1)) hI
    · refine V_aload_n (k := 0) dX11_yearCosts_24 rfl rfl ?_
      refine V_getr (k := 155) dX11_yearCosts_25 rfl (by decide) vf_X11_92 (by decide) (v_fin hI 142 rfl) ?_
      refine V_iload (k := 6) dX11_yearCosts_28 rfl ?_
      refine V_iald dX11_yearCosts_30 rfl (by decide) (fun h7 => ?_)
      refine V_iload (k := 5) dX11_yearCosts_31 rfl ?_
      refine V_icmpeq (tgt := 39) dX11_yearCosts_33 (by decide) (fun h8 => ?_) (fun h8 => ?_)
      · refine V_iload (k := 3) dX11_yearCosts_39 rfl ?_
        refine V_iload (k := 5) dX11_yearCosts_41 rfl ?_
        refine V_aload_n (k := 0) dX11_yearCosts_43 rfl rfl ?_
        refine V_getr (k := 146) dX11_yearCosts_44 rfl (by decide) vf_X11_64 (by decide) (v_fin hI 133 rfl) ?_
        refine V_sipush (v := 2000) dX11_yearCosts_47 rfl ?_
        refine V_iload_n (k := 1) dX11_yearCosts_50 rfl rfl ?_
        refine V_imul dX11_yearCosts_51 ?_
        refine V_aload_n (k := 0) dX11_yearCosts_52 rfl rfl ?_
        refine V_iload_n (k := 1) dX11_yearCosts_53 rfl rfl ?_
        refine V_iload (k := 4) dX11_yearCosts_54 rfl ?_
        refine V_callVi (q := (RX11, TX11, 61)) (cls := 11) (st0 := [.int (2000 * x1), .ref 146, .int x6, .int x4]) (kc' := 0) (ks' := 0) dX11_yearCosts_56 lk_X11_378 rfl (by decide) rfl rfl rfl (cX11_leftAt_ok M x1 x5 hI) rfl rfl (by decide) (by decide) (Nat.le_of_ble_eq_true rfl) (Or.inl rfl) rfl rfl (by decide) (by decide) (fun y9 M10 e11 hI12 => ?_)
        refine V_iadd dX11_yearCosts_59 ?_
        refine V_iald dX11_yearCosts_60 rfl (by decide) (fun h13 => ?_)
        refine V_imul dX11_yearCosts_61 ?_
        refine V_iadd dX11_yearCosts_62 ?_
        refine V_istore (lv' := [(4, .int (x4 + (x6 * (M10.1 146 (Int32.toNatClampNeg ((2000 * x1) + y9)))))), (0, .ref 130), (1, .int x1), (2, .int x2), (5, .int x5), (6, .int x6), (7, .int x7)]) dX11_yearCosts_63 (by decide) rfl ?_
        refine V_iinc (k := 4) (v := x5 + 1) (lv' := [(5, .int (x5 + 1)), (4, .int (x4 + (x6 * (M10.1 146 (Int32.toNatClampNeg ((2000 * x1) + y9)))))), (0, .ref 130), (1, .int x1), (2, .int x2), (6, .int x6), (7, .int x7)]) dX11_yearCosts_65 rfl rfl (by decide) rfl ?_
        refine V_iinc (k := 6) (v := x7 + 1) (lv' := [(7, .int (x7 + 1)), (5, .int (x5 + 1)), (4, .int (x4 + (x6 * (M10.1 146 (Int32.toNatClampNeg ((2000 * x1) + y9)))))), (0, .ref 130), (1, .int x1), (2, .int x2), (6, .int x6)]) dX11_yearCosts_68 rfl rfl (by decide) rfl ?_
        refine V_goto (tgt := 18) dX11_yearCosts_71 (by decide) ?_
        refine V_sub [3, 4, 5, 2, 1, 6, 0] rfl ?_
        exact ih M10 x1 x2 (x4 + (x6 * (M10.1 146 (Int32.toNatClampNeg ((2000 * x1) + y9))))) (x5 + 1) x6 (x7 + 1) hI12
      · refine V_goto (tgt := 68) dX11_yearCosts_36 (by decide) ?_
        refine V_iinc (k := 6) (v := x7 + 1) (lv' := [(7, .int (x7 + 1)), (0, .ref 130), (1, .int x1), (2, .int x2), (4, .int x4), (5, .int x5), (6, .int x6)]) dX11_yearCosts_68 rfl rfl (by decide) rfl ?_
        refine V_goto (tgt := 18) dX11_yearCosts_71 (by decide) ?_
        refine V_sub [1, 2, 3, 4, 5, 6, 0] rfl ?_
        exact ih M x1 x2 x4 x5 x6 (x7 + 1) hI
def fX11_yearCosts_10 : Nat → vM → Int32 → Int32 → Int32 → Int32 → Int32 → Option (vR × vM)
  | 0, _, _, _, _, _, _ => none
  | n9 + 1, M, x1, x2, x4, x5, x6 => if x6 < 0 then rI x4 M else fX11_yearCosts_18 (fX11_yearCosts_10 n9) FU M x1 x2 x4 x5 x6 0
set_option maxRecDepth 20000 in
set_option maxHeartbeats 2000000 in
theorem vX11_yearCosts_10 {l : Launch} {D : va_G} {dA : Nat → ClassId} : ∀ (n9 : Nat) (M : vM) (x1 : Int32) (x2 : Int32) (x4 : Int32) (x5 : Int32) (x6 : Int32), v_WT M.2.2 → V l D dA sX11_yearCosts false 175 2 0 0 10 [(0, .ref 130), (1, .int x1), (2, .int x2), (4, .int x4), (5, .int x5), (6, .int x6)] [] 175 M (fX11_yearCosts_10 n9 M x1 x2 x4 x5 x6) := by
  intro n9
  induction n9 with
  | zero => intros; exact V_none
  | succ n9 ih =>
    intro M x1 x2 x4 x5 x6 hI
    refine V_iload (k := 5) dX11_yearCosts_10 rfl ?_
    refine V_iflt (tgt := 80) dX11_yearCosts_12 (by decide) (fun h14 => ?_) (fun h14 => ?_)
    · refine V_iload (k := 3) dX11_yearCosts_80 rfl ?_
      exact V_ret (fun _ => hI) (Or.inr (Or.inl ⟨rfl, _, rfl⟩)) dX11_yearCosts_82 (fun ty x h1 h2 => by cases h1; rfl) rfl
    · refine V_iconst (v := 0) dX11_yearCosts_15 rfl ?_
      refine V_istore (lv' := [(7, .int 0), (0, .ref 130), (1, .int x1), (2, .int x2), (4, .int x4), (5, .int x5), (6, .int x6)]) dX11_yearCosts_16 (by decide) rfl ?_
      refine V_sub [1, 2, 3, 4, 5, 6, 0] rfl ?_
      exact vX11_yearCosts_18 (ih) FU M x1 x2 x4 x5 x6 0 hI
def fX11_yearCosts (M : vM) (x1 : Int32) (x2 : Int32) (x3 : Int32) : Option (vR × vM) := fX11_yearCosts_10 FU M x1 x2 0 x3 99
set_option maxRecDepth 20000 in
set_option maxHeartbeats 2000000 in
theorem cX11_yearCosts_ok {l : Launch} {D : va_G} {dA : Nat → ClassId} (M : vM) (x1 : Int32) (x2 : Int32) (x3 : Int32) (hI : v_WT M.2.2) : Ct l D dA sX11_yearCosts false 175 2 0 0 175 [.ref 130, .int x1, .int x2, .int x3] M (fX11_yearCosts M x1 x2 x3) := by
  refine Ct_of (lv := [(0, .ref 130), (1, .int x1), (2, .int x2), (3, .int x3)]) (by decide +kernel) rfl (Nat.le_of_ble_eq_true rfl) rfl (fun h => by cases h) ?_
  refine V_iconst (v := 0) dX11_yearCosts_0 rfl ?_
  refine V_istore (lv' := [(4, .int 0), (0, .ref 130), (1, .int x1), (2, .int x2), (3, .int x3)]) dX11_yearCosts_1 (by decide) rfl ?_
  refine V_iload_n (k := 4) dX11_yearCosts_3 rfl rfl ?_
  refine V_istore (lv' := [(5, .int x3), (4, .int 0), (0, .ref 130), (1, .int x1), (2, .int x2), (3, .int x3)]) dX11_yearCosts_4 (by decide) rfl ?_
  refine V_bipush (v := 99) dX11_yearCosts_6 rfl ?_
  refine V_istore (lv' := [(6, .int 99), (5, .int x3), (4, .int 0), (0, .ref 130), (1, .int x1), (2, .int x2), (3, .int x3)]) dX11_yearCosts_8 (by decide) rfl ?_
  refine V_sub [3, 4, 5, 2, 1, 0] rfl ?_
  exact vX11_yearCosts_10 FU M x1 x2 0 x3 99 hI
def fX11_years_22 (M : vM) : Option (vR × vM) := bi (fX11_fail M 1) fun y7 M8 => rI y7 M8
set_option maxRecDepth 20000 in
set_option maxHeartbeats 2000000 in
theorem vX11_years_22 {l : Launch} {D : va_G} {dA : Nat → ClassId} : ∀ (M : vM), v_WT M.2.2 → V l D dA sX11_years false 175 3 0 0 22 [(0, .ref 130)] [] 175 M (fX11_years_22 M) := by
  intro M hI
  refine V_aload_n (k := 0) dX11_years_22 rfl rfl ?_
  refine V_iconst (v := 1) dX11_years_23 rfl ?_
  refine V_callVi (q := (RX11, TX11, 61)) (cls := 11) (st0 := []) (kc' := 0) (ks' := 0) dX11_years_24 lk_X11_287 rfl (by decide) rfl rfl rfl (cX11_fail_ok M 1 hI) rfl rfl (by decide) (by decide) (Nat.le_of_ble_eq_true rfl) (Or.inl rfl) rfl rfl (by decide) (by decide) (fun y7 M8 e9 hI10 => ?_)
  exact V_ret (fun _ => hI10) (Or.inr (Or.inl ⟨rfl, _, rfl⟩)) dX11_years_27 (fun ty x h1 h2 => by cases h1; rfl) rfl
def fX11_years (M : vM) (x1 : Int32) (x2 : Int32) (x3 : Int32) : Option (vR × vM) := bi (fX11_isWork (v_si M 130 1 0) x1) fun y11 M12 => if y11 = 0 then fX11_years_22 M12 else if x3 < 0 then fX11_years_22 M12 else if x3 ≤ 1 then bi (fX11_isIn M12 x2 1 100) fun y18 M19 => if y18 = 0 then bi (fX11_fail M19 2) fun y41 M42 => rI y41 M42 else bi (fX11_leftOf M19 x1) fun y23 M24 => if (x2 + x3) ≤ y23 then if x3 = 0 then bi (fX11_yearCosts M24 x1 x2 0) fun y37 M38 => rI y37 M38 else bi (fX11_yearCosts M24 x1 x2 1) fun y29 M30 => bi (fX11_yearCosts M30 x1 x2 0) fun y33 M34 => rI (y29 - y33) M34 else rI ((-1)) M24 else fX11_years_22 M12
set_option maxRecDepth 20000 in
set_option maxHeartbeats 2000000 in
theorem cX11_years_ok {l : Launch} {D : va_G} {dA : Nat → ClassId} (M : vM) (x1 : Int32) (x2 : Int32) (x3 : Int32) (hI : v_WT M.2.2) : Ct l D dA sX11_years false 175 3 0 0 175 [.ref 130, .int x1, .int x2, .int x3] M (fX11_years M x1 x2 x3) := by
  refine Ct_of (lv := [(0, .ref 130), (1, .int x1), (2, .int x2), (3, .int x3)]) (by decide +kernel) rfl (Nat.le_of_ble_eq_true rfl) rfl (fun h => by cases h) ?_
  refine V_aload_n (k := 0) dX11_years_0 rfl rfl ?_
  refine V_iconst (v := 0) dX11_years_1 rfl ?_
  refine V_puti dX11_years_2 rfl (by decide) vf_X11_154 (by decide) rfl rfl ?_
  refine V_aload_n (k := 0) dX11_years_5 rfl rfl ?_
  refine V_iload_n (k := 1) dX11_years_6 rfl rfl ?_
  refine V_callVi (q := (RX11, TX11, 61)) (cls := 11) (st0 := []) (kc' := 0) (ks' := 0) dX11_years_7 lk_X11_164 rfl (by decide) rfl rfl rfl (cX11_isWork_ok (v_si M 130 1 0) x1 hI) rfl rfl (by decide) (by decide) (Nat.le_of_ble_eq_true rfl) (Or.inl rfl) rfl rfl (by decide) (by decide) (fun y11 M12 e13 hI14 => ?_)
  refine V_ifeq (tgt := 22) dX11_years_10 (by decide) (fun h15 => ?_) (fun h15 => ?_)
  · refine V_sub [0] rfl ?_
    exact vX11_years_22 M12 hI14
  · refine V_iload_n (k := 3) dX11_years_13 rfl rfl ?_
    refine V_iflt (tgt := 22) dX11_years_14 (by decide) (fun h16 => ?_) (fun h16 => ?_)
    · refine V_sub [0] rfl ?_
      exact vX11_years_22 M12 hI14
    · refine V_iload_n (k := 3) dX11_years_17 rfl rfl ?_
      refine V_iconst (v := 1) dX11_years_18 rfl ?_
      refine V_icmple (tgt := 28) dX11_years_19 (by decide) (fun h17 => ?_) (fun h17 => ?_)
      · refine V_iload_n (k := 2) dX11_years_28 rfl rfl ?_
        refine V_iconst (v := 1) dX11_years_29 rfl ?_
        refine V_bipush (v := 100) dX11_years_30 rfl ?_
        refine V_callSi (st0 := []) (kc' := 0) (ks' := 0) dX11_years_32 lk_X11_160 rfl (cX11_isIn_ok M12 x2 1 100 hI14) rfl rfl (by decide) (by decide) (Nat.le_of_ble_eq_true rfl) (Or.inl rfl) rfl rfl (by decide) (by decide) (fun y18 M19 e20 hI21 => ?_)
        refine V_ifne (tgt := 44) dX11_years_35 (by decide) (fun h22 => ?_) (fun h22 => ?_)
        · refine V_aload_n (k := 0) dX11_years_44 rfl rfl ?_
          refine V_iload_n (k := 1) dX11_years_45 rfl rfl ?_
          refine V_callVi (q := (RX11, TX11, 61)) (cls := 11) (st0 := []) (kc' := 0) (ks' := 0) dX11_years_46 lk_X11_356 rfl (by decide) rfl rfl rfl (cX11_leftOf_ok M19 x1 hI21) rfl rfl (by decide) (by decide) (Nat.le_of_ble_eq_true rfl) (Or.inl rfl) rfl rfl (by decide) (by decide) (fun y23 M24 e25 hI26 => ?_)
          refine V_iload_n (k := 2) dX11_years_49 rfl rfl ?_
          refine V_iload_n (k := 3) dX11_years_50 rfl rfl ?_
          refine V_iadd dX11_years_51 ?_
          refine V_icmpge (tgt := 57) dX11_years_52 (by decide) (fun h27 => ?_) (fun h27 => ?_)
          · refine V_iload_n (k := 3) dX11_years_57 rfl rfl ?_
            refine V_ifne (tgt := 71) dX11_years_58 (by decide) (fun h28 => ?_) (fun h28 => ?_)
            · refine V_aload_n (k := 0) dX11_years_71 rfl rfl ?_
              refine V_iload_n (k := 1) dX11_years_72 rfl rfl ?_
              refine V_iload_n (k := 2) dX11_years_73 rfl rfl ?_
              refine V_iconst (v := 1) dX11_years_74 rfl ?_
              refine V_callVi (q := (RX11, TX11, 61)) (cls := 11) (st0 := []) (kc' := 0) (ks' := 0) dX11_years_75 lk_X11_384 rfl (by decide) rfl rfl rfl (cX11_yearCosts_ok M24 x1 x2 1 hI26) rfl rfl (by decide) (by decide) (Nat.le_of_ble_eq_true rfl) (Or.inl rfl) rfl rfl (by decide) (by decide) (fun y29 M30 e31 hI32 => ?_)
              refine V_aload_n (k := 0) dX11_years_78 rfl rfl ?_
              refine V_iload_n (k := 1) dX11_years_79 rfl rfl ?_
              refine V_iload_n (k := 2) dX11_years_80 rfl rfl ?_
              refine V_iconst (v := 0) dX11_years_81 rfl ?_
              refine V_callVi (q := (RX11, TX11, 61)) (cls := 11) (st0 := [.int y29]) (kc' := 0) (ks' := 0) dX11_years_82 lk_X11_384 rfl (by decide) rfl rfl rfl (cX11_yearCosts_ok M30 x1 x2 0 hI32) rfl rfl (by decide) (by decide) (Nat.le_of_ble_eq_true rfl) (Or.inl rfl) rfl rfl (by decide) (by decide) (fun y33 M34 e35 hI36 => ?_)
              refine V_isub dX11_years_85 ?_
              exact V_ret (fun _ => hI36) (Or.inr (Or.inl ⟨rfl, _, rfl⟩)) dX11_years_86 (fun ty x h1 h2 => by cases h1; rfl) rfl
            · refine V_aload_n (k := 0) dX11_years_61 rfl rfl ?_
              refine V_iload_n (k := 1) dX11_years_62 rfl rfl ?_
              refine V_iload_n (k := 2) dX11_years_63 rfl rfl ?_
              refine V_iconst (v := 0) dX11_years_64 rfl ?_
              refine V_callVi (q := (RX11, TX11, 61)) (cls := 11) (st0 := []) (kc' := 0) (ks' := 0) dX11_years_65 lk_X11_384 rfl (by decide) rfl rfl rfl (cX11_yearCosts_ok M24 x1 x2 0 hI26) rfl rfl (by decide) (by decide) (Nat.le_of_ble_eq_true rfl) (Or.inl rfl) rfl rfl (by decide) (by decide) (fun y37 M38 e39 hI40 => ?_)
              refine V_goto (tgt := 86) dX11_years_68 (by decide) ?_
              exact V_ret (fun _ => hI40) (Or.inr (Or.inl ⟨rfl, _, rfl⟩)) dX11_years_86 (fun ty x h1 h2 => by cases h1; rfl) rfl
          · refine V_iconst (v := (-1)) dX11_years_55 rfl ?_
            exact V_ret (fun _ => hI26) (Or.inr (Or.inl ⟨rfl, _, rfl⟩)) dX11_years_56 (fun ty x h1 h2 => by cases h1; rfl) rfl
        · refine V_aload_n (k := 0) dX11_years_38 rfl rfl ?_
          refine V_iconst (v := 2) dX11_years_39 rfl ?_
          refine V_callVi (q := (RX11, TX11, 61)) (cls := 11) (st0 := []) (kc' := 0) (ks' := 0) dX11_years_40 lk_X11_287 rfl (by decide) rfl rfl rfl (cX11_fail_ok M19 2 hI21) rfl rfl (by decide) (by decide) (Nat.le_of_ble_eq_true rfl) (Or.inl rfl) rfl rfl (by decide) (by decide) (fun y41 M42 e43 hI44 => ?_)
          exact V_ret (fun _ => hI44) (Or.inr (Or.inl ⟨rfl, _, rfl⟩)) dX11_years_43 (fun ty x h1 h2 => by cases h1; rfl) rfl
      · refine V_sub [0] rfl ?_
        exact vX11_years_22 M12 hI14
