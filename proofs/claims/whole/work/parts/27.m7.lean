def fX11_passes (M : vM) (x1 : Nat) : Option (vR × vM) := bi (fX11_is M x1) fun y2 M3 => if y2 = 0 then if v_nz y2 = y2 then rI y2 M3 else none else bv (fX11_stepOn M3 ) fun M7 => if v_nz y2 = y2 then rI y2 M7 else none
set_option maxRecDepth 20000 in
set_option maxHeartbeats 2000000 in
theorem cX11_passes_ok {l : Launch} {D : va_G} {dA : Nat → ClassId} (M : vM) (x1 : Nat) (f1 : x1 < v_nS) (hI : v_WT M.2.2) : Ct l D dA sX11_passes false 175 6 0 0 175 [.ref 130, .ref (1000 + x1)] M (fX11_passes M x1) := by
  refine Ct_of (lv := [(0, .ref 130), (1, .ref (1000 + x1))]) (by decide +kernel) rfl (Nat.le_of_ble_eq_true rfl) rfl (fun h => by cases h) ?_
  refine V_aload_n (k := 0) dX11_passes_0 rfl rfl ?_
  refine V_aload_n (k := 1) dX11_passes_1 rfl rfl ?_
  refine V_callVi (q := (RX11, TX11, 61)) (cls := 11) (st0 := []) (kc' := 0) (ks' := 0) dX11_passes_2 lk_X11_219 rfl (by decide) rfl rfl rfl (cX11_is_ok M x1 f1 hI) rfl rfl (by decide) (by decide) (Nat.le_of_ble_eq_true rfl) (Or.inl rfl) rfl rfl (by decide) (by decide) (fun y2 M3 e4 hI5 => ?_)
  refine V_istore_n (lv' := [(2, .int y2), (0, .ref 130), (1, .ref (1000 + x1))]) dX11_passes_5 rfl (by decide) rfl ?_
  refine V_iload_n (k := 0) dX11_passes_6 rfl rfl ?_
  refine V_ifeq (tgt := 14) dX11_passes_7 (by decide) (fun h6 => ?_) (fun h6 => ?_)
  · refine V_iload_n (k := 0) dX11_passes_14 rfl rfl ?_
    exact V_retz (fun _ => hI5) rfl dX11_passes_15
  · refine V_aload_n (k := 1) dX11_passes_10 rfl rfl ?_
    refine V_callVv (q := (RX11, TX11, 61)) (cls := 11) (st0 := []) (kc' := 0) (ks' := 0) dX11_passes_11 lk_X11_223 rfl (by decide) rfl rfl rfl (cX11_stepOn_ok M3  hI5) rfl rfl (by decide) (by decide) (Nat.le_of_ble_eq_true rfl) (Or.inl rfl) rfl rfl (by decide) (by decide) (fun  M7 e8 hI9 => ?_)
    refine V_iload_n (k := 0) dX11_passes_14 rfl rfl ?_
    exact V_retz (fun _ => hI9) rfl dX11_passes_15
def fX11_person_41 (M : vM) : Option (vR × vM) := if v_in 3 4 = true then if v_in 3 4 = true then rI ((-1)) (v_si M 156 (Int32.toNatClampNeg 3) ((M.1 156 (Int32.toNatClampNeg 3)) + 1)) else none else none
set_option maxRecDepth 20000 in
set_option maxHeartbeats 2000000 in
theorem vX11_person_41 {l : Launch} {D : va_G} {dA : Nat → ClassId} : ∀ (M : vM), v_WT M.2.2 → V l D dA sX11_person false 175 3 0 0 41 [(0, .ref 130)] [] 175 M (fX11_person_41 M) := by
  intro M hI
  refine V_aload_n (k := 0) dX11_person_41 rfl rfl ?_
  refine V_getr (k := 156) dX11_person_42 rfl (by decide) vf_X11_95 (by decide) (v_fin hI 143 rfl) ?_
  refine V_iconst (v := 3) dX11_person_45 rfl ?_
  refine V_dup2 dX11_person_46 rfl rfl ?_
  refine V_iald dX11_person_47 rfl (by decide) (fun h12 => ?_)
  refine V_iconst (v := 1) dX11_person_48 rfl ?_
  refine V_iadd dX11_person_49 ?_
  refine V_iast dX11_person_50 rfl (by decide) (fun h13 => ?_)
  refine V_iconst (v := (-1)) dX11_person_51 rfl ?_
  exact V_ret (fun _ => hI) (Or.inr (Or.inl ⟨rfl, _, rfl⟩)) dX11_person_52 (fun ty x h1 h2 => by cases h1; rfl) rfl
def fX11_person (M : vM) (x1 : Int32) (x2 : Int32) : Option (vR × vM) := bi (fX11_isWork (v_si M 130 1 0) x1) fun y14 M15 => if y14 = 0 then bi (fX11_fail M15 1) fun y31 M32 => rI y31 M32 else if v_in x1 6 = true then if (M15.1 153 (Int32.toNatClampNeg x1)) = 12 then fX11_person_41 M15 else bi (fX11_isIn M15 x2 0 9999) fun y21 M22 => if y21 = 0 then fX11_person_41 M22 else if v_in x1 6 = true then if v_in ((12 * x1) + (M22.1 153 (Int32.toNatClampNeg x1))) 72 = true then if v_in x1 6 = true then if v_in x1 6 = true then if v_in x1 6 = true then rI ((v_si (v_si M22 154 (Int32.toNatClampNeg ((12 * x1) + (M22.1 153 (Int32.toNatClampNeg x1)))) x2) 153 (Int32.toNatClampNeg x1) (((v_si M22 154 (Int32.toNatClampNeg ((12 * x1) + (M22.1 153 (Int32.toNatClampNeg x1)))) x2).1 153 (Int32.toNatClampNeg x1)) + 1)).1 153 (Int32.toNatClampNeg x1)) (v_si (v_si M22 154 (Int32.toNatClampNeg ((12 * x1) + (M22.1 153 (Int32.toNatClampNeg x1)))) x2) 153 (Int32.toNatClampNeg x1) (((v_si M22 154 (Int32.toNatClampNeg ((12 * x1) + (M22.1 153 (Int32.toNatClampNeg x1)))) x2).1 153 (Int32.toNatClampNeg x1)) + 1)) else none else none else none else none else none else none
set_option maxRecDepth 20000 in
set_option maxHeartbeats 2000000 in
theorem cX11_person_ok {l : Launch} {D : va_G} {dA : Nat → ClassId} (M : vM) (x1 : Int32) (x2 : Int32) (hI : v_WT M.2.2) : Ct l D dA sX11_person false 175 3 0 0 175 [.ref 130, .int x1, .int x2] M (fX11_person M x1 x2) := by
  refine Ct_of (lv := [(0, .ref 130), (1, .int x1), (2, .int x2)]) (by decide +kernel) rfl (Nat.le_of_ble_eq_true rfl) rfl (fun h => by cases h) ?_
  refine V_aload_n (k := 0) dX11_person_0 rfl rfl ?_
  refine V_iconst (v := 0) dX11_person_1 rfl ?_
  refine V_puti dX11_person_2 rfl (by decide) vf_X11_154 (by decide) rfl rfl ?_
  refine V_aload_n (k := 0) dX11_person_5 rfl rfl ?_
  refine V_iload_n (k := 1) dX11_person_6 rfl rfl ?_
  refine V_callVi (q := (RX11, TX11, 61)) (cls := 11) (st0 := []) (kc' := 0) (ks' := 0) dX11_person_7 lk_X11_164 rfl (by decide) rfl rfl rfl (cX11_isWork_ok (v_si M 130 1 0) x1 hI) rfl rfl (by decide) (by decide) (Nat.le_of_ble_eq_true rfl) (Or.inl rfl) rfl rfl (by decide) (by decide) (fun y14 M15 e16 hI17 => ?_)
  refine V_ifne (tgt := 19) dX11_person_10 (by decide) (fun h18 => ?_) (fun h18 => ?_)
  · refine V_aload_n (k := 0) dX11_person_19 rfl rfl ?_
    refine V_getr (k := 153) dX11_person_20 rfl (by decide) vf_X11_86 (by decide) (v_fin hI17 140 rfl) ?_
    refine V_iload_n (k := 1) dX11_person_23 rfl rfl ?_
    refine V_iald dX11_person_24 rfl (by decide) (fun h19 => ?_)
    refine V_bipush (v := 12) dX11_person_25 rfl ?_
    refine V_icmpeq (tgt := 41) dX11_person_27 (by decide) (fun h20 => ?_) (fun h20 => ?_)
    · refine V_sub [0] rfl ?_
      exact vX11_person_41 M15 hI17
    · refine V_iload_n (k := 2) dX11_person_30 rfl rfl ?_
      refine V_iconst (v := 0) dX11_person_31 rfl ?_
      refine V_sipush (v := 9999) dX11_person_32 rfl ?_
      refine V_callSi (st0 := []) (kc' := 0) (ks' := 0) dX11_person_35 lk_X11_160 rfl (cX11_isIn_ok M15 x2 0 9999 hI17) rfl rfl (by decide) (by decide) (Nat.le_of_ble_eq_true rfl) (Or.inl rfl) rfl rfl (by decide) (by decide) (fun y21 M22 e23 hI24 => ?_)
      refine V_ifne (tgt := 53) dX11_person_38 (by decide) (fun h25 => ?_) (fun h25 => ?_)
      · refine V_aload_n (k := 0) dX11_person_53 rfl rfl ?_
        refine V_getr (k := 154) dX11_person_54 rfl (by decide) vf_X11_89 (by decide) (v_fin hI24 141 rfl) ?_
        refine V_bipush (v := 12) dX11_person_57 rfl ?_
        refine V_iload_n (k := 1) dX11_person_59 rfl rfl ?_
        refine V_imul dX11_person_60 ?_
        refine V_aload_n (k := 0) dX11_person_61 rfl rfl ?_
        refine V_getr (k := 153) dX11_person_62 rfl (by decide) vf_X11_86 (by decide) (v_fin hI24 140 rfl) ?_
        refine V_iload_n (k := 1) dX11_person_65 rfl rfl ?_
        refine V_iald dX11_person_66 rfl (by decide) (fun h26 => ?_)
        refine V_iadd dX11_person_67 ?_
        refine V_iload_n (k := 2) dX11_person_68 rfl rfl ?_
        refine V_iast dX11_person_69 rfl (by decide) (fun h27 => ?_)
        refine V_aload_n (k := 0) dX11_person_70 rfl rfl ?_
        refine V_getr (k := 153) dX11_person_71 rfl (by decide) vf_X11_86 (by decide) (v_fin hI24 140 rfl) ?_
        refine V_iload_n (k := 1) dX11_person_74 rfl rfl ?_
        refine V_dup2 dX11_person_75 rfl rfl ?_
        refine V_iald dX11_person_76 rfl (by decide) (fun h28 => ?_)
        refine V_iconst (v := 1) dX11_person_77 rfl ?_
        refine V_iadd dX11_person_78 ?_
        refine V_iast dX11_person_79 rfl (by decide) (fun h29 => ?_)
        refine V_aload_n (k := 0) dX11_person_80 rfl rfl ?_
        refine V_getr (k := 153) dX11_person_81 rfl (by decide) vf_X11_86 (by decide) (v_fin hI24 140 rfl) ?_
        refine V_iload_n (k := 1) dX11_person_84 rfl rfl ?_
        refine V_iald dX11_person_85 rfl (by decide) (fun h30 => ?_)
        exact V_ret (fun _ => hI24) (Or.inr (Or.inl ⟨rfl, _, rfl⟩)) dX11_person_86 (fun ty x h1 h2 => by cases h1; rfl) rfl
      · refine V_sub [0] rfl ?_
        exact vX11_person_41 M22 hI24
  · refine V_aload_n (k := 0) dX11_person_13 rfl rfl ?_
    refine V_iconst (v := 1) dX11_person_14 rfl ?_
    refine V_callVi (q := (RX11, TX11, 61)) (cls := 11) (st0 := []) (kc' := 0) (ks' := 0) dX11_person_15 lk_X11_287 rfl (by decide) rfl rfl rfl (cX11_fail_ok M15 1 hI17) rfl rfl (by decide) (by decide) (Nat.le_of_ble_eq_true rfl) (Or.inl rfl) rfl rfl (by decide) (by decide) (fun y31 M32 e33 hI34 => ?_)
    exact V_ret (fun _ => hI34) (Or.inr (Or.inl ⟨rfl, _, rfl⟩)) dX11_person_18 (fun ty x h1 h2 => by cases h1; rfl) rfl
def fX11_wrong (M : vM) (x1 : Int32) : Option (vR × vM) := if (M.1 130 38) = 0 then rV (v_si (v_si M 130 38 x1) 130 39 ((v_si M 130 38 x1).1 130 36)) else rV M
set_option maxRecDepth 20000 in
set_option maxHeartbeats 2000000 in
theorem cX11_wrong_ok {l : Launch} {D : va_G} {dA : Nat → ClassId} (M : vM) (x1 : Int32) (hI : v_WT M.2.2) : Ct l D dA sX11_wrong false 175 1 0 0 175 [.ref 130, .int x1] M (fX11_wrong M x1) := by
  refine Ct_of (lv := [(0, .ref 130), (1, .int x1)]) (by decide +kernel) rfl (Nat.le_of_ble_eq_true rfl) rfl (fun h => by cases h) ?_
  refine V_aload_n (k := 0) dX11_wrong_0 rfl rfl ?_
  refine V_geti dX11_wrong_1 rfl (by decide) vf_X11_206 (by decide) ?_
  refine V_ifeq (tgt := 8) dX11_wrong_4 (by decide) (fun h2 => ?_) (fun h2 => ?_)
  · refine V_aload_n (k := 0) dX11_wrong_8 rfl rfl ?_
    refine V_iload_n (k := 1) dX11_wrong_9 rfl rfl ?_
    refine V_puti dX11_wrong_10 rfl (by decide) vf_X11_206 (by decide) rfl rfl ?_
    refine V_aload_n (k := 0) dX11_wrong_13 rfl rfl ?_
    refine V_aload_n (k := 0) dX11_wrong_14 rfl rfl ?_
    refine V_geti dX11_wrong_15 rfl (by decide) vf_X11_181 (by decide) ?_
    refine V_puti dX11_wrong_18 rfl (by decide) vf_X11_209 (by decide) rfl rfl ?_
    exact V_ret (fun _ => hI) (Or.inl ⟨rfl, rfl⟩) dX11_wrong_21 (fun ty x h1 h2 => by cases h1) rfl
  · exact V_ret (fun _ => hI) (Or.inl ⟨rfl, rfl⟩) dX11_wrong_7 (fun ty x h1 h2 => by cases h1) rfl
def fX11_readNumber_54 (k59 : vM → Option (vR × vM)) (M : vM) : Option (vR × vM) := bv (fX11_wrong M 2) fun M7 => k59 M7
set_option maxRecDepth 20000 in
set_option maxHeartbeats 2000000 in
theorem vX11_readNumber_54 {l : Launch} {D : va_G} {dA : Nat → ClassId} {k59 : vM → Option (vR × vM)} (hk59 : ∀ (M : vM), v_WT M.2.2 → V l D dA sX11_readNumber false 175 3 0 0 59 [(0, .ref 130)] [] 175 M (k59 M)) : ∀ (M : vM), v_WT M.2.2 → V l D dA sX11_readNumber false 175 3 0 0 54 [(0, .ref 130)] [] 175 M (fX11_readNumber_54 k59 M) := by
  intro M hI
  refine V_aload_n (k := 0) dX11_readNumber_54 rfl rfl ?_
  refine V_iconst (v := 2) dX11_readNumber_55 rfl ?_
  refine V_callVv (q := (RX11, TX11, 61)) (cls := 11) (st0 := []) (kc' := 0) (ks' := 0) dX11_readNumber_56 lk_X11_226 rfl (by decide) rfl rfl rfl (cX11_wrong_ok M 2 hI) rfl rfl (by decide) (by decide) (Nat.le_of_ble_eq_true rfl) (Or.inl rfl) rfl rfl (by decide) (by decide) (fun  M7 e8 hI9 => ?_)
  refine V_sub [0] rfl ?_
  exact hk59 M7 hI9
def fX11_readNumber_59 (M : vM) : Option (vR × vM) := if (M.1 130 38) = 0 then bv (fX11_stepOn M ) fun M11 => rI (M.1 130 35) M11 else rI (M.1 130 35) M
set_option maxRecDepth 20000 in
set_option maxHeartbeats 2000000 in
theorem vX11_readNumber_59 {l : Launch} {D : va_G} {dA : Nat → ClassId} : ∀ (M : vM), v_WT M.2.2 → V l D dA sX11_readNumber false 175 3 0 0 59 [(0, .ref 130)] [] 175 M (fX11_readNumber_59 M) := by
  intro M hI
  refine V_aload_n (k := 0) dX11_readNumber_59 rfl rfl ?_
  refine V_geti dX11_readNumber_60 rfl (by decide) vf_X11_193 (by decide) ?_
  refine V_istore_n (lv' := [(3, .int (M.1 130 35)), (0, .ref 130)]) dX11_readNumber_63 rfl (by decide) rfl ?_
  refine V_aload_n (k := 1) dX11_readNumber_64 rfl rfl ?_
  refine V_geti dX11_readNumber_65 rfl (by decide) vf_X11_206 (by decide) ?_
  refine V_ifne (tgt := 75) dX11_readNumber_68 (by decide) (fun h10 => ?_) (fun h10 => ?_)
  · refine V_iload_n (k := 0) dX11_readNumber_75 rfl rfl ?_
    exact V_ret (fun _ => hI) (Or.inr (Or.inl ⟨rfl, _, rfl⟩)) dX11_readNumber_76 (fun ty x h1 h2 => by cases h1; rfl) rfl
  · refine V_aload_n (k := 1) dX11_readNumber_71 rfl rfl ?_
    refine V_callVv (q := (RX11, TX11, 61)) (cls := 11) (st0 := []) (kc' := 0) (ks' := 0) dX11_readNumber_72 lk_X11_223 rfl (by decide) rfl rfl rfl (cX11_stepOn_ok M  hI) rfl rfl (by decide) (by decide) (Nat.le_of_ble_eq_true rfl) (Or.inl rfl) rfl rfl (by decide) (by decide) (fun  M11 e12 hI13 => ?_)
    refine V_iload_n (k := 0) dX11_readNumber_75 rfl rfl ?_
    exact V_ret (fun _ => hI13) (Or.inr (Or.inl ⟨rfl, _, rfl⟩)) dX11_readNumber_76 (fun ty x h1 h2 => by cases h1; rfl) rfl
def fX11_readNumber (M : vM) (x1 : Int32) (x2 : Int32) : Option (vR × vM) := if (M.1 130 38) = 0 then if (M.1 130 34) = 2 then if 4 < ((M.1 130 37) - (M.1 130 36)) then fX11_readNumber_54 (fX11_readNumber_59) M else if (M.1 130 35) < x1 then fX11_readNumber_54 (fX11_readNumber_59) M else if (M.1 130 35) ≤ x2 then fX11_readNumber_59 M else fX11_readNumber_54 (fX11_readNumber_59) M else bv (fX11_wrong M 1) fun M19 => fX11_readNumber_59 M19 else rI 0 M
set_option maxRecDepth 20000 in
set_option maxHeartbeats 2000000 in
theorem cX11_readNumber_ok {l : Launch} {D : va_G} {dA : Nat → ClassId} (M : vM) (x1 : Int32) (x2 : Int32) (hI : v_WT M.2.2) : Ct l D dA sX11_readNumber false 175 3 0 0 175 [.ref 130, .int x1, .int x2] M (fX11_readNumber M x1 x2) := by
  refine Ct_of (lv := [(0, .ref 130), (1, .int x1), (2, .int x2)]) (by decide +kernel) rfl (Nat.le_of_ble_eq_true rfl) rfl (fun h => by cases h) ?_
  refine V_aload_n (k := 0) dX11_readNumber_0 rfl rfl ?_
  refine V_geti dX11_readNumber_1 rfl (by decide) vf_X11_206 (by decide) ?_
  refine V_ifeq (tgt := 9) dX11_readNumber_4 (by decide) (fun h14 => ?_) (fun h14 => ?_)
  · refine V_aload_n (k := 0) dX11_readNumber_9 rfl rfl ?_
    refine V_geti dX11_readNumber_10 rfl (by decide) vf_X11_184 (by decide) ?_
    refine V_iconst (v := 2) dX11_readNumber_13 rfl ?_
    refine V_icmpeq (tgt := 25) dX11_readNumber_14 (by decide) (fun h15 => ?_) (fun h15 => ?_)
    · refine V_aload_n (k := 0) dX11_readNumber_25 rfl rfl ?_
      refine V_geti dX11_readNumber_26 rfl (by decide) vf_X11_203 (by decide) ?_
      refine V_aload_n (k := 0) dX11_readNumber_29 rfl rfl ?_
      refine V_geti dX11_readNumber_30 rfl (by decide) vf_X11_181 (by decide) ?_
      refine V_isub dX11_readNumber_33 ?_
      refine V_iconst (v := 4) dX11_readNumber_34 rfl ?_
      refine V_icmpgt (tgt := 54) dX11_readNumber_35 (by decide) (fun h16 => ?_) (fun h16 => ?_)
      · refine V_sub [0] rfl ?_
        exact vX11_readNumber_54 (vX11_readNumber_59) M hI
      · refine V_aload_n (k := 0) dX11_readNumber_38 rfl rfl ?_
        refine V_geti dX11_readNumber_39 rfl (by decide) vf_X11_193 (by decide) ?_
        refine V_iload_n (k := 1) dX11_readNumber_42 rfl rfl ?_
        refine V_icmplt (tgt := 54) dX11_readNumber_43 (by decide) (fun h17 => ?_) (fun h17 => ?_)
        · refine V_sub [0] rfl ?_
          exact vX11_readNumber_54 (vX11_readNumber_59) M hI
        · refine V_aload_n (k := 0) dX11_readNumber_46 rfl rfl ?_
          refine V_geti dX11_readNumber_47 rfl (by decide) vf_X11_193 (by decide) ?_
          refine V_iload_n (k := 2) dX11_readNumber_50 rfl rfl ?_
          refine V_icmple (tgt := 59) dX11_readNumber_51 (by decide) (fun h18 => ?_) (fun h18 => ?_)
          · refine V_sub [0] rfl ?_
            exact vX11_readNumber_59 M hI
          · refine V_sub [0] rfl ?_
            exact vX11_readNumber_54 (vX11_readNumber_59) M hI
    · refine V_aload_n (k := 0) dX11_readNumber_17 rfl rfl ?_
      refine V_iconst (v := 1) dX11_readNumber_18 rfl ?_
      refine V_callVv (q := (RX11, TX11, 61)) (cls := 11) (st0 := []) (kc' := 0) (ks' := 0) dX11_readNumber_19 lk_X11_226 rfl (by decide) rfl rfl rfl (cX11_wrong_ok M 1 hI) rfl rfl (by decide) (by decide) (Nat.le_of_ble_eq_true rfl) (Or.inl rfl) rfl rfl (by decide) (by decide) (fun  M19 e20 hI21 => ?_)
      refine V_goto (tgt := 59) dX11_readNumber_22 (by decide) ?_
      refine V_sub [0] rfl ?_
      exact vX11_readNumber_59 M19 hI21
  · refine V_iconst (v := 0) dX11_readNumber_7 rfl ?_
    exact V_ret (fun _ => hI) (Or.inr (Or.inl ⟨rfl, _, rfl⟩)) dX11_readNumber_8 (fun ty x h1 h2 => by cases h1; rfl) rfl
def fX11_semi_20 (M : vM) : Option (vR × vM) := if (M.1 130 38) = 0 then bv (fX11_stepOn M ) fun M5 => rV M5 else rV M
set_option maxRecDepth 20000 in
set_option maxHeartbeats 2000000 in
theorem vX11_semi_20 {l : Launch} {D : va_G} {dA : Nat → ClassId} : ∀ (M : vM), v_WT M.2.2 → V l D dA sX11_semi false 175 3 0 0 20 [(0, .ref 130)] [] 175 M (fX11_semi_20 M) := by
  intro M hI
  refine V_aload_n (k := 0) dX11_semi_20 rfl rfl ?_
  refine V_geti dX11_semi_21 rfl (by decide) vf_X11_206 (by decide) ?_
  refine V_ifne (tgt := 31) dX11_semi_24 (by decide) (fun h4 => ?_) (fun h4 => ?_)
  · exact V_ret (fun _ => hI) (Or.inl ⟨rfl, rfl⟩) dX11_semi_31 (fun ty x h1 h2 => by cases h1) rfl
  · refine V_aload_n (k := 0) dX11_semi_27 rfl rfl ?_
    refine V_callVv (q := (RX11, TX11, 61)) (cls := 11) (st0 := []) (kc' := 0) (ks' := 0) dX11_semi_28 lk_X11_223 rfl (by decide) rfl rfl rfl (cX11_stepOn_ok M  hI) rfl rfl (by decide) (by decide) (Nat.le_of_ble_eq_true rfl) (Or.inl rfl) rfl rfl (by decide) (by decide) (fun  M5 e6 hI7 => ?_)
    exact V_ret (fun _ => hI7) (Or.inl ⟨rfl, rfl⟩) dX11_semi_31 (fun ty x h1 h2 => by cases h1) rfl
def fX11_semi (M : vM) : Option (vR × vM) := if (M.1 130 38) = 0 then if (M.1 130 34) = 3 then fX11_semi_20 M else bv (fX11_wrong M 1) fun M10 => fX11_semi_20 M10 else fX11_semi_20 M
set_option maxRecDepth 20000 in
set_option maxHeartbeats 2000000 in
theorem cX11_semi_ok {l : Launch} {D : va_G} {dA : Nat → ClassId} (M : vM) (hI : v_WT M.2.2) : Ct l D dA sX11_semi false 175 3 0 0 175 [.ref 130] M (fX11_semi M) := by
  refine Ct_of (lv := [(0, .ref 130)]) (by decide +kernel) rfl (Nat.le_of_ble_eq_true rfl) rfl (fun h => by cases h) ?_
  refine V_aload_n (k := 0) dX11_semi_0 rfl rfl ?_
  refine V_geti dX11_semi_1 rfl (by decide) vf_X11_206 (by decide) ?_
  refine V_ifne (tgt := 20) dX11_semi_4 (by decide) (fun h8 => ?_) (fun h8 => ?_)
  · refine V_sub [0] rfl ?_
    exact vX11_semi_20 M hI
  · refine V_aload_n (k := 0) dX11_semi_7 rfl rfl ?_
    refine V_geti dX11_semi_8 rfl (by decide) vf_X11_184 (by decide) ?_
    refine V_iconst (v := 3) dX11_semi_11 rfl ?_
    refine V_icmpeq (tgt := 20) dX11_semi_12 (by decide) (fun h9 => ?_) (fun h9 => ?_)
    · refine V_sub [0] rfl ?_
      exact vX11_semi_20 M hI
    · refine V_aload_n (k := 0) dX11_semi_15 rfl rfl ?_
      refine V_iconst (v := 1) dX11_semi_16 rfl ?_
      refine V_callVv (q := (RX11, TX11, 61)) (cls := 11) (st0 := []) (kc' := 0) (ks' := 0) dX11_semi_17 lk_X11_226 rfl (by decide) rfl rfl rfl (cX11_wrong_ok M 1 hI) rfl rfl (by decide) (by decide) (Nat.le_of_ble_eq_true rfl) (Or.inl rfl) rfl rfl (by decide) (by decide) (fun  M10 e11 hI12 => ?_)
      refine V_sub [0] rfl ?_
      exact vX11_semi_20 M10 hI12
def fX11_readCost_50 (M : vM) (x1 : Int32) : Option (vR × vM) := if v_in x1 12 = true then if v_in x1 12 = true then bv (fX11_semi (v_si M 136 (Int32.toNatClampNeg x1) ((M.1 136 (Int32.toNatClampNeg x1)) + 1)) ) fun M11 => rV M11 else none else none
set_option maxRecDepth 20000 in
set_option maxHeartbeats 2000000 in
theorem vX11_readCost_50 {l : Launch} {D : va_G} {dA : Nat → ClassId} : ∀ (M : vM) (x1 : Int32), v_WT M.2.2 → V l D dA sX11_readCost false 175 7 0 0 50 [(0, .ref 130), (1, .int x1)] [] 175 M (fX11_readCost_50 M x1) := by
  intro M x1 hI
  refine V_aload_n (k := 0) dX11_readCost_50 rfl rfl ?_
  refine V_getr (k := 136) dX11_readCost_51 rfl (by decide) vf_X11_34 (by decide) (v_fin hI 123 rfl) ?_
  refine V_iload_n (k := 1) dX11_readCost_54 rfl rfl ?_
  refine V_dup2 dX11_readCost_55 rfl rfl ?_
  refine V_iald dX11_readCost_56 rfl (by decide) (fun h9 => ?_)
  refine V_iconst (v := 1) dX11_readCost_57 rfl ?_
  refine V_iadd dX11_readCost_58 ?_
  refine V_iast dX11_readCost_59 rfl (by decide) (fun h10 => ?_)
  refine V_aload_n (k := 0) dX11_readCost_60 rfl rfl ?_
  refine V_callVv (q := (RX11, TX11, 61)) (cls := 11) (st0 := []) (kc' := 0) (ks' := 0) dX11_readCost_61 lk_X11_242 rfl (by decide) rfl rfl rfl (cX11_semi_ok (v_si M 136 (Int32.toNatClampNeg x1) ((M.1 136 (Int32.toNatClampNeg x1)) + 1))  hI) rfl rfl (by decide) (by decide) (Nat.le_of_ble_eq_true rfl) (Or.inl rfl) rfl rfl (by decide) (by decide) (fun  M11 e12 hI13 => ?_)
  exact V_ret (fun _ => hI13) (Or.inl ⟨rfl, rfl⟩) dX11_readCost_64 (fun ty x h1 h2 => by cases h1) rfl
def fX11_readCost (M : vM) (x1 : Int32) : Option (vR × vM) := if v_in x1 12 = true then bi (fX11_readNumber M 0 999) fun y15 M16 => if v_in ((20 * x1) + (M.1 136 (Int32.toNatClampNeg x1))) 240 = true then bi (fX11_passes (v_si M16 141 (Int32.toNatClampNeg ((20 * x1) + (M.1 136 (Int32.toNatClampNeg x1)))) y15) 12) fun y20 M21 => if y20 = 0 then fX11_readCost_50 M21 x1 else if v_in x1 12 = true then if v_in x1 12 = true then if v_in x1 12 = true then fX11_readCost_50 (v_si M21 137 (Int32.toNatClampNeg x1) ((M21.1 137 (Int32.toNatClampNeg x1)) ||| (1 <<< ((M21.1 136 (Int32.toNatClampNeg x1)) &&& (31 : Int32))))) x1 else none else none else none else none else none
set_option maxRecDepth 20000 in
set_option maxHeartbeats 2000000 in
theorem cX11_readCost_ok {l : Launch} {D : va_G} {dA : Nat → ClassId} (M : vM) (x1 : Int32) (hI : v_WT M.2.2) : Ct l D dA sX11_readCost false 175 7 0 0 175 [.ref 130, .int x1] M (fX11_readCost M x1) := by
  refine Ct_of (lv := [(0, .ref 130), (1, .int x1)]) (by decide +kernel) rfl (Nat.le_of_ble_eq_true rfl) rfl (fun h => by cases h) ?_
  refine V_aload_n (k := 0) dX11_readCost_0 rfl rfl ?_
  refine V_getr (k := 141) dX11_readCost_1 rfl (by decide) vf_X11_49 (by decide) (v_fin hI 128 rfl) ?_
  refine V_bipush (v := 20) dX11_readCost_4 rfl ?_
  refine V_iload_n (k := 1) dX11_readCost_6 rfl rfl ?_
  refine V_imul dX11_readCost_7 ?_
  refine V_aload_n (k := 0) dX11_readCost_8 rfl rfl ?_
  refine V_getr (k := 136) dX11_readCost_9 rfl (by decide) vf_X11_34 (by decide) (v_fin hI 123 rfl) ?_
  refine V_iload_n (k := 1) dX11_readCost_12 rfl rfl ?_
  refine V_iald dX11_readCost_13 rfl (by decide) (fun h14 => ?_)
  refine V_iadd dX11_readCost_14 ?_
  refine V_aload_n (k := 0) dX11_readCost_15 rfl rfl ?_
  refine V_iconst (v := 0) dX11_readCost_16 rfl ?_
  refine V_sipush (v := 999) dX11_readCost_17 rfl ?_
  refine V_callVi (q := (RX11, TX11, 61)) (cls := 11) (st0 := [.int ((20 * x1) + (M.1 136 (Int32.toNatClampNeg x1))), .ref 141]) (kc' := 0) (ks' := 0) dX11_readCost_20 lk_X11_238 rfl (by decide) rfl rfl rfl (cX11_readNumber_ok M 0 999 hI) rfl rfl (by decide) (by decide) (Nat.le_of_ble_eq_true rfl) (Or.inl rfl) rfl rfl (by decide) (by decide) (fun y15 M16 e17 hI18 => ?_)
  refine V_iast dX11_readCost_23 rfl (by decide) (fun h19 => ?_)
  refine V_aload_n (k := 0) dX11_readCost_24 rfl rfl ?_
  refine V_ldcS (sid := 12) (tx := "free") dX11_readCost_25 (by decide +kernel) ?_
  refine V_callVi (q := (RX11, TX11, 61)) (cls := 11) (st0 := []) (kc' := 0) (ks' := 0) dX11_readCost_27 lk_X11_232 rfl (by decide) rfl rfl rfl (cX11_passes_ok (v_si M16 141 (Int32.toNatClampNeg ((20 * x1) + (M.1 136 (Int32.toNatClampNeg x1)))) y15) 12 (by decide) hI18) rfl rfl (by decide) (by decide) (Nat.le_of_ble_eq_true rfl) (Or.inl rfl) rfl rfl (by decide) (by decide) (fun y20 M21 e22 hI23 => ?_)
  refine V_ifeq (tgt := 50) dX11_readCost_30 (by decide) (fun h24 => ?_) (fun h24 => ?_)
  · refine V_sub [0, 1] rfl ?_
    exact vX11_readCost_50 M21 x1 hI23
  · refine V_aload_n (k := 0) dX11_readCost_33 rfl rfl ?_
    refine V_getr (k := 137) dX11_readCost_34 rfl (by decide) vf_X11_37 (by decide) (v_fin hI23 124 rfl) ?_
    refine V_iload_n (k := 1) dX11_readCost_37 rfl rfl ?_
    refine V_dup2 dX11_readCost_38 rfl rfl ?_
    refine V_iald dX11_readCost_39 rfl (by decide) (fun h25 => ?_)
    refine V_iconst (v := 1) dX11_readCost_40 rfl ?_
    refine V_aload_n (k := 0) dX11_readCost_41 rfl rfl ?_
    refine V_getr (k := 136) dX11_readCost_42 rfl (by decide) vf_X11_34 (by decide) (v_fin hI23 123 rfl) ?_
    refine V_iload_n (k := 1) dX11_readCost_45 rfl rfl ?_
    refine V_iald dX11_readCost_46 rfl (by decide) (fun h26 => ?_)
    refine V_ishl dX11_readCost_47 ?_
    refine V_ior dX11_readCost_48 ?_
    refine V_iast dX11_readCost_49 rfl (by decide) (fun h27 => ?_)
    refine V_sub [0, 1] rfl ?_
    exact vX11_readCost_50 (v_si M21 137 (Int32.toNatClampNeg x1) ((M21.1 137 (Int32.toNatClampNeg x1)) ||| (1 <<< ((M21.1 136 (Int32.toNatClampNeg x1)) &&& (31 : Int32))))) x1 hI23
def fX11_readItem_15 (M : vM) (x1 : Int32) : Option (vR × vM) := if (M.1 130 38) = 0 then bv (fX11_stepOn M ) fun M5 => bv (fX11_readCost M5 x1) fun M8 => rV M8 else rV M
set_option maxRecDepth 20000 in
set_option maxHeartbeats 2000000 in
theorem vX11_readItem_15 {l : Launch} {D : va_G} {dA : Nat → ClassId} : ∀ (M : vM) (x1 : Int32), v_WT M.2.2 → V l D dA sX11_readItem false 175 8 0 0 15 [(0, .ref 130), (1, .int x1)] [] 175 M (fX11_readItem_15 M x1) := by
  intro M x1 hI
  refine V_aload_n (k := 0) dX11_readItem_15 rfl rfl ?_
  refine V_geti dX11_readItem_16 rfl (by decide) vf_X11_206 (by decide) ?_
  refine V_ifeq (tgt := 23) dX11_readItem_19 (by decide) (fun h4 => ?_) (fun h4 => ?_)
  · refine V_aload_n (k := 0) dX11_readItem_23 rfl rfl ?_
    refine V_callVv (q := (RX11, TX11, 61)) (cls := 11) (st0 := []) (kc' := 0) (ks' := 0) dX11_readItem_24 lk_X11_223 rfl (by decide) rfl rfl rfl (cX11_stepOn_ok M  hI) rfl rfl (by decide) (by decide) (Nat.le_of_ble_eq_true rfl) (Or.inl rfl) rfl rfl (by decide) (by decide) (fun  M5 e6 hI7 => ?_)
    refine V_aload_n (k := 0) dX11_readItem_27 rfl rfl ?_
    refine V_iload_n (k := 1) dX11_readItem_28 rfl rfl ?_
    refine V_callVv (q := (RX11, TX11, 61)) (cls := 11) (st0 := []) (kc' := 0) (ks' := 0) dX11_readItem_29 lk_X11_249 rfl (by decide) rfl rfl rfl (cX11_readCost_ok M5 x1 hI7) rfl rfl (by decide) (by decide) (Nat.le_of_ble_eq_true rfl) (Or.inl rfl) rfl rfl (by decide) (by decide) (fun  M8 e9 hI10 => ?_)
    exact V_ret (fun _ => hI10) (Or.inl ⟨rfl, rfl⟩) dX11_readItem_32 (fun ty x h1 h2 => by cases h1) rfl
  · exact V_ret (fun _ => hI) (Or.inl ⟨rfl, rfl⟩) dX11_readItem_22 (fun ty x h1 h2 => by cases h1) rfl
def fX11_readItem (M : vM) (x1 : Int32) (x2 : Int32) : Option (vR × vM) := if v_in x1 12 = true then if (M.1 136 (Int32.toNatClampNeg x1)) = x2 then bv (fX11_wrong M 2) fun M13 => fX11_readItem_15 M13 x1 else fX11_readItem_15 M x1 else none
set_option maxRecDepth 20000 in
set_option maxHeartbeats 2000000 in
theorem cX11_readItem_ok {l : Launch} {D : va_G} {dA : Nat → ClassId} (M : vM) (x1 : Int32) (x2 : Int32) (hI : v_WT M.2.2) : Ct l D dA sX11_readItem false 175 8 0 0 175 [.ref 130, .int x1, .int x2] M (fX11_readItem M x1 x2) := by
  refine Ct_of (lv := [(0, .ref 130), (1, .int x1), (2, .int x2)]) (by decide +kernel) rfl (Nat.le_of_ble_eq_true rfl) rfl (fun h => by cases h) ?_
  refine V_aload_n (k := 0) dX11_readItem_0 rfl rfl ?_
  refine V_getr (k := 136) dX11_readItem_1 rfl (by decide) vf_X11_34 (by decide) (v_fin hI 123 rfl) ?_
  refine V_iload_n (k := 1) dX11_readItem_4 rfl rfl ?_
  refine V_iald dX11_readItem_5 rfl (by decide) (fun h11 => ?_)
  refine V_iload_n (k := 2) dX11_readItem_6 rfl rfl ?_
  refine V_icmpne (tgt := 15) dX11_readItem_7 (by decide) (fun h12 => ?_) (fun h12 => ?_)
  · refine V_sub [0, 1] rfl ?_
    exact vX11_readItem_15 M x1 hI
  · refine V_aload_n (k := 0) dX11_readItem_10 rfl rfl ?_
    refine V_iconst (v := 2) dX11_readItem_11 rfl ?_
    refine V_callVv (q := (RX11, TX11, 61)) (cls := 11) (st0 := []) (kc' := 0) (ks' := 0) dX11_readItem_12 lk_X11_226 rfl (by decide) rfl rfl rfl (cX11_wrong_ok M 2 hI) rfl rfl (by decide) (by decide) (Nat.le_of_ble_eq_true rfl) (Or.inl rfl) rfl rfl (by decide) (by decide) (fun  M13 e14 hI15 => ?_)
    refine V_sub [0, 1] rfl ?_
    exact vX11_readItem_15 M13 x1 hI15
def fX11_readOne_90 (k95 : vM → Option (vR × vM)) (M : vM) : Option (vR × vM) := bv (fX11_wrong M 4) fun M10 => k95 M10
set_option maxRecDepth 20000 in
set_option maxHeartbeats 2000000 in
theorem vX11_readOne_90 {l : Launch} {D : va_G} {dA : Nat → ClassId} {k95 : vM → Option (vR × vM)} (hk95 : ∀ (M : vM), v_WT M.2.2 → V l D dA sX11_readOne false 175 3 0 0 95 [(0, .ref 130)] [] 175 M (k95 M)) : ∀ (M : vM), v_WT M.2.2 → V l D dA sX11_readOne false 175 3 0 0 90 [(0, .ref 130)] [] 175 M (fX11_readOne_90 k95 M) := by
  intro M hI
  refine V_aload_n (k := 0) dX11_readOne_90 rfl rfl ?_
  refine V_iconst (v := 4) dX11_readOne_91 rfl ?_
  refine V_callVv (q := (RX11, TX11, 61)) (cls := 11) (st0 := []) (kc' := 0) (ks' := 0) dX11_readOne_92 lk_X11_226 rfl (by decide) rfl rfl rfl (cX11_wrong_ok M 4 hI) rfl rfl (by decide) (by decide) (Nat.le_of_ble_eq_true rfl) (Or.inl rfl) rfl rfl (by decide) (by decide) (fun  M10 e11 hI12 => ?_)
  refine V_sub [0] rfl ?_
  exact hk95 M10 hI12
def fX11_readOne_95 (M : vM) : Option (vR × vM) := if (M.1 130 38) = 0 then bv (fX11_stepOn M ) fun M14 => rI (M.1 130 35) M14 else rI (M.1 130 35) M
set_option maxRecDepth 20000 in
set_option maxHeartbeats 2000000 in
theorem vX11_readOne_95 {l : Launch} {D : va_G} {dA : Nat → ClassId} : ∀ (M : vM), v_WT M.2.2 → V l D dA sX11_readOne false 175 3 0 0 95 [(0, .ref 130)] [] 175 M (fX11_readOne_95 M) := by
  intro M hI
  refine V_aload_n (k := 0) dX11_readOne_95 rfl rfl ?_
  refine V_geti dX11_readOne_96 rfl (by decide) vf_X11_193 (by decide) ?_
  refine V_istore (lv' := [(4, .int (M.1 130 35)), (0, .ref 130)]) dX11_readOne_99 (by decide) rfl ?_
  refine V_aload_n (k := 1) dX11_readOne_101 rfl rfl ?_
  refine V_geti dX11_readOne_102 rfl (by decide) vf_X11_206 (by decide) ?_
  refine V_ifne (tgt := 112) dX11_readOne_105 (by decide) (fun h13 => ?_) (fun h13 => ?_)
  · refine V_iload (k := 0) dX11_readOne_112 rfl ?_
    exact V_ret (fun _ => hI) (Or.inr (Or.inl ⟨rfl, _, rfl⟩)) dX11_readOne_114 (fun ty x h1 h2 => by cases h1; rfl) rfl
  · refine V_aload_n (k := 1) dX11_readOne_108 rfl rfl ?_
    refine V_callVv (q := (RX11, TX11, 61)) (cls := 11) (st0 := []) (kc' := 0) (ks' := 0) dX11_readOne_109 lk_X11_223 rfl (by decide) rfl rfl rfl (cX11_stepOn_ok M  hI) rfl rfl (by decide) (by decide) (Nat.le_of_ble_eq_true rfl) (Or.inl rfl) rfl rfl (by decide) (by decide) (fun  M14 e15 hI16 => ?_)
    refine V_iload (k := 0) dX11_readOne_112 rfl ?_
    exact V_ret (fun _ => hI16) (Or.inr (Or.inl ⟨rfl, _, rfl⟩)) dX11_readOne_114 (fun ty x h1 h2 => by cases h1; rfl) rfl
def fX11_readOne (M : vM) (x1 : Int32) (x2 : Int32) (x3 : Int32) : Option (vR × vM) := if (M.1 130 38) = 0 then if (M.1 130 34) = 2 then if ((M.1 130 37) - (M.1 130 36)) ≤ 4 then if (M.1 130 35) < x1 then if x2 = ((-1)) then fX11_readOne_95 M else if x3 = 0 then if (M.1 130 35) = x2 then fX11_readOne_90 (fX11_readOne_95) M else fX11_readOne_95 M else if x2 < (M.1 130 35) then fX11_readOne_95 M else fX11_readOne_90 (fX11_readOne_95) M else bv (fX11_wrong M 3) fun M25 => fX11_readOne_95 M25 else bv (fX11_wrong M 2) fun M28 => fX11_readOne_95 M28 else bv (fX11_wrong M 1) fun M31 => fX11_readOne_95 M31 else rI 0 M
set_option maxRecDepth 20000 in
set_option maxHeartbeats 2000000 in
theorem cX11_readOne_ok {l : Launch} {D : va_G} {dA : Nat → ClassId} (M : vM) (x1 : Int32) (x2 : Int32) (x3 : Int32) (hI : v_WT M.2.2) : Ct l D dA sX11_readOne false 175 3 0 0 175 [.ref 130, .int x1, .int x2, .int x3] M (fX11_readOne M x1 x2 x3) := by
  refine Ct_of (lv := [(0, .ref 130), (1, .int x1), (2, .int x2), (3, .int x3)]) (by decide +kernel) rfl (Nat.le_of_ble_eq_true rfl) rfl (fun h => by cases h) ?_
  refine V_aload_n (k := 0) dX11_readOne_0 rfl rfl ?_
  refine V_geti dX11_readOne_1 rfl (by decide) vf_X11_206 (by decide) ?_
  refine V_ifeq (tgt := 9) dX11_readOne_4 (by decide) (fun h17 => ?_) (fun h17 => ?_)
  · refine V_aload_n (k := 0) dX11_readOne_9 rfl rfl ?_
    refine V_geti dX11_readOne_10 rfl (by decide) vf_X11_184 (by decide) ?_
    refine V_iconst (v := 2) dX11_readOne_13 rfl ?_
    refine V_icmpeq (tgt := 25) dX11_readOne_14 (by decide) (fun h18 => ?_) (fun h18 => ?_)
    · refine V_aload_n (k := 0) dX11_readOne_25 rfl rfl ?_
      refine V_geti dX11_readOne_26 rfl (by decide) vf_X11_203 (by decide) ?_
      refine V_aload_n (k := 0) dX11_readOne_29 rfl rfl ?_
      refine V_geti dX11_readOne_30 rfl (by decide) vf_X11_181 (by decide) ?_
      refine V_isub dX11_readOne_33 ?_
      refine V_iconst (v := 4) dX11_readOne_34 rfl ?_
      refine V_icmple (tgt := 46) dX11_readOne_35 (by decide) (fun h19 => ?_) (fun h19 => ?_)
      · refine V_aload_n (k := 0) dX11_readOne_46 rfl rfl ?_
        refine V_geti dX11_readOne_47 rfl (by decide) vf_X11_193 (by decide) ?_
        refine V_iload_n (k := 1) dX11_readOne_50 rfl rfl ?_
        refine V_icmplt (tgt := 62) dX11_readOne_51 (by decide) (fun h20 => ?_) (fun h20 => ?_)
        · refine V_iload_n (k := 2) dX11_readOne_62 rfl rfl ?_
          refine V_iconst (v := (-1)) dX11_readOne_63 rfl ?_
          refine V_icmpeq (tgt := 95) dX11_readOne_64 (by decide) (fun h21 => ?_) (fun h21 => ?_)
          · refine V_sub [0] rfl ?_
            exact vX11_readOne_95 M hI
          · refine V_iload_n (k := 3) dX11_readOne_67 rfl rfl ?_
            refine V_ifeq (tgt := 82) dX11_readOne_68 (by decide) (fun h22 => ?_) (fun h22 => ?_)
            · refine V_aload_n (k := 0) dX11_readOne_82 rfl rfl ?_
              refine V_geti dX11_readOne_83 rfl (by decide) vf_X11_193 (by decide) ?_
              refine V_iload_n (k := 2) dX11_readOne_86 rfl rfl ?_
              refine V_icmpne (tgt := 95) dX11_readOne_87 (by decide) (fun h23 => ?_) (fun h23 => ?_)
              · refine V_sub [0] rfl ?_
                exact vX11_readOne_95 M hI
              · refine V_sub [0] rfl ?_
                exact vX11_readOne_90 (vX11_readOne_95) M hI
            · refine V_aload_n (k := 0) dX11_readOne_71 rfl rfl ?_
              refine V_geti dX11_readOne_72 rfl (by decide) vf_X11_193 (by decide) ?_
              refine V_iload_n (k := 2) dX11_readOne_75 rfl rfl ?_
              refine V_icmpgt (tgt := 95) dX11_readOne_76 (by decide) (fun h24 => ?_) (fun h24 => ?_)
              · refine V_sub [0] rfl ?_
                exact vX11_readOne_95 M hI
              · refine V_goto (tgt := 90) dX11_readOne_79 (by decide) ?_
                refine V_sub [0] rfl ?_
                exact vX11_readOne_90 (vX11_readOne_95) M hI
        · refine V_aload_n (k := 0) dX11_readOne_54 rfl rfl ?_
          refine V_iconst (v := 3) dX11_readOne_55 rfl ?_
          refine V_callVv (q := (RX11, TX11, 61)) (cls := 11) (st0 := []) (kc' := 0) (ks' := 0) dX11_readOne_56 lk_X11_226 rfl (by decide) rfl rfl rfl (cX11_wrong_ok M 3 hI) rfl rfl (by decide) (by decide) (Nat.le_of_ble_eq_true rfl) (Or.inl rfl) rfl rfl (by decide) (by decide) (fun  M25 e26 hI27 => ?_)
          refine V_goto (tgt := 95) dX11_readOne_59 (by decide) ?_
          refine V_sub [0] rfl ?_
          exact vX11_readOne_95 M25 hI27
      · refine V_aload_n (k := 0) dX11_readOne_38 rfl rfl ?_
        refine V_iconst (v := 2) dX11_readOne_39 rfl ?_
        refine V_callVv (q := (RX11, TX11, 61)) (cls := 11) (st0 := []) (kc' := 0) (ks' := 0) dX11_readOne_40 lk_X11_226 rfl (by decide) rfl rfl rfl (cX11_wrong_ok M 2 hI) rfl rfl (by decide) (by decide) (Nat.le_of_ble_eq_true rfl) (Or.inl rfl) rfl rfl (by decide) (by decide) (fun  M28 e29 hI30 => ?_)
        refine V_goto (tgt := 95) dX11_readOne_43 (by decide) ?_
        refine V_sub [0] rfl ?_
        exact vX11_readOne_95 M28 hI30
    · refine V_aload_n (k := 0) dX11_readOne_17 rfl rfl ?_
      refine V_iconst (v := 1) dX11_readOne_18 rfl ?_
      refine V_callVv (q := (RX11, TX11, 61)) (cls := 11) (st0 := []) (kc' := 0) (ks' := 0) dX11_readOne_19 lk_X11_226 rfl (by decide) rfl rfl rfl (cX11_wrong_ok M 1 hI) rfl rfl (by decide) (by decide) (Nat.le_of_ble_eq_true rfl) (Or.inl rfl) rfl rfl (by decide) (by decide) (fun  M31 e32 hI33 => ?_)
      refine V_goto (tgt := 95) dX11_readOne_22 (by decide) ?_
      refine V_sub [0] rfl ?_
      exact vX11_readOne_95 M31 hI33
  · refine V_iconst (v := 0) dX11_readOne_7 rfl ?_
    exact V_ret (fun _ => hI) (Or.inr (Or.inl ⟨rfl, _, rfl⟩)) dX11_readOne_8 (fun ty x h1 h2 => by cases h1; rfl) rfl
def fX11_readStep_16 (M : vM) (x1 : Int32) : Option (vR × vM) := if (M.1 130 38) = 0 then bv (fX11_stepOn M ) fun M13 => if v_in x1 12 = true then if v_in x1 12 = true then bi (fX11_readOne M13 (M13.1 133 (Int32.toNatClampNeg x1)) ((-1)) 0) fun y18 M19 => if v_in ((20 * x1) + (M13.1 136 (Int32.toNatClampNeg x1))) 240 = true then if v_in x1 12 = true then if v_in x1 12 = true then if v_in x1 12 = true then if v_in ((20 * x1) + ((v_si M19 139 (Int32.toNatClampNeg ((20 * x1) + (M13.1 136 (Int32.toNatClampNeg x1)))) y18).1 136 (Int32.toNatClampNeg x1))) 240 = true then bi (fX11_readOne (v_si M19 139 (Int32.toNatClampNeg ((20 * x1) + (M13.1 136 (Int32.toNatClampNeg x1)))) y18) ((v_si M19 139 (Int32.toNatClampNeg ((20 * x1) + (M13.1 136 (Int32.toNatClampNeg x1)))) y18).1 133 (Int32.toNatClampNeg x1)) ((v_si M19 139 (Int32.toNatClampNeg ((20 * x1) + (M13.1 136 (Int32.toNatClampNeg x1)))) y18).1 139 (Int32.toNatClampNeg ((20 * x1) + ((v_si M19 139 (Int32.toNatClampNeg ((20 * x1) + (M13.1 136 (Int32.toNatClampNeg x1)))) y18).1 136 (Int32.toNatClampNeg x1))))) 1) fun y27 M28 => if v_in ((20 * x1) + ((v_si M19 139 (Int32.toNatClampNeg ((20 * x1) + (M13.1 136 (Int32.toNatClampNeg x1)))) y18).1 136 (Int32.toNatClampNeg x1))) 240 = true then bv (fX11_readCost (v_si M28 140 (Int32.toNatClampNeg ((20 * x1) + ((v_si M19 139 (Int32.toNatClampNeg ((20 * x1) + (M13.1 136 (Int32.toNatClampNeg x1)))) y18).1 136 (Int32.toNatClampNeg x1)))) y27) x1) fun M32 => rV M32 else none else none else none else none else none else none else none else none else rV M
set_option maxRecDepth 20000 in
set_option maxHeartbeats 2000000 in
theorem vX11_readStep_16 {l : Launch} {D : va_G} {dA : Nat → ClassId} : ∀ (M : vM) (x1 : Int32), v_WT M.2.2 → V l D dA sX11_readStep false 175 8 0 0 16 [(0, .ref 130), (1, .int x1)] [] 175 M (fX11_readStep_16 M x1) := by
  intro M x1 hI
  refine V_aload_n (k := 0) dX11_readStep_16 rfl rfl ?_
  refine V_geti dX11_readStep_17 rfl (by decide) vf_X11_206 (by decide) ?_
  refine V_ifeq (tgt := 24) dX11_readStep_20 (by decide) (fun h12 => ?_) (fun h12 => ?_)
  · refine V_aload_n (k := 0) dX11_readStep_24 rfl rfl ?_
    refine V_callVv (q := (RX11, TX11, 61)) (cls := 11) (st0 := []) (kc' := 0) (ks' := 0) dX11_readStep_25 lk_X11_223 rfl (by decide) rfl rfl rfl (cX11_stepOn_ok M  hI) rfl rfl (by decide) (by decide) (Nat.le_of_ble_eq_true rfl) (Or.inl rfl) rfl rfl (by decide) (by decide) (fun  M13 e14 hI15 => ?_)
    refine V_aload_n (k := 0) dX11_readStep_28 rfl rfl ?_
    refine V_getr (k := 139) dX11_readStep_29 rfl (by decide) vf_X11_43 (by decide) (v_fin hI15 126 rfl) ?_
    refine V_bipush (v := 20) dX11_readStep_32 rfl ?_
    refine V_iload_n (k := 1) dX11_readStep_34 rfl rfl ?_
    refine V_imul dX11_readStep_35 ?_
    refine V_aload_n (k := 0) dX11_readStep_36 rfl rfl ?_
    refine V_getr (k := 136) dX11_readStep_37 rfl (by decide) vf_X11_34 (by decide) (v_fin hI15 123 rfl) ?_
    refine V_iload_n (k := 1) dX11_readStep_40 rfl rfl ?_
    refine V_iald dX11_readStep_41 rfl (by decide) (fun h16 => ?_)
    refine V_iadd dX11_readStep_42 ?_
    refine V_aload_n (k := 0) dX11_readStep_43 rfl rfl ?_
    refine V_aload_n (k := 0) dX11_readStep_44 rfl rfl ?_
    refine V_getr (k := 133) dX11_readStep_45 rfl (by decide) vf_X11_25 (by decide) (v_fin hI15 120 rfl) ?_
    refine V_iload_n (k := 1) dX11_readStep_48 rfl rfl ?_
    refine V_iald dX11_readStep_49 rfl (by decide) (fun h17 => ?_)
    refine V_iconst (v := (-1)) dX11_readStep_50 rfl ?_
    refine V_iconst (v := 0) dX11_readStep_51 rfl ?_
    refine V_callVi (q := (RX11, TX11, 61)) (cls := 11) (st0 := [.int ((20 * x1) + (M13.1 136 (Int32.toNatClampNeg x1))), .ref 139]) (kc' := 0) (ks' := 0) dX11_readStep_52 lk_X11_245 rfl (by decide) rfl rfl rfl (cX11_readOne_ok M13 (M13.1 133 (Int32.toNatClampNeg x1)) ((-1)) 0 hI15) rfl rfl (by decide) (by decide) (Nat.le_of_ble_eq_true rfl) (Or.inl rfl) rfl rfl (by decide) (by decide) (fun y18 M19 e20 hI21 => ?_)
    refine V_iast dX11_readStep_55 rfl (by decide) (fun h22 => ?_)
    refine V_aload_n (k := 0) dX11_readStep_56 rfl rfl ?_
    refine V_getr (k := 140) dX11_readStep_57 rfl (by decide) vf_X11_46 (by decide) (v_fin hI21 127 rfl) ?_
    refine V_bipush (v := 20) dX11_readStep_60 rfl ?_
    refine V_iload_n (k := 1) dX11_readStep_62 rfl rfl ?_
    refine V_imul dX11_readStep_63 ?_
    refine V_aload_n (k := 0) dX11_readStep_64 rfl rfl ?_
    refine V_getr (k := 136) dX11_readStep_65 rfl (by decide) vf_X11_34 (by decide) (v_fin hI21 123 rfl) ?_
    refine V_iload_n (k := 1) dX11_readStep_68 rfl rfl ?_
    refine V_iald dX11_readStep_69 rfl (by decide) (fun h23 => ?_)
    refine V_iadd dX11_readStep_70 ?_
    refine V_aload_n (k := 0) dX11_readStep_71 rfl rfl ?_
    refine V_aload_n (k := 0) dX11_readStep_72 rfl rfl ?_
    refine V_getr (k := 133) dX11_readStep_73 rfl (by decide) vf_X11_25 (by decide) (v_fin hI21 120 rfl) ?_
    refine V_iload_n (k := 1) dX11_readStep_76 rfl rfl ?_
    refine V_iald dX11_readStep_77 rfl (by decide) (fun h24 => ?_)
    refine V_aload_n (k := 0) dX11_readStep_78 rfl rfl ?_
    refine V_getr (k := 139) dX11_readStep_79 rfl (by decide) vf_X11_43 (by decide) (v_fin hI21 126 rfl) ?_
    refine V_bipush (v := 20) dX11_readStep_82 rfl ?_
    refine V_iload_n (k := 1) dX11_readStep_84 rfl rfl ?_
    refine V_imul dX11_readStep_85 ?_
    refine V_aload_n (k := 0) dX11_readStep_86 rfl rfl ?_
    refine V_getr (k := 136) dX11_readStep_87 rfl (by decide) vf_X11_34 (by decide) (v_fin hI21 123 rfl) ?_
    refine V_iload_n (k := 1) dX11_readStep_90 rfl rfl ?_
    refine V_iald dX11_readStep_91 rfl (by decide) (fun h25 => ?_)
    refine V_iadd dX11_readStep_92 ?_
    refine V_iald dX11_readStep_93 rfl (by decide) (fun h26 => ?_)
    refine V_iconst (v := 1) dX11_readStep_94 rfl ?_
    refine V_callVi (q := (RX11, TX11, 61)) (cls := 11) (st0 := [.int ((20 * x1) + ((v_si M19 139 (Int32.toNatClampNeg ((20 * x1) + (M13.1 136 (Int32.toNatClampNeg x1)))) y18).1 136 (Int32.toNatClampNeg x1))), .ref 140]) (kc' := 0) (ks' := 0) dX11_readStep_95 lk_X11_245 rfl (by decide) rfl rfl rfl (cX11_readOne_ok (v_si M19 139 (Int32.toNatClampNeg ((20 * x1) + (M13.1 136 (Int32.toNatClampNeg x1)))) y18) ((v_si M19 139 (Int32.toNatClampNeg ((20 * x1) + (M13.1 136 (Int32.toNatClampNeg x1)))) y18).1 133 (Int32.toNatClampNeg x1)) ((v_si M19 139 (Int32.toNatClampNeg ((20 * x1) + (M13.1 136 (Int32.toNatClampNeg x1)))) y18).1 139 (Int32.toNatClampNeg ((20 * x1) + ((v_si M19 139 (Int32.toNatClampNeg ((20 * x1) + (M13.1 136 (Int32.toNatClampNeg x1)))) y18).1 136 (Int32.toNatClampNeg x1))))) 1 hI21) rfl rfl (by decide) (by decide) (Nat.le_of_ble_eq_true rfl) (Or.inl rfl) rfl rfl (by decide) (by decide) (fun y27 M28 e29 hI30 => ?_)
    refine V_iast dX11_readStep_98 rfl (by decide) (fun h31 => ?_)
    refine V_aload_n (k := 0) dX11_readStep_99 rfl rfl ?_
    refine V_iload_n (k := 1) dX11_readStep_100 rfl rfl ?_
    refine V_callVv (q := (RX11, TX11, 61)) (cls := 11) (st0 := []) (kc' := 0) (ks' := 0) dX11_readStep_101 lk_X11_249 rfl (by decide) rfl rfl rfl (cX11_readCost_ok (v_si M28 140 (Int32.toNatClampNeg ((20 * x1) + ((v_si M19 139 (Int32.toNatClampNeg ((20 * x1) + (M13.1 136 (Int32.toNatClampNeg x1)))) y18).1 136 (Int32.toNatClampNeg x1)))) y27) x1 hI30) rfl rfl (by decide) (by decide) (Nat.le_of_ble_eq_true rfl) (Or.inl rfl) rfl rfl (by decide) (by decide) (fun  M32 e33 hI34 => ?_)
    exact V_ret (fun _ => hI34) (Or.inl ⟨rfl, rfl⟩) dX11_readStep_104 (fun ty x h1 h2 => by cases h1) rfl
  · exact V_ret (fun _ => hI) (Or.inl ⟨rfl, rfl⟩) dX11_readStep_23 (fun ty x h1 h2 => by cases h1) rfl
def fX11_readStep (M : vM) (x1 : Int32) : Option (vR × vM) := if v_in x1 12 = true then if (M.1 136 (Int32.toNatClampNeg x1)) = 20 then bv (fX11_wrong M 2) fun M37 => fX11_readStep_16 M37 x1 else fX11_readStep_16 M x1 else none
set_option maxRecDepth 20000 in
set_option maxHeartbeats 2000000 in
theorem cX11_readStep_ok {l : Launch} {D : va_G} {dA : Nat → ClassId} (M : vM) (x1 : Int32) (hI : v_WT M.2.2) : Ct l D dA sX11_readStep false 175 8 0 0 175 [.ref 130, .int x1] M (fX11_readStep M x1) := by
  refine Ct_of (lv := [(0, .ref 130), (1, .int x1)]) (by decide +kernel) rfl (Nat.le_of_ble_eq_true rfl) rfl (fun h => by cases h) ?_
  refine V_aload_n (k := 0) dX11_readStep_0 rfl rfl ?_
  refine V_getr (k := 136) dX11_readStep_1 rfl (by decide) vf_X11_34 (by decide) (v_fin hI 123 rfl) ?_
  refine V_iload_n (k := 1) dX11_readStep_4 rfl rfl ?_
  refine V_iald dX11_readStep_5 rfl (by decide) (fun h35 => ?_)
  refine V_bipush (v := 20) dX11_readStep_6 rfl ?_
  refine V_icmpne (tgt := 16) dX11_readStep_8 (by decide) (fun h36 => ?_) (fun h36 => ?_)
  · refine V_sub [0, 1] rfl ?_
    exact vX11_readStep_16 M x1 hI
  · refine V_aload_n (k := 0) dX11_readStep_11 rfl rfl ?_
    refine V_iconst (v := 2) dX11_readStep_12 rfl ?_
    refine V_callVv (q := (RX11, TX11, 61)) (cls := 11) (st0 := []) (kc' := 0) (ks' := 0) dX11_readStep_13 lk_X11_226 rfl (by decide) rfl rfl rfl (cX11_wrong_ok M 2 hI) rfl rfl (by decide) (by decide) (Nat.le_of_ble_eq_true rfl) (Or.inl rfl) rfl rfl (by decide) (by decide) (fun  M37 e38 hI39 => ?_)
    refine V_sub [0, 1] rfl ?_
    exact vX11_readStep_16 M37 x1 hI39
def fX11_readRule_23 (M : vM) (x1 : Int32) (x2 : Int32) : Option (vR × vM) := if (M.1 130 38) = 0 then bv (fX11_stepOn M ) fun M15 => if v_in x1 12 = true then if v_in ((12 * x1) + (M15.1 138 (Int32.toNatClampNeg x1))) 144 = true then if v_in x1 12 = true then bi (fX11_readOne (v_si M15 142 (Int32.toNatClampNeg ((12 * x1) + (M15.1 138 (Int32.toNatClampNeg x1)))) x2) ((v_si M15 142 (Int32.toNatClampNeg ((12 * x1) + (M15.1 138 (Int32.toNatClampNeg x1)))) x2).1 136 (Int32.toNatClampNeg x1)) ((-1)) 0) fun y21 M22 => if v_in ((12 * x1) + (M15.1 138 (Int32.toNatClampNeg x1))) 144 = true then if v_in x1 12 = true then if v_in ((12 * x1) + (M15.1 138 (Int32.toNatClampNeg x1))) 144 = true then bi (fX11_readOne (v_si M22 143 (Int32.toNatClampNeg ((12 * x1) + (M15.1 138 (Int32.toNatClampNeg x1)))) y21) ((v_si M22 143 (Int32.toNatClampNeg ((12 * x1) + (M15.1 138 (Int32.toNatClampNeg x1)))) y21).1 136 (Int32.toNatClampNeg x1)) ((v_si M22 143 (Int32.toNatClampNeg ((12 * x1) + (M15.1 138 (Int32.toNatClampNeg x1)))) y21).1 143 (Int32.toNatClampNeg ((12 * x1) + (M15.1 138 (Int32.toNatClampNeg x1))))) 0) fun y28 M29 => if v_in ((12 * x1) + (M15.1 138 (Int32.toNatClampNeg x1))) 144 = true then if v_in x1 12 = true then if v_in x1 12 = true then bv (fX11_semi (v_si (v_si M29 144 (Int32.toNatClampNeg ((12 * x1) + (M15.1 138 (Int32.toNatClampNeg x1)))) y28) 138 (Int32.toNatClampNeg x1) (((v_si M29 144 (Int32.toNatClampNeg ((12 * x1) + (M15.1 138 (Int32.toNatClampNeg x1)))) y28).1 138 (Int32.toNatClampNeg x1)) + 1)) ) fun M35 => rV M35 else none else none else none else none else none else none else none else none else none else rV M
set_option maxRecDepth 20000 in
set_option maxHeartbeats 2000000 in
theorem vX11_readRule_23 {l : Launch} {D : va_G} {dA : Nat → ClassId} : ∀ (M : vM) (x1 : Int32) (x2 : Int32), v_WT M.2.2 → V l D dA sX11_readRule false 175 4 0 0 23 [(0, .ref 130), (1, .int x1), (2, .int x2)] [] 175 M (fX11_readRule_23 M x1 x2) := by
  intro M x1 x2 hI
  refine V_aload_n (k := 0) dX11_readRule_23 rfl rfl ?_
  refine V_geti dX11_readRule_24 rfl (by decide) vf_X11_206 (by decide) ?_
  refine V_ifeq (tgt := 31) dX11_readRule_27 (by decide) (fun h14 => ?_) (fun h14 => ?_)
  · refine V_aload_n (k := 0) dX11_readRule_31 rfl rfl ?_
    refine V_callVv (q := (RX11, TX11, 61)) (cls := 11) (st0 := []) (kc' := 0) (ks' := 0) dX11_readRule_32 lk_X11_223 rfl (by decide) rfl rfl rfl (cX11_stepOn_ok M  hI) rfl rfl (by decide) (by decide) (Nat.le_of_ble_eq_true rfl) (Or.inl rfl) rfl rfl (by decide) (by decide) (fun  M15 e16 hI17 => ?_)
    refine V_bipush (v := 12) dX11_readRule_35 rfl ?_
    refine V_iload_n (k := 1) dX11_readRule_37 rfl rfl ?_
    refine V_imul dX11_readRule_38 ?_
    refine V_aload_n (k := 0) dX11_readRule_39 rfl rfl ?_
    refine V_getr (k := 138) dX11_readRule_40 rfl (by decide) vf_X11_40 (by decide) (v_fin hI17 125 rfl) ?_
    refine V_iload_n (k := 1) dX11_readRule_43 rfl rfl ?_
    refine V_iald dX11_readRule_44 rfl (by decide) (fun h18 => ?_)
    refine V_iadd dX11_readRule_45 ?_
    refine V_istore_n (lv' := [(3, .int ((12 * x1) + (M15.1 138 (Int32.toNatClampNeg x1)))), (0, .ref 130), (1, .int x1), (2, .int x2)]) dX11_readRule_46 rfl (by decide) rfl ?_
    refine V_aload_n (k := 1) dX11_readRule_47 rfl rfl ?_
    refine V_getr (k := 142) dX11_readRule_48 rfl (by decide) vf_X11_52 (by decide) (v_fin hI17 129 rfl) ?_
    refine V_iload_n (k := 0) dX11_readRule_51 rfl rfl ?_
    refine V_iload_n (k := 3) dX11_readRule_52 rfl rfl ?_
    refine V_iast dX11_readRule_53 rfl (by decide) (fun h19 => ?_)
    refine V_aload_n (k := 1) dX11_readRule_54 rfl rfl ?_
    refine V_getr (k := 143) dX11_readRule_55 rfl (by decide) vf_X11_55 (by decide) (v_fin hI17 130 rfl) ?_
    refine V_iload_n (k := 0) dX11_readRule_58 rfl rfl ?_
    refine V_aload_n (k := 1) dX11_readRule_59 rfl rfl ?_
    refine V_aload_n (k := 1) dX11_readRule_60 rfl rfl ?_
    refine V_getr (k := 136) dX11_readRule_61 rfl (by decide) vf_X11_34 (by decide) (v_fin hI17 123 rfl) ?_
    refine V_iload_n (k := 2) dX11_readRule_64 rfl rfl ?_
    refine V_iald dX11_readRule_65 rfl (by decide) (fun h20 => ?_)
    refine V_iconst (v := (-1)) dX11_readRule_66 rfl ?_
    refine V_iconst (v := 0) dX11_readRule_67 rfl ?_
    refine V_callVi (q := (RX11, TX11, 61)) (cls := 11) (st0 := [.int ((12 * x1) + (M15.1 138 (Int32.toNatClampNeg x1))), .ref 143]) (kc' := 0) (ks' := 0) dX11_readRule_68 lk_X11_245 rfl (by decide) rfl rfl rfl (cX11_readOne_ok (v_si M15 142 (Int32.toNatClampNeg ((12 * x1) + (M15.1 138 (Int32.toNatClampNeg x1)))) x2) ((v_si M15 142 (Int32.toNatClampNeg ((12 * x1) + (M15.1 138 (Int32.toNatClampNeg x1)))) x2).1 136 (Int32.toNatClampNeg x1)) ((-1)) 0 hI17) rfl rfl (by decide) (by decide) (Nat.le_of_ble_eq_true rfl) (Or.inl rfl) rfl rfl (by decide) (by decide) (fun y21 M22 e23 hI24 => ?_)
    refine V_iast dX11_readRule_71 rfl (by decide) (fun h25 => ?_)
    refine V_aload_n (k := 1) dX11_readRule_72 rfl rfl ?_
    refine V_getr (k := 144) dX11_readRule_73 rfl (by decide) vf_X11_58 (by decide) (v_fin hI24 131 rfl) ?_
    refine V_iload_n (k := 0) dX11_readRule_76 rfl rfl ?_
    refine V_aload_n (k := 1) dX11_readRule_77 rfl rfl ?_
    refine V_aload_n (k := 1) dX11_readRule_78 rfl rfl ?_
    refine V_getr (k := 136) dX11_readRule_79 rfl (by decide) vf_X11_34 (by decide) (v_fin hI24 123 rfl) ?_
    refine V_iload_n (k := 2) dX11_readRule_82 rfl rfl ?_
    refine V_iald dX11_readRule_83 rfl (by decide) (fun h26 => ?_)
    refine V_aload_n (k := 1) dX11_readRule_84 rfl rfl ?_
    refine V_getr (k := 143) dX11_readRule_85 rfl (by decide) vf_X11_55 (by decide) (v_fin hI24 130 rfl) ?_
    refine V_iload_n (k := 0) dX11_readRule_88 rfl rfl ?_
    refine V_iald dX11_readRule_89 rfl (by decide) (fun h27 => ?_)
    refine V_iconst (v := 0) dX11_readRule_90 rfl ?_
    refine V_callVi (q := (RX11, TX11, 61)) (cls := 11) (st0 := [.int ((12 * x1) + (M15.1 138 (Int32.toNatClampNeg x1))), .ref 144]) (kc' := 0) (ks' := 0) dX11_readRule_91 lk_X11_245 rfl (by decide) rfl rfl rfl (cX11_readOne_ok (v_si M22 143 (Int32.toNatClampNeg ((12 * x1) + (M15.1 138 (Int32.toNatClampNeg x1)))) y21) ((v_si M22 143 (Int32.toNatClampNeg ((12 * x1) + (M15.1 138 (Int32.toNatClampNeg x1)))) y21).1 136 (Int32.toNatClampNeg x1)) ((v_si M22 143 (Int32.toNatClampNeg ((12 * x1) + (M15.1 138 (Int32.toNatClampNeg x1)))) y21).1 143 (Int32.toNatClampNeg ((12 * x1) + (M15.1 138 (Int32.toNatClampNeg x1))))) 0 hI24) rfl rfl (by decide) (by decide) (Nat.le_of_ble_eq_true rfl) (Or.inl rfl) rfl rfl (by decide) (by decide) (fun y28 M29 e30 hI31 => ?_)
    refine V_iast dX11_readRule_94 rfl (by decide) (fun h32 => ?_)
    refine V_aload_n (k := 1) dX11_readRule_95 rfl rfl ?_
    refine V_getr (k := 138) dX11_readRule_96 rfl (by decide) vf_X11_40 (by decide) (v_fin hI31 125 rfl) ?_
    refine V_iload_n (k := 2) dX11_readRule_99 rfl rfl ?_
    refine V_dup2 dX11_readRule_100 rfl rfl ?_
    refine V_iald dX11_readRule_101 rfl (by decide) (fun h33 => ?_)
    refine V_iconst (v := 1) dX11_readRule_102 rfl ?_
    refine V_iadd dX11_readRule_103 ?_
    refine V_iast dX11_readRule_104 rfl (by decide) (fun h34 => ?_)
    refine V_aload_n (k := 1) dX11_readRule_105 rfl rfl ?_
    refine V_callVv (q := (RX11, TX11, 61)) (cls := 11) (st0 := []) (kc' := 0) (ks' := 0) dX11_readRule_106 lk_X11_242 rfl (by decide) rfl rfl rfl (cX11_semi_ok (v_si (v_si M29 144 (Int32.toNatClampNeg ((12 * x1) + (M15.1 138 (Int32.toNatClampNeg x1)))) y28) 138 (Int32.toNatClampNeg x1) (((v_si M29 144 (Int32.toNatClampNeg ((12 * x1) + (M15.1 138 (Int32.toNatClampNeg x1)))) y28).1 138 (Int32.toNatClampNeg x1)) + 1))  hI31) rfl rfl (by decide) (by decide) (Nat.le_of_ble_eq_true rfl) (Or.inl rfl) rfl rfl (by decide) (by decide) (fun  M35 e36 hI37 => ?_)
    exact V_ret (fun _ => hI37) (Or.inl ⟨rfl, rfl⟩) dX11_readRule_109 (fun ty x h1 h2 => by cases h1) rfl
  · exact V_ret (fun _ => hI) (Or.inl ⟨rfl, rfl⟩) dX11_readRule_30 (fun ty x h1 h2 => by cases h1) rfl
def fX11_readRule (M : vM) (x1 : Int32) (x2 : Int32) : Option (vR × vM) := if (M.1 130 38) = 0 then if v_in x1 12 = true then if (M.1 138 (Int32.toNatClampNeg x1)) = 12 then bv (fX11_wrong M 2) fun M41 => fX11_readRule_23 M41 x1 x2 else fX11_readRule_23 M x1 x2 else none else fX11_readRule_23 M x1 x2
set_option maxRecDepth 20000 in
set_option maxHeartbeats 2000000 in
theorem cX11_readRule_ok {l : Launch} {D : va_G} {dA : Nat → ClassId} (M : vM) (x1 : Int32) (x2 : Int32) (hI : v_WT M.2.2) : Ct l D dA sX11_readRule false 175 4 0 0 175 [.ref 130, .int x1, .int x2] M (fX11_readRule M x1 x2) := by
  refine Ct_of (lv := [(0, .ref 130), (1, .int x1), (2, .int x2)]) (by decide +kernel) rfl (Nat.le_of_ble_eq_true rfl) rfl (fun h => by cases h) ?_
  refine V_aload_n (k := 0) dX11_readRule_0 rfl rfl ?_
  refine V_geti dX11_readRule_1 rfl (by decide) vf_X11_206 (by decide) ?_
  refine V_ifne (tgt := 23) dX11_readRule_4 (by decide) (fun h38 => ?_) (fun h38 => ?_)
  · refine V_sub [0, 1, 2] rfl ?_
    exact vX11_readRule_23 M x1 x2 hI
  · refine V_aload_n (k := 0) dX11_readRule_7 rfl rfl ?_
    refine V_getr (k := 138) dX11_readRule_8 rfl (by decide) vf_X11_40 (by decide) (v_fin hI 125 rfl) ?_
    refine V_iload_n (k := 1) dX11_readRule_11 rfl rfl ?_
    refine V_iald dX11_readRule_12 rfl (by decide) (fun h39 => ?_)
    refine V_bipush (v := 12) dX11_readRule_13 rfl ?_
    refine V_icmpne (tgt := 23) dX11_readRule_15 (by decide) (fun h40 => ?_) (fun h40 => ?_)
    · refine V_sub [0, 1, 2] rfl ?_
      exact vX11_readRule_23 M x1 x2 hI
    · refine V_aload_n (k := 0) dX11_readRule_18 rfl rfl ?_
      refine V_iconst (v := 2) dX11_readRule_19 rfl ?_
      refine V_callVv (q := (RX11, TX11, 61)) (cls := 11) (st0 := []) (kc' := 0) (ks' := 0) dX11_readRule_20 lk_X11_226 rfl (by decide) rfl rfl rfl (cX11_wrong_ok M 2 hI) rfl rfl (by decide) (by decide) (Nat.le_of_ble_eq_true rfl) (Or.inl rfl) rfl rfl (by decide) (by decide) (fun  M41 e42 hI43 => ?_)
      refine V_sub [0, 1, 2] rfl ?_
      exact vX11_readRule_23 M41 x1 x2 hI43
def fX11_readLines_157 (k2 : vM → Int32 → Int32 → Option (vR × vM)) (M : vM) (x1 : Int32) (x2 : Int32) : Option (vR × vM) := if v_in x1 12 = true then if (M.1 132 (Int32.toNatClampNeg x1)) = 2 then bi (fX11_is M 11) fun y23 M24 => if y23 = 0 then k2 M24 x1 0 else bv (fX11_readRule M24 x1 0) fun M28 => k2 M28 x1 x2 else k2 M x1 0 else none
set_option maxRecDepth 20000 in
set_option maxHeartbeats 2000000 in
theorem vX11_readLines_157 {l : Launch} {D : va_G} {dA : Nat → ClassId} {k2 : vM → Int32 → Int32 → Option (vR × vM)} (hk2 : ∀ (M : vM) (x1 : Int32) (x2 : Int32), v_WT M.2.2 → V l D dA sX11_readLines false 175 9 0 0 2 [(0, .ref 130), (1, .int x1), (2, .int x2)] [] 175 M (k2 M x1 x2)) : ∀ (M : vM) (x1 : Int32) (x2 : Int32), v_WT M.2.2 → V l D dA sX11_readLines false 175 9 0 0 157 [(0, .ref 130), (1, .int x1), (2, .int x2)] [] 175 M (fX11_readLines_157 k2 M x1 x2) := by
  intro M x1 x2 hI
  refine V_aload_n (k := 0) dX11_readLines_157 rfl rfl ?_
  refine V_getr (k := 132) dX11_readLines_158 rfl (by decide) vf_X11_21 (by decide) (v_fin hI 119 rfl) ?_
  refine V_iload_n (k := 1) dX11_readLines_161 rfl rfl ?_
  refine V_iald dX11_readLines_162 rfl (by decide) (fun h21 => ?_)
  refine V_iconst (v := 2) dX11_readLines_163 rfl ?_
  refine V_icmpne (tgt := 186) dX11_readLines_164 (by decide) (fun h22 => ?_) (fun h22 => ?_)
  · refine V_iconst (v := 0) dX11_readLines_186 rfl ?_
    refine V_istore_n (lv' := [(2, .int 0), (0, .ref 130), (1, .int x1)]) dX11_readLines_187 rfl (by decide) rfl ?_
    refine V_goto (tgt := 2) dX11_readLines_188 (by decide) ?_
    refine V_sub [1, 2, 0] rfl ?_
    exact hk2 M x1 0 hI
  · refine V_aload_n (k := 0) dX11_readLines_167 rfl rfl ?_
    refine V_ldcwS (sid := 11) (tx := "ahead") dX11_readLines_168 (by decide +kernel) ?_
    refine V_callVi (q := (RX11, TX11, 61)) (cls := 11) (st0 := []) (kc' := 0) (ks' := 0) dX11_readLines_171 lk_X11_219 rfl (by decide) rfl rfl rfl (cX11_is_ok M 11 (by decide) hI) rfl rfl (by decide) (by decide) (Nat.le_of_ble_eq_true rfl) (Or.inl rfl) rfl rfl (by decide) (by decide) (fun y23 M24 e25 hI26 => ?_)
    refine V_ifeq (tgt := 186) dX11_readLines_174 (by decide) (fun h27 => ?_) (fun h27 => ?_)
    · refine V_iconst (v := 0) dX11_readLines_186 rfl ?_
      refine V_istore_n (lv' := [(2, .int 0), (0, .ref 130), (1, .int x1)]) dX11_readLines_187 rfl (by decide) rfl ?_
      refine V_goto (tgt := 2) dX11_readLines_188 (by decide) ?_
      refine V_sub [1, 2, 0] rfl ?_
      exact hk2 M24 x1 0 hI26
    · refine V_aload_n (k := 0) dX11_readLines_177 rfl rfl ?_
      refine V_iload_n (k := 1) dX11_readLines_178 rfl rfl ?_
      refine V_iconst (v := 0) dX11_readLines_179 rfl ?_
      refine V_callVv (q := (RX11, TX11, 61)) (cls := 11) (st0 := []) (kc' := 0) (ks' := 0) dX11_readLines_180 lk_X11_265 rfl (by decide) rfl rfl rfl (cX11_readRule_ok M24 x1 0 hI26) rfl rfl (by decide) (by decide) (Nat.le_of_ble_eq_true rfl) (Or.inl rfl) rfl rfl (by decide) (by decide) (fun  M28 e29 hI30 => ?_)
      refine V_goto (tgt := 2) dX11_readLines_183 (by decide) ?_
      refine V_sub [0, 1, 2] rfl ?_
      exact hk2 M28 x1 x2 hI30
def fX11_readLines_127 (k2 : vM → Int32 → Int32 → Option (vR × vM)) (M : vM) (x1 : Int32) (x2 : Int32) : Option (vR × vM) := if v_in x1 12 = true then if (M.1 132 (Int32.toNatClampNeg x1)) = 2 then bi (fX11_is M 10) fun y33 M34 => if y33 = 0 then fX11_readLines_157 (k2) M34 x1 x2 else bv (fX11_readItem M34 x1 6) fun M38 => k2 M38 x1 x2 else fX11_readLines_157 (k2) M x1 x2 else none
set_option maxRecDepth 20000 in
set_option maxHeartbeats 2000000 in
theorem vX11_readLines_127 {l : Launch} {D : va_G} {dA : Nat → ClassId} {k2 : vM → Int32 → Int32 → Option (vR × vM)} (hk2 : ∀ (M : vM) (x1 : Int32) (x2 : Int32), v_WT M.2.2 → V l D dA sX11_readLines false 175 9 0 0 2 [(0, .ref 130), (1, .int x1), (2, .int x2)] [] 175 M (k2 M x1 x2)) : ∀ (M : vM) (x1 : Int32) (x2 : Int32), v_WT M.2.2 → V l D dA sX11_readLines false 175 9 0 0 127 [(0, .ref 130), (1, .int x1), (2, .int x2)] [] 175 M (fX11_readLines_127 k2 M x1 x2) := by
  intro M x1 x2 hI
  refine V_aload_n (k := 0) dX11_readLines_127 rfl rfl ?_
  refine V_getr (k := 132) dX11_readLines_128 rfl (by decide) vf_X11_21 (by decide) (v_fin hI 119 rfl) ?_
  refine V_iload_n (k := 1) dX11_readLines_131 rfl rfl ?_
  refine V_iald dX11_readLines_132 rfl (by decide) (fun h31 => ?_)
  refine V_iconst (v := 2) dX11_readLines_133 rfl ?_
  refine V_icmpne (tgt := 157) dX11_readLines_134 (by decide) (fun h32 => ?_) (fun h32 => ?_)
  · refine V_sub [0, 1, 2] rfl ?_
    exact vX11_readLines_157 (hk2) M x1 x2 hI
  · refine V_aload_n (k := 0) dX11_readLines_137 rfl rfl ?_
    refine V_ldcwS (sid := 10) (tx := "act") dX11_readLines_138 (by decide +kernel) ?_
    refine V_callVi (q := (RX11, TX11, 61)) (cls := 11) (st0 := []) (kc' := 0) (ks' := 0) dX11_readLines_141 lk_X11_219 rfl (by decide) rfl rfl rfl (cX11_is_ok M 10 (by decide) hI) rfl rfl (by decide) (by decide) (Nat.le_of_ble_eq_true rfl) (Or.inl rfl) rfl rfl (by decide) (by decide) (fun y33 M34 e35 hI36 => ?_)
    refine V_ifeq (tgt := 157) dX11_readLines_144 (by decide) (fun h37 => ?_) (fun h37 => ?_)
    · refine V_sub [0, 1, 2] rfl ?_
      exact vX11_readLines_157 (hk2) M34 x1 x2 hI36
    · refine V_aload_n (k := 0) dX11_readLines_147 rfl rfl ?_
      refine V_iload_n (k := 1) dX11_readLines_148 rfl rfl ?_
      refine V_bipush (v := 6) dX11_readLines_149 rfl ?_
      refine V_callVv (q := (RX11, TX11, 61)) (cls := 11) (st0 := []) (kc' := 0) (ks' := 0) dX11_readLines_151 lk_X11_259 rfl (by decide) rfl rfl rfl (cX11_readItem_ok M34 x1 6 hI36) rfl rfl (by decide) (by decide) (Nat.le_of_ble_eq_true rfl) (Or.inl rfl) rfl rfl (by decide) (by decide) (fun  M38 e39 hI40 => ?_)
      refine V_goto (tgt := 2) dX11_readLines_154 (by decide) ?_
      refine V_sub [0, 1, 2] rfl ?_
      exact hk2 M38 x1 x2 hI40
def fX11_readLines_98 (k2 : vM → Int32 → Int32 → Option (vR × vM)) (M : vM) (x1 : Int32) (x2 : Int32) : Option (vR × vM) := if v_in x1 12 = true then if (M.1 132 (Int32.toNatClampNeg x1)) = 1 then bi (fX11_is M 9) fun y43 M44 => if y43 = 0 then fX11_readLines_127 (k2) M44 x1 x2 else bv (fX11_readRule M44 x1 1) fun M48 => k2 M48 x1 x2 else fX11_readLines_127 (k2) M x1 x2 else none
set_option maxRecDepth 20000 in
set_option maxHeartbeats 2000000 in
theorem vX11_readLines_98 {l : Launch} {D : va_G} {dA : Nat → ClassId} {k2 : vM → Int32 → Int32 → Option (vR × vM)} (hk2 : ∀ (M : vM) (x1 : Int32) (x2 : Int32), v_WT M.2.2 → V l D dA sX11_readLines false 175 9 0 0 2 [(0, .ref 130), (1, .int x1), (2, .int x2)] [] 175 M (k2 M x1 x2)) : ∀ (M : vM) (x1 : Int32) (x2 : Int32), v_WT M.2.2 → V l D dA sX11_readLines false 175 9 0 0 98 [(0, .ref 130), (1, .int x1), (2, .int x2)] [] 175 M (fX11_readLines_98 k2 M x1 x2) := by
  intro M x1 x2 hI
  refine V_aload_n (k := 0) dX11_readLines_98 rfl rfl ?_
  refine V_getr (k := 132) dX11_readLines_99 rfl (by decide) vf_X11_21 (by decide) (v_fin hI 119 rfl) ?_
  refine V_iload_n (k := 1) dX11_readLines_102 rfl rfl ?_
  refine V_iald dX11_readLines_103 rfl (by decide) (fun h41 => ?_)
  refine V_iconst (v := 1) dX11_readLines_104 rfl ?_
  refine V_icmpne (tgt := 127) dX11_readLines_105 (by decide) (fun h42 => ?_) (fun h42 => ?_)
  · refine V_sub [0, 1, 2] rfl ?_
    exact vX11_readLines_127 (hk2) M x1 x2 hI
  · refine V_aload_n (k := 0) dX11_readLines_108 rfl rfl ?_
    refine V_ldcwS (sid := 9) (tx := "needs") dX11_readLines_109 (by decide +kernel) ?_
    refine V_callVi (q := (RX11, TX11, 61)) (cls := 11) (st0 := []) (kc' := 0) (ks' := 0) dX11_readLines_112 lk_X11_219 rfl (by decide) rfl rfl rfl (cX11_is_ok M 9 (by decide) hI) rfl rfl (by decide) (by decide) (Nat.le_of_ble_eq_true rfl) (Or.inl rfl) rfl rfl (by decide) (by decide) (fun y43 M44 e45 hI46 => ?_)
    refine V_ifeq (tgt := 127) dX11_readLines_115 (by decide) (fun h47 => ?_) (fun h47 => ?_)
    · refine V_sub [0, 1, 2] rfl ?_
      exact vX11_readLines_127 (hk2) M44 x1 x2 hI46
    · refine V_aload_n (k := 0) dX11_readLines_118 rfl rfl ?_
      refine V_iload_n (k := 1) dX11_readLines_119 rfl rfl ?_
      refine V_iconst (v := 1) dX11_readLines_120 rfl ?_
      refine V_callVv (q := (RX11, TX11, 61)) (cls := 11) (st0 := []) (kc' := 0) (ks' := 0) dX11_readLines_121 lk_X11_265 rfl (by decide) rfl rfl rfl (cX11_readRule_ok M44 x1 1 hI46) rfl rfl (by decide) (by decide) (Nat.le_of_ble_eq_true rfl) (Or.inl rfl) rfl rfl (by decide) (by decide) (fun  M48 e49 hI50 => ?_)
      refine V_goto (tgt := 2) dX11_readLines_124 (by decide) ?_
      refine V_sub [0, 1, 2] rfl ?_
      exact hk2 M48 x1 x2 hI50
def fX11_readLines_69 (k2 : vM → Int32 → Int32 → Option (vR × vM)) (M : vM) (x1 : Int32) (x2 : Int32) : Option (vR × vM) := if v_in x1 12 = true then if (M.1 132 (Int32.toNatClampNeg x1)) = 1 then bi (fX11_is M 8) fun y53 M54 => if y53 = 0 then fX11_readLines_98 (k2) M54 x1 x2 else bv (fX11_readRule M54 x1 0) fun M58 => k2 M58 x1 x2 else fX11_readLines_98 (k2) M x1 x2 else none
set_option maxRecDepth 20000 in
set_option maxHeartbeats 2000000 in
theorem vX11_readLines_69 {l : Launch} {D : va_G} {dA : Nat → ClassId} {k2 : vM → Int32 → Int32 → Option (vR × vM)} (hk2 : ∀ (M : vM) (x1 : Int32) (x2 : Int32), v_WT M.2.2 → V l D dA sX11_readLines false 175 9 0 0 2 [(0, .ref 130), (1, .int x1), (2, .int x2)] [] 175 M (k2 M x1 x2)) : ∀ (M : vM) (x1 : Int32) (x2 : Int32), v_WT M.2.2 → V l D dA sX11_readLines false 175 9 0 0 69 [(0, .ref 130), (1, .int x1), (2, .int x2)] [] 175 M (fX11_readLines_69 k2 M x1 x2) := by
  intro M x1 x2 hI
  refine V_aload_n (k := 0) dX11_readLines_69 rfl rfl ?_
  refine V_getr (k := 132) dX11_readLines_70 rfl (by decide) vf_X11_21 (by decide) (v_fin hI 119 rfl) ?_
  refine V_iload_n (k := 1) dX11_readLines_73 rfl rfl ?_
  refine V_iald dX11_readLines_74 rfl (by decide) (fun h51 => ?_)
  refine V_iconst (v := 1) dX11_readLines_75 rfl ?_
  refine V_icmpne (tgt := 98) dX11_readLines_76 (by decide) (fun h52 => ?_) (fun h52 => ?_)
  · refine V_sub [0, 1, 2] rfl ?_
    exact vX11_readLines_98 (hk2) M x1 x2 hI
  · refine V_aload_n (k := 0) dX11_readLines_79 rfl rfl ?_
    refine V_ldcwS (sid := 8) (tx := "both") dX11_readLines_80 (by decide +kernel) ?_
    refine V_callVi (q := (RX11, TX11, 61)) (cls := 11) (st0 := []) (kc' := 0) (ks' := 0) dX11_readLines_83 lk_X11_219 rfl (by decide) rfl rfl rfl (cX11_is_ok M 8 (by decide) hI) rfl rfl (by decide) (by decide) (Nat.le_of_ble_eq_true rfl) (Or.inl rfl) rfl rfl (by decide) (by decide) (fun y53 M54 e55 hI56 => ?_)
    refine V_ifeq (tgt := 98) dX11_readLines_86 (by decide) (fun h57 => ?_) (fun h57 => ?_)
    · refine V_sub [0, 1, 2] rfl ?_
      exact vX11_readLines_98 (hk2) M54 x1 x2 hI56
    · refine V_aload_n (k := 0) dX11_readLines_89 rfl rfl ?_
      refine V_iload_n (k := 1) dX11_readLines_90 rfl rfl ?_
      refine V_iconst (v := 0) dX11_readLines_91 rfl ?_
      refine V_callVv (q := (RX11, TX11, 61)) (cls := 11) (st0 := []) (kc' := 0) (ks' := 0) dX11_readLines_92 lk_X11_265 rfl (by decide) rfl rfl rfl (cX11_readRule_ok M54 x1 0 hI56) rfl rfl (by decide) (by decide) (Nat.le_of_ble_eq_true rfl) (Or.inl rfl) rfl rfl (by decide) (by decide) (fun  M58 e59 hI60 => ?_)
      refine V_goto (tgt := 2) dX11_readLines_95 (by decide) ?_
      refine V_sub [0, 1, 2] rfl ?_
      exact hk2 M58 x1 x2 hI60
def fX11_readLines_39 (k2 : vM → Int32 → Int32 → Option (vR × vM)) (M : vM) (x1 : Int32) (x2 : Int32) : Option (vR × vM) := if v_in x1 12 = true then if (M.1 132 (Int32.toNatClampNeg x1)) = 1 then bi (fX11_is M 7) fun y63 M64 => if y63 = 0 then fX11_readLines_69 (k2) M64 x1 x2 else bv (fX11_readItem M64 x1 12) fun M68 => k2 M68 x1 x2 else fX11_readLines_69 (k2) M x1 x2 else none
set_option maxRecDepth 20000 in
set_option maxHeartbeats 2000000 in
theorem vX11_readLines_39 {l : Launch} {D : va_G} {dA : Nat → ClassId} {k2 : vM → Int32 → Int32 → Option (vR × vM)} (hk2 : ∀ (M : vM) (x1 : Int32) (x2 : Int32), v_WT M.2.2 → V l D dA sX11_readLines false 175 9 0 0 2 [(0, .ref 130), (1, .int x1), (2, .int x2)] [] 175 M (k2 M x1 x2)) : ∀ (M : vM) (x1 : Int32) (x2 : Int32), v_WT M.2.2 → V l D dA sX11_readLines false 175 9 0 0 39 [(0, .ref 130), (1, .int x1), (2, .int x2)] [] 175 M (fX11_readLines_39 k2 M x1 x2) := by
  intro M x1 x2 hI
  refine V_aload_n (k := 0) dX11_readLines_39 rfl rfl ?_
  refine V_getr (k := 132) dX11_readLines_40 rfl (by decide) vf_X11_21 (by decide) (v_fin hI 119 rfl) ?_
  refine V_iload_n (k := 1) dX11_readLines_43 rfl rfl ?_
  refine V_iald dX11_readLines_44 rfl (by decide) (fun h61 => ?_)
  refine V_iconst (v := 1) dX11_readLines_45 rfl ?_
  refine V_icmpne (tgt := 69) dX11_readLines_46 (by decide) (fun h62 => ?_) (fun h62 => ?_)
  · refine V_sub [0, 1, 2] rfl ?_
    exact vX11_readLines_69 (hk2) M x1 x2 hI
  · refine V_aload_n (k := 0) dX11_readLines_49 rfl rfl ?_
    refine V_ldcwS (sid := 7) (tx := "part") dX11_readLines_50 (by decide +kernel) ?_
    refine V_callVi (q := (RX11, TX11, 61)) (cls := 11) (st0 := []) (kc' := 0) (ks' := 0) dX11_readLines_53 lk_X11_219 rfl (by decide) rfl rfl rfl (cX11_is_ok M 7 (by decide) hI) rfl rfl (by decide) (by decide) (Nat.le_of_ble_eq_true rfl) (Or.inl rfl) rfl rfl (by decide) (by decide) (fun y63 M64 e65 hI66 => ?_)
    refine V_ifeq (tgt := 69) dX11_readLines_56 (by decide) (fun h67 => ?_) (fun h67 => ?_)
    · refine V_sub [0, 1, 2] rfl ?_
      exact vX11_readLines_69 (hk2) M64 x1 x2 hI66
    · refine V_aload_n (k := 0) dX11_readLines_59 rfl rfl ?_
      refine V_iload_n (k := 1) dX11_readLines_60 rfl rfl ?_
      refine V_bipush (v := 12) dX11_readLines_61 rfl ?_
      refine V_callVv (q := (RX11, TX11, 61)) (cls := 11) (st0 := []) (kc' := 0) (ks' := 0) dX11_readLines_63 lk_X11_259 rfl (by decide) rfl rfl rfl (cX11_readItem_ok M64 x1 12 hI66) rfl rfl (by decide) (by decide) (Nat.le_of_ble_eq_true rfl) (Or.inl rfl) rfl rfl (by decide) (by decide) (fun  M68 e69 hI70 => ?_)
      refine V_goto (tgt := 2) dX11_readLines_66 (by decide) ?_
      refine V_sub [0, 1, 2] rfl ?_
      exact hk2 M68 x1 x2 hI70
def fX11_readLines_2 : Nat → vM → Int32 → Int32 → Option (vR × vM)
  | 0, _, _, _ => none
  | n9 + 1, M, x1, x2 => if x2 = 0 then rV M else if (M.1 130 38) = 0 then if v_in x1 12 = true then if (M.1 132 (Int32.toNatClampNeg x1)) = 0 then bi (fX11_is M 6) fun y75 M76 => if y75 = 0 then fX11_readLines_39 (fX11_readLines_2 n9) M76 x1 x2 else bv (fX11_readStep M76 x1) fun M80 => fX11_readLines_2 n9 M80 x1 x2 else fX11_readLines_39 (fX11_readLines_2 n9) M x1 x2 else none else rV M
set_option maxRecDepth 20000 in
set_option maxHeartbeats 2000000 in
theorem vX11_readLines_2 {l : Launch} {D : va_G} {dA : Nat → ClassId} : ∀ (n9 : Nat) (M : vM) (x1 : Int32) (x2 : Int32), v_WT M.2.2 → V l D dA sX11_readLines false 175 9 0 0 2 [(0, .ref 130), (1, .int x1), (2, .int x2)] [] 175 M (fX11_readLines_2 n9 M x1 x2) := by
  intro n9
  induction n9 with
  | zero => intros; exact V_none
  | succ n9 ih =>
    intro M x1 x2 hI
    refine V_iload_n (k := 2) dX11_readLines_2 rfl rfl ?_
    refine V_ifeq (tgt := 191) dX11_readLines_3 (by decide) (fun h71 => ?_) (fun h71 => ?_)
    · exact V_ret (fun _ => hI) (Or.inl ⟨rfl, rfl⟩) dX11_readLines_191 (fun ty x h1 h2 => by cases h1) rfl
    · refine V_aload_n (k := 0) dX11_readLines_6 rfl rfl ?_
      refine V_geti dX11_readLines_7 rfl (by decide) vf_X11_206 (by decide) ?_
      refine V_ifne (tgt := 191) dX11_readLines_10 (by decide) (fun h72 => ?_) (fun h72 => ?_)
      · exact V_ret (fun _ => hI) (Or.inl ⟨rfl, rfl⟩) dX11_readLines_191 (fun ty x h1 h2 => by cases h1) rfl
      · refine V_aload_n (k := 0) dX11_readLines_13 rfl rfl ?_
        refine V_getr (k := 132) dX11_readLines_14 rfl (by decide) vf_X11_21 (by decide) (v_fin hI 119 rfl) ?_
        refine V_iload_n (k := 1) dX11_readLines_17 rfl rfl ?_
        refine V_iald dX11_readLines_18 rfl (by decide) (fun h73 => ?_)
        refine V_ifne (tgt := 39) dX11_readLines_19 (by decide) (fun h74 => ?_) (fun h74 => ?_)
        · refine V_sub [0, 1, 2] rfl ?_
          exact vX11_readLines_39 (ih) M x1 x2 hI
        · refine V_aload_n (k := 0) dX11_readLines_22 rfl rfl ?_
          refine V_ldcS (sid := 6) (tx := "step") dX11_readLines_23 (by decide +kernel) ?_
          refine V_callVi (q := (RX11, TX11, 61)) (cls := 11) (st0 := []) (kc' := 0) (ks' := 0) dX11_readLines_25 lk_X11_219 rfl (by decide) rfl rfl rfl (cX11_is_ok M 6 (by decide) hI) rfl rfl (by decide) (by decide) (Nat.le_of_ble_eq_true rfl) (Or.inl rfl) rfl rfl (by decide) (by decide) (fun y75 M76 e77 hI78 => ?_)
          refine V_ifeq (tgt := 39) dX11_readLines_28 (by decide) (fun h79 => ?_) (fun h79 => ?_)
          · refine V_sub [0, 1, 2] rfl ?_
            exact vX11_readLines_39 (ih) M76 x1 x2 hI78
          · refine V_aload_n (k := 0) dX11_readLines_31 rfl rfl ?_
            refine V_iload_n (k := 1) dX11_readLines_32 rfl rfl ?_
            refine V_callVv (q := (RX11, TX11, 61)) (cls := 11) (st0 := []) (kc' := 0) (ks' := 0) dX11_readLines_33 lk_X11_254 rfl (by decide) rfl rfl rfl (cX11_readStep_ok M76 x1 hI78) rfl rfl (by decide) (by decide) (Nat.le_of_ble_eq_true rfl) (Or.inl rfl) rfl rfl (by decide) (by decide) (fun  M80 e81 hI82 => ?_)
            refine V_goto (tgt := 2) dX11_readLines_36 (by decide) ?_
            refine V_sub [0, 1, 2] rfl ?_
            exact ih M80 x1 x2 hI82
def fX11_readLines (M : vM) (x1 : Int32) : Option (vR × vM) := fX11_readLines_2 FU M x1 1
set_option maxRecDepth 20000 in
set_option maxHeartbeats 2000000 in
theorem cX11_readLines_ok {l : Launch} {D : va_G} {dA : Nat → ClassId} (M : vM) (x1 : Int32) (hI : v_WT M.2.2) : Ct l D dA sX11_readLines false 175 9 0 0 175 [.ref 130, .int x1] M (fX11_readLines M x1) := by
  refine Ct_of (lv := [(0, .ref 130), (1, .int x1)]) (by decide +kernel) rfl (Nat.le_of_ble_eq_true rfl) rfl (fun h => by cases h) ?_
  refine V_iconst (v := 1) dX11_readLines_0 rfl ?_
  refine V_istore_n (lv' := [(2, .int 1), (0, .ref 130), (1, .int x1)]) dX11_readLines_1 rfl (by decide) rfl ?_
  refine V_sub [1, 2, 0] rfl ?_
  exact vX11_readLines_2 FU M x1 1 hI
def fX11_readSame_75 (M : vM) (x1 : Int32) : Option (vR × vM) := if v_in x1 12 = true then bi (fX11_readNumber (v_si M 134 (Int32.toNatClampNeg x1) 2) 1 9) fun y12 M13 => if v_in x1 12 = true then rV (v_si M13 135 (Int32.toNatClampNeg x1) y12) else none else none
set_option maxRecDepth 20000 in
set_option maxHeartbeats 2000000 in
theorem vX11_readSame_75 {l : Launch} {D : va_G} {dA : Nat → ClassId} : ∀ (M : vM) (x1 : Int32), v_WT M.2.2 → V l D dA sX11_readSame false 175 7 0 0 75 [(0, .ref 130), (1, .int x1)] [] 175 M (fX11_readSame_75 M x1) := by
  intro M x1 hI
  refine V_aload_n (k := 0) dX11_readSame_75 rfl rfl ?_
  refine V_getr (k := 134) dX11_readSame_76 rfl (by decide) vf_X11_28 (by decide) (v_fin hI 121 rfl) ?_
  refine V_iload_n (k := 1) dX11_readSame_79 rfl rfl ?_
  refine V_iconst (v := 2) dX11_readSame_80 rfl ?_
  refine V_iast dX11_readSame_81 rfl (by decide) (fun h11 => ?_)
  refine V_aload_n (k := 0) dX11_readSame_82 rfl rfl ?_
  refine V_getr (k := 135) dX11_readSame_83 rfl (by decide) vf_X11_31 (by decide) (v_fin hI 122 rfl) ?_
  refine V_iload_n (k := 1) dX11_readSame_86 rfl rfl ?_
  refine V_aload_n (k := 0) dX11_readSame_87 rfl rfl ?_
  refine V_iconst (v := 1) dX11_readSame_88 rfl ?_
  refine V_bipush (v := 9) dX11_readSame_89 rfl ?_
  refine V_callVi (q := (RX11, TX11, 61)) (cls := 11) (st0 := [.int x1, .ref 135]) (kc' := 0) (ks' := 0) dX11_readSame_91 lk_X11_238 rfl (by decide) rfl rfl rfl (cX11_readNumber_ok (v_si M 134 (Int32.toNatClampNeg x1) 2) 1 9 hI) rfl rfl (by decide) (by decide) (Nat.le_of_ble_eq_true rfl) (Or.inl rfl) rfl rfl (by decide) (by decide) (fun y12 M13 e14 hI15 => ?_)
  refine V_iast dX11_readSame_94 rfl (by decide) (fun h16 => ?_)
  exact V_ret (fun _ => hI15) (Or.inl ⟨rfl, rfl⟩) dX11_readSame_95 (fun ty x h1 h2 => by cases h1) rfl
def fX11_readSame_64 (M : vM) (x1 : Int32) : Option (vR × vM) := if (M.1 130 38) = 0 then bv (fX11_stepOn M ) fun M18 => fX11_readSame_75 M18 x1 else fX11_readSame_75 M x1
set_option maxRecDepth 20000 in
set_option maxHeartbeats 2000000 in
theorem vX11_readSame_64 {l : Launch} {D : va_G} {dA : Nat → ClassId} : ∀ (M : vM) (x1 : Int32), v_WT M.2.2 → V l D dA sX11_readSame false 175 7 0 0 64 [(0, .ref 130), (1, .int x1)] [] 175 M (fX11_readSame_64 M x1) := by
  intro M x1 hI
  refine V_aload_n (k := 0) dX11_readSame_64 rfl rfl ?_
  refine V_geti dX11_readSame_65 rfl (by decide) vf_X11_206 (by decide) ?_
  refine V_ifne (tgt := 75) dX11_readSame_68 (by decide) (fun h17 => ?_) (fun h17 => ?_)
  · refine V_sub [0, 1] rfl ?_
    exact vX11_readSame_75 M x1 hI
  · refine V_aload_n (k := 0) dX11_readSame_71 rfl rfl ?_
    refine V_callVv (q := (RX11, TX11, 61)) (cls := 11) (st0 := []) (kc' := 0) (ks' := 0) dX11_readSame_72 lk_X11_223 rfl (by decide) rfl rfl rfl (cX11_stepOn_ok M  hI) rfl rfl (by decide) (by decide) (Nat.le_of_ble_eq_true rfl) (Or.inl rfl) rfl rfl (by decide) (by decide) (fun  M18 e19 hI20 => ?_)
    refine V_sub [0, 1] rfl ?_
    exact vX11_readSame_75 M18 x1 hI20
def fX11_readSame (M : vM) (x1 : Int32) : Option (vR × vM) := if v_in x1 12 = true then if v_in x1 12 = true then bi (fX11_passes (v_si (v_si M 134 (Int32.toNatClampNeg x1) 0) 135 (Int32.toNatClampNeg x1) 0) 3) fun y23 M24 => if y23 = 0 then rV M24 else bi (fX11_passes M24 4) fun y28 M29 => if y28 = 0 then if (M29.1 130 38) = 0 then bi (fX11_is M29 5) fun y34 M35 => if y34 = 0 then bv (fX11_wrong M35 1) fun M39 => fX11_readSame_64 M39 x1 else fX11_readSame_64 M35 x1 else fX11_readSame_64 M29 x1 else if v_in x1 12 = true then rV (v_si M29 134 (Int32.toNatClampNeg x1) 1) else none else none else none
set_option maxRecDepth 20000 in
set_option maxHeartbeats 2000000 in
theorem cX11_readSame_ok {l : Launch} {D : va_G} {dA : Nat → ClassId} (M : vM) (x1 : Int32) (hI : v_WT M.2.2) : Ct l D dA sX11_readSame false 175 7 0 0 175 [.ref 130, .int x1] M (fX11_readSame M x1) := by
  refine Ct_of (lv := [(0, .ref 130), (1, .int x1)]) (by decide +kernel) rfl (Nat.le_of_ble_eq_true rfl) rfl (fun h => by cases h) ?_
  refine V_aload_n (k := 0) dX11_readSame_0 rfl rfl ?_
  refine V_getr (k := 134) dX11_readSame_1 rfl (by decide) vf_X11_28 (by decide) (v_fin hI 121 rfl) ?_
  refine V_iload_n (k := 1) dX11_readSame_4 rfl rfl ?_
  refine V_iconst (v := 0) dX11_readSame_5 rfl ?_
  refine V_iast dX11_readSame_6 rfl (by decide) (fun h21 => ?_)
  refine V_aload_n (k := 0) dX11_readSame_7 rfl rfl ?_
  refine V_getr (k := 135) dX11_readSame_8 rfl (by decide) vf_X11_31 (by decide) (v_fin hI 122 rfl) ?_
  refine V_iload_n (k := 1) dX11_readSame_11 rfl rfl ?_
  refine V_iconst (v := 0) dX11_readSame_12 rfl ?_
  refine V_iast dX11_readSame_13 rfl (by decide) (fun h22 => ?_)
  refine V_aload_n (k := 0) dX11_readSame_14 rfl rfl ?_
  refine V_ldcS (sid := 3) (tx := "same") dX11_readSame_15 (by decide +kernel) ?_
  refine V_callVi (q := (RX11, TX11, 61)) (cls := 11) (st0 := []) (kc' := 0) (ks' := 0) dX11_readSame_17 lk_X11_232 rfl (by decide) rfl rfl rfl (cX11_passes_ok (v_si (v_si M 134 (Int32.toNatClampNeg x1) 0) 135 (Int32.toNatClampNeg x1) 0) 3 (by decide) hI) rfl rfl (by decide) (by decide) (Nat.le_of_ble_eq_true rfl) (Or.inl rfl) rfl rfl (by decide) (by decide) (fun y23 M24 e25 hI26 => ?_)
  refine V_ifne (tgt := 24) dX11_readSame_20 (by decide) (fun h27 => ?_) (fun h27 => ?_)
  · refine V_aload_n (k := 0) dX11_readSame_24 rfl rfl ?_
    refine V_ldcS (sid := 4) (tx := "steps") dX11_readSame_25 (by decide +kernel) ?_
    refine V_callVi (q := (RX11, TX11, 61)) (cls := 11) (st0 := []) (kc' := 0) (ks' := 0) dX11_readSame_27 lk_X11_232 rfl (by decide) rfl rfl rfl (cX11_passes_ok M24 4 (by decide) hI26) rfl rfl (by decide) (by decide) (Nat.le_of_ble_eq_true rfl) (Or.inl rfl) rfl rfl (by decide) (by decide) (fun y28 M29 e30 hI31 => ?_)
    refine V_ifeq (tgt := 43) dX11_readSame_30 (by decide) (fun h32 => ?_) (fun h32 => ?_)
    · refine V_aload_n (k := 0) dX11_readSame_43 rfl rfl ?_
      refine V_geti dX11_readSame_44 rfl (by decide) vf_X11_206 (by decide) ?_
      refine V_ifne (tgt := 64) dX11_readSame_47 (by decide) (fun h33 => ?_) (fun h33 => ?_)
      · refine V_sub [0, 1] rfl ?_
        exact vX11_readSame_64 M29 x1 hI31
      · refine V_aload_n (k := 0) dX11_readSame_50 rfl rfl ?_
        refine V_ldcS (sid := 5) (tx := "other") dX11_readSame_51 (by decide +kernel) ?_
        refine V_callVi (q := (RX11, TX11, 61)) (cls := 11) (st0 := []) (kc' := 0) (ks' := 0) dX11_readSame_53 lk_X11_219 rfl (by decide) rfl rfl rfl (cX11_is_ok M29 5 (by decide) hI31) rfl rfl (by decide) (by decide) (Nat.le_of_ble_eq_true rfl) (Or.inl rfl) rfl rfl (by decide) (by decide) (fun y34 M35 e36 hI37 => ?_)
        refine V_ifne (tgt := 64) dX11_readSame_56 (by decide) (fun h38 => ?_) (fun h38 => ?_)
        · refine V_sub [0, 1] rfl ?_
          exact vX11_readSame_64 M35 x1 hI37
        · refine V_aload_n (k := 0) dX11_readSame_59 rfl rfl ?_
          refine V_iconst (v := 1) dX11_readSame_60 rfl ?_
          refine V_callVv (q := (RX11, TX11, 61)) (cls := 11) (st0 := []) (kc' := 0) (ks' := 0) dX11_readSame_61 lk_X11_226 rfl (by decide) rfl rfl rfl (cX11_wrong_ok M35 1 hI37) rfl rfl (by decide) (by decide) (Nat.le_of_ble_eq_true rfl) (Or.inl rfl) rfl rfl (by decide) (by decide) (fun  M39 e40 hI41 => ?_)
          refine V_sub [0, 1] rfl ?_
          exact vX11_readSame_64 M39 x1 hI41
    · refine V_aload_n (k := 0) dX11_readSame_33 rfl rfl ?_
      refine V_getr (k := 134) dX11_readSame_34 rfl (by decide) vf_X11_28 (by decide) (v_fin hI31 121 rfl) ?_
      refine V_iload_n (k := 1) dX11_readSame_37 rfl rfl ?_
      refine V_iconst (v := 1) dX11_readSame_38 rfl ?_
      refine V_iast dX11_readSame_39 rfl (by decide) (fun h42 => ?_)
      refine V_goto (tgt := 95) dX11_readSame_40 (by decide) ?_
      exact V_ret (fun _ => hI31) (Or.inl ⟨rfl, rfl⟩) dX11_readSame_95 (fun ty x h1 h2 => by cases h1) rfl
  · exact V_ret (fun _ => hI26) (Or.inl ⟨rfl, rfl⟩) dX11_readSame_23 (fun ty x h1 h2 => by cases h1) rfl
def fX11_which_2 : Nat → vM → Int32 → Option (vR × vM)
  | 0, _, _ => none
  | n9 + 1, M, x2 => if (nI 3) ≤ x2 then rI ((-1)) M else if v_in x2 3 = true then bi (fX11_is M ((Int32.toNatClampNeg x2))) fun y6 M7 => if y6 = 0 then fX11_which_2 n9 M7 (x2 + 1) else rI x2 M7 else none
set_option maxRecDepth 20000 in
set_option maxHeartbeats 2000000 in
theorem vX11_which_2 {l : Launch} {D : va_G} {dA : Nat → ClassId} : ∀ (n9 : Nat) (M : vM) (x2 : Int32), v_WT M.2.2 → V l D dA sX11_which false 175 6 0 0 2 [(0, .ref 130), (1, .ref 131), (2, .int x2)] [] 175 M (fX11_which_2 n9 M x2) := by
  intro n9
  induction n9 with
  | zero => intros; exact V_none
  | succ n9 ih =>
    intro M x2 hI
    refine V_iload_n (k := 2) dX11_which_2 rfl rfl ?_
    refine V_aload_n (k := 1) dX11_which_3 rfl rfl ?_
    refine V_alen dX11_which_4 rfl (by decide) (by decide) ?_
    refine V_icmpge (tgt := 26) dX11_which_5 (by decide) (fun h4 => ?_) (fun h4 => ?_)
    · refine V_iconst (v := (-1)) dX11_which_26 rfl ?_
      exact V_ret (fun _ => hI) (Or.inr (Or.inl ⟨rfl, _, rfl⟩)) dX11_which_27 (fun ty x h1 h2 => by cases h1; rfl) rfl
    · refine V_aload_n (k := 0) dX11_which_8 rfl rfl ?_
      refine V_aload_n (k := 1) dX11_which_9 rfl rfl ?_
      refine V_iload_n (k := 2) dX11_which_10 rfl rfl ?_
      refine V_aald (k := (1000 + ((Int32.toNatClampNeg x2)))) dX11_which_11 rfl (by decide) (by decide) rfl (fun h5 => v_knd hI h5) (fun h5 => ?_)
      refine V_callVi (q := (RX11, TX11, 61)) (cls := 11) (st0 := []) (kc' := 0) (ks' := 0) dX11_which_12 lk_X11_219 rfl (by decide) rfl rfl rfl (cX11_is_ok M ((Int32.toNatClampNeg x2)) (Nat.lt_of_lt_of_le (v_in_lt h5) (by decide)) hI) rfl rfl (by decide) (by decide) (Nat.le_of_ble_eq_true rfl) (Or.inl rfl) rfl rfl (by decide) (by decide) (fun y6 M7 e8 hI9 => ?_)
      refine V_ifeq (tgt := 20) dX11_which_15 (by decide) (fun h10 => ?_) (fun h10 => ?_)
      · refine V_iinc (k := 2) (v := x2 + 1) (lv' := [(2, .int (x2 + 1)), (0, .ref 130), (1, .ref 131)]) dX11_which_20 rfl rfl (by decide) rfl ?_
        refine V_goto (tgt := 2) dX11_which_23 (by decide) ?_
        refine V_sub [1, 2, 0] rfl ?_
        exact ih M7 (x2 + 1) hI9
      · refine V_iload_n (k := 2) dX11_which_18 rfl rfl ?_
        exact V_ret (fun _ => hI9) (Or.inr (Or.inl ⟨rfl, _, rfl⟩)) dX11_which_19 (fun ty x h1 h2 => by cases h1; rfl) rfl
def fX11_which (M : vM) : Option (vR × vM) := fX11_which_2 FU M 0
set_option maxRecDepth 20000 in
set_option maxHeartbeats 2000000 in
theorem cX11_which_ok {l : Launch} {D : va_G} {dA : Nat → ClassId} (M : vM) (hI : v_WT M.2.2) : Ct l D dA sX11_which false 175 6 0 0 175 [.ref 130, .ref 131] M (fX11_which M) := by
  refine Ct_of (lv := [(0, .ref 130), (1, .ref 131)]) (by decide +kernel) rfl (Nat.le_of_ble_eq_true rfl) rfl (fun h => by cases h) ?_
  refine V_iconst (v := 0) dX11_which_0 rfl ?_
  refine V_istore_n (lv' := [(2, .int 0), (0, .ref 130), (1, .ref 131)]) dX11_which_1 rfl (by decide) rfl ?_
  refine V_sub [1, 2, 0] rfl ?_
  exact vX11_which_2 FU M 0 hI
def fX11_readWork_108 (k113 : vM → Int32 → Int32 → Int32 → Option (vR × vM)) (M : vM) (x2 : Int32) (s1 : Int32) (s3 : Int32) : Option (vR × vM) := bi (fX11_readNumber M s3 12) fun y11 M12 => k113 M12 x2 s1 y11
set_option maxRecDepth 20000 in
set_option maxHeartbeats 2000000 in
theorem vX11_readWork_108 {l : Launch} {D : va_G} {dA : Nat → ClassId} {k113 : vM → Int32 → Int32 → Int32 → Option (vR × vM)} (hk113 : ∀ (M : vM) (x2 : Int32) (s1 : Int32) (s2 : Int32), v_WT M.2.2 → V l D dA sX11_readWork false 175 10 0 0 113 [(0, .ref 130), (2, .int x2)] [.int s2, .int s1, .ref 133] 175 M (k113 M x2 s1 s2)) : ∀ (M : vM) (x2 : Int32) (s1 : Int32) (s3 : Int32), v_WT M.2.2 → V l D dA sX11_readWork false 175 10 0 0 108 [(0, .ref 130), (2, .int x2)] [.int s3, .ref 130, .int s1, .ref 133] 175 M (fX11_readWork_108 k113 M x2 s1 s3) := by
  intro M x2 s1 s3 hI
  refine V_bipush (v := 12) dX11_readWork_108 rfl ?_
  refine V_callVi (q := (RX11, TX11, 61)) (cls := 11) (st0 := [.int s1, .ref 133]) (kc' := 0) (ks' := 0) dX11_readWork_110 lk_X11_238 rfl (by decide) rfl rfl rfl (cX11_readNumber_ok M s3 12 hI) rfl rfl (by decide) (by decide) (Nat.le_of_ble_eq_true rfl) (Or.inl rfl) rfl rfl (by decide) (by decide) (fun y11 M12 e13 hI14 => ?_)
  refine V_sub [0, 1] rfl ?_
  exact hk113 M12 x2 s1 y11 hI14
def fX11_readWork_113 (M : vM) (x2 : Int32) (s1 : Int32) (s2 : Int32) : Option (vR × vM) := if v_in s1 12 = true then bv (fX11_readSame (v_si M 133 (Int32.toNatClampNeg s1) s2) x2) fun M16 => bv (fX11_semi M16 ) fun M19 => bv (fX11_readLines M19 x2) fun M22 => rV (v_si M22 130 3 ((M22.1 130 3) + 1)) else none
set_option maxRecDepth 20000 in
set_option maxHeartbeats 2000000 in
theorem vX11_readWork_113 {l : Launch} {D : va_G} {dA : Nat → ClassId} : ∀ (M : vM) (x2 : Int32) (s1 : Int32) (s2 : Int32), v_WT M.2.2 → V l D dA sX11_readWork false 175 10 0 0 113 [(0, .ref 130), (2, .int x2)] [.int s2, .int s1, .ref 133] 175 M (fX11_readWork_113 M x2 s1 s2) := by
  intro M x2 s1 s2 hI
  refine V_iast dX11_readWork_113 rfl (by decide) (fun h15 => ?_)
  refine V_aload_n (k := 0) dX11_readWork_114 rfl rfl ?_
  refine V_iload_n (k := 1) dX11_readWork_115 rfl rfl ?_
  refine V_callVv (q := (RX11, TX11, 61)) (cls := 11) (st0 := []) (kc' := 0) (ks' := 0) dX11_readWork_116 lk_X11_281 rfl (by decide) rfl rfl rfl (cX11_readSame_ok (v_si M 133 (Int32.toNatClampNeg s1) s2) x2 hI) rfl rfl (by decide) (by decide) (Nat.le_of_ble_eq_true rfl) (Or.inl rfl) rfl rfl (by decide) (by decide) (fun  M16 e17 hI18 => ?_)
  refine V_aload_n (k := 0) dX11_readWork_119 rfl rfl ?_
  refine V_callVv (q := (RX11, TX11, 61)) (cls := 11) (st0 := []) (kc' := 0) (ks' := 0) dX11_readWork_120 lk_X11_242 rfl (by decide) rfl rfl rfl (cX11_semi_ok M16  hI18) rfl rfl (by decide) (by decide) (Nat.le_of_ble_eq_true rfl) (Or.inl rfl) rfl rfl (by decide) (by decide) (fun  M19 e20 hI21 => ?_)
  refine V_aload_n (k := 0) dX11_readWork_123 rfl rfl ?_
  refine V_iload_n (k := 1) dX11_readWork_124 rfl rfl ?_
  refine V_callVv (q := (RX11, TX11, 61)) (cls := 11) (st0 := []) (kc' := 0) (ks' := 0) dX11_readWork_125 lk_X11_284 rfl (by decide) rfl rfl rfl (cX11_readLines_ok M19 x2 hI21) rfl rfl (by decide) (by decide) (Nat.le_of_ble_eq_true rfl) (Or.inl rfl) rfl rfl (by decide) (by decide) (fun  M22 e23 hI24 => ?_)
  refine V_aload_n (k := 0) dX11_readWork_128 rfl rfl ?_
  refine V_dup dX11_readWork_129 rfl ?_
  refine V_geti dX11_readWork_130 rfl (by decide) vf_X11_278 (by decide) ?_
  refine V_iconst (v := 1) dX11_readWork_133 rfl ?_
  refine V_iadd dX11_readWork_134 ?_
  refine V_puti dX11_readWork_135 rfl (by decide) vf_X11_278 (by decide) rfl rfl ?_
  exact V_ret (fun _ => hI24) (Or.inl ⟨rfl, rfl⟩) dX11_readWork_138 (fun ty x h1 h2 => by cases h1) rfl
def fX11_readWork_36 (M : vM) (x1 : Int32) : Option (vR × vM) := if (M.1 130 38) = 0 then bv (fX11_stepOn M ) fun M26 => if v_in (6 + (M26.1 130 3)) 12 = true then if v_in (6 + (M26.1 130 3)) 12 = true then if v_in (6 + (M26.1 130 3)) 12 = true then if v_in (6 + (M26.1 130 3)) 12 = true then if x1 = 2 then fX11_readWork_113 (v_si (v_si (v_si (v_si M26 132 (Int32.toNatClampNeg (6 + (M26.1 130 3))) x1) 136 (Int32.toNatClampNeg (6 + (M26.1 130 3))) 0) 137 (Int32.toNatClampNeg (6 + (M26.1 130 3))) 0) 138 (Int32.toNatClampNeg (6 + (M26.1 130 3))) 0) (6 + (M26.1 130 3)) (6 + (M26.1 130 3)) 0 else if x1 = 0 then fX11_readWork_108 (fX11_readWork_113) (v_si (v_si (v_si (v_si M26 132 (Int32.toNatClampNeg (6 + (M26.1 130 3))) x1) 136 (Int32.toNatClampNeg (6 + (M26.1 130 3))) 0) 137 (Int32.toNatClampNeg (6 + (M26.1 130 3))) 0) 138 (Int32.toNatClampNeg (6 + (M26.1 130 3))) 0) (6 + (M26.1 130 3)) (6 + (M26.1 130 3)) 2 else fX11_readWork_108 (fX11_readWork_113) (v_si (v_si (v_si (v_si M26 132 (Int32.toNatClampNeg (6 + (M26.1 130 3))) x1) 136 (Int32.toNatClampNeg (6 + (M26.1 130 3))) 0) 137 (Int32.toNatClampNeg (6 + (M26.1 130 3))) 0) 138 (Int32.toNatClampNeg (6 + (M26.1 130 3))) 0) (6 + (M26.1 130 3)) (6 + (M26.1 130 3)) 0 else none else none else none else none else rV M
set_option maxRecDepth 20000 in
set_option maxHeartbeats 2000000 in
theorem vX11_readWork_36 {l : Launch} {D : va_G} {dA : Nat → ClassId} : ∀ (M : vM) (x1 : Int32), v_WT M.2.2 → V l D dA sX11_readWork false 175 10 0 0 36 [(0, .ref 130), (1, .int x1)] [] 175 M (fX11_readWork_36 M x1) := by
  intro M x1 hI
  refine V_aload_n (k := 0) dX11_readWork_36 rfl rfl ?_
  refine V_geti dX11_readWork_37 rfl (by decide) vf_X11_206 (by decide) ?_
  refine V_ifeq (tgt := 44) dX11_readWork_40 (by decide) (fun h25 => ?_) (fun h25 => ?_)
  · refine V_aload_n (k := 0) dX11_readWork_44 rfl rfl ?_
    refine V_callVv (q := (RX11, TX11, 61)) (cls := 11) (st0 := []) (kc' := 0) (ks' := 0) dX11_readWork_45 lk_X11_223 rfl (by decide) rfl rfl rfl (cX11_stepOn_ok M  hI) rfl rfl (by decide) (by decide) (Nat.le_of_ble_eq_true rfl) (Or.inl rfl) rfl rfl (by decide) (by decide) (fun  M26 e27 hI28 => ?_)
    refine V_bipush (v := 6) dX11_readWork_48 rfl ?_
    refine V_aload_n (k := 0) dX11_readWork_50 rfl rfl ?_
    refine V_geti dX11_readWork_51 rfl (by decide) vf_X11_278 (by decide) ?_
    refine V_iadd dX11_readWork_54 ?_
    refine V_istore_n (lv' := [(2, .int (6 + (M26.1 130 3))), (0, .ref 130), (1, .int x1)]) dX11_readWork_55 rfl (by decide) rfl ?_
    refine V_aload_n (k := 1) dX11_readWork_56 rfl rfl ?_
    refine V_getr (k := 132) dX11_readWork_57 rfl (by decide) vf_X11_21 (by decide) (v_fin hI28 119 rfl) ?_
    refine V_iload_n (k := 0) dX11_readWork_60 rfl rfl ?_
    refine V_iload_n (k := 2) dX11_readWork_61 rfl rfl ?_
    refine V_iast dX11_readWork_62 rfl (by decide) (fun h29 => ?_)
    refine V_aload_n (k := 1) dX11_readWork_63 rfl rfl ?_
    refine V_getr (k := 136) dX11_readWork_64 rfl (by decide) vf_X11_34 (by decide) (v_fin hI28 123 rfl) ?_
    refine V_iload_n (k := 0) dX11_readWork_67 rfl rfl ?_
    refine V_iconst (v := 0) dX11_readWork_68 rfl ?_
    refine V_iast dX11_readWork_69 rfl (by decide) (fun h30 => ?_)
    refine V_aload_n (k := 1) dX11_readWork_70 rfl rfl ?_
    refine V_getr (k := 137) dX11_readWork_71 rfl (by decide) vf_X11_37 (by decide) (v_fin hI28 124 rfl) ?_
    refine V_iload_n (k := 0) dX11_readWork_74 rfl rfl ?_
    refine V_iconst (v := 0) dX11_readWork_75 rfl ?_
    refine V_iast dX11_readWork_76 rfl (by decide) (fun h31 => ?_)
    refine V_aload_n (k := 1) dX11_readWork_77 rfl rfl ?_
    refine V_getr (k := 138) dX11_readWork_78 rfl (by decide) vf_X11_40 (by decide) (v_fin hI28 125 rfl) ?_
    refine V_iload_n (k := 0) dX11_readWork_81 rfl rfl ?_
    refine V_iconst (v := 0) dX11_readWork_82 rfl ?_
    refine V_iast dX11_readWork_83 rfl (by decide) (fun h32 => ?_)
    refine V_aload_n (k := 1) dX11_readWork_84 rfl rfl ?_
    refine V_getr (k := 133) dX11_readWork_85 rfl (by decide) vf_X11_25 (by decide) (v_fin hI28 120 rfl) ?_
    refine V_iload_n (k := 0) dX11_readWork_88 rfl rfl ?_
    refine V_iload_n (k := 2) dX11_readWork_89 rfl rfl ?_
    refine V_iconst (v := 2) dX11_readWork_90 rfl ?_
    refine V_icmpne (tgt := 98) dX11_readWork_91 (by decide) (fun h33 => ?_) (fun h33 => ?_)
    · refine V_aload_n (k := 1) dX11_readWork_98 rfl rfl ?_
      refine V_iload_n (k := 2) dX11_readWork_99 rfl rfl ?_
      refine V_ifne (tgt := 107) dX11_readWork_100 (by decide) (fun h34 => ?_) (fun h34 => ?_)
      · refine V_iconst (v := 0) dX11_readWork_107 rfl ?_
        refine V_sub [1, 0] rfl ?_
        exact vX11_readWork_108 (vX11_readWork_113) (v_si (v_si (v_si (v_si M26 132 (Int32.toNatClampNeg (6 + (M26.1 130 3))) x1) 136 (Int32.toNatClampNeg (6 + (M26.1 130 3))) 0) 137 (Int32.toNatClampNeg (6 + (M26.1 130 3))) 0) 138 (Int32.toNatClampNeg (6 + (M26.1 130 3))) 0) (6 + (M26.1 130 3)) (6 + (M26.1 130 3)) 0 hI28
      · refine V_iconst (v := 2) dX11_readWork_103 rfl ?_
        refine V_goto (tgt := 108) dX11_readWork_104 (by decide) ?_
        refine V_sub [1, 0] rfl ?_
        exact vX11_readWork_108 (vX11_readWork_113) (v_si (v_si (v_si (v_si M26 132 (Int32.toNatClampNeg (6 + (M26.1 130 3))) x1) 136 (Int32.toNatClampNeg (6 + (M26.1 130 3))) 0) 137 (Int32.toNatClampNeg (6 + (M26.1 130 3))) 0) 138 (Int32.toNatClampNeg (6 + (M26.1 130 3))) 0) (6 + (M26.1 130 3)) (6 + (M26.1 130 3)) 2 hI28
    · refine V_iconst (v := 0) dX11_readWork_94 rfl ?_
      refine V_goto (tgt := 113) dX11_readWork_95 (by decide) ?_
      refine V_sub [1, 0] rfl ?_
      exact vX11_readWork_113 (v_si (v_si (v_si (v_si M26 132 (Int32.toNatClampNeg (6 + (M26.1 130 3))) x1) 136 (Int32.toNatClampNeg (6 + (M26.1 130 3))) 0) 137 (Int32.toNatClampNeg (6 + (M26.1 130 3))) 0) 138 (Int32.toNatClampNeg (6 + (M26.1 130 3))) 0) (6 + (M26.1 130 3)) (6 + (M26.1 130 3)) 0 hI28
  · exact V_ret (fun _ => hI) (Or.inl ⟨rfl, rfl⟩) dX11_readWork_43 (fun ty x h1 h2 => by cases h1) rfl
def fX11_readWork (M : vM) : Option (vR × vM) := bi (fX11_which M ) fun y35 M36 => if y35 = ((-1)) then bv (fX11_wrong M36 1) fun M44 => fX11_readWork_36 M44 y35 else if (M36.1 130 3) = 6 then bv (fX11_wrong M36 2) fun M41 => fX11_readWork_36 M41 y35 else fX11_readWork_36 M36 y35
set_option maxRecDepth 20000 in
set_option maxHeartbeats 2000000 in
theorem cX11_readWork_ok {l : Launch} {D : va_G} {dA : Nat → ClassId} (M : vM) (hI : v_WT M.2.2) : Ct l D dA sX11_readWork false 175 10 0 0 175 [.ref 130] M (fX11_readWork M) := by
  refine Ct_of (lv := [(0, .ref 130)]) (by decide +kernel) rfl (Nat.le_of_ble_eq_true rfl) rfl (fun h => by cases h) ?_
  refine V_aload_n (k := 0) dX11_readWork_0 rfl rfl ?_
  refine V_aload_n (k := 0) dX11_readWork_1 rfl rfl ?_
  refine V_getr (k := 131) dX11_readWork_2 rfl (by decide) vf_X11_15 (by decide) (v_fin hI 118 rfl) ?_
  refine V_callVi (q := (RX11, TX11, 61)) (cls := 11) (st0 := []) (kc' := 0) (ks' := 0) dX11_readWork_5 lk_X11_274 rfl (by decide) rfl rfl rfl (cX11_which_ok M  hI) rfl rfl (by decide) (by decide) (Nat.le_of_ble_eq_true rfl) (Or.inl rfl) rfl rfl (by decide) (by decide) (fun y35 M36 e37 hI38 => ?_)
  refine V_istore_n (lv' := [(1, .int y35), (0, .ref 130)]) dX11_readWork_8 rfl (by decide) rfl ?_
  refine V_iload_n (k := 0) dX11_readWork_9 rfl rfl ?_
  refine V_iconst (v := (-1)) dX11_readWork_10 rfl ?_
  refine V_icmpne (tgt := 22) dX11_readWork_11 (by decide) (fun h39 => ?_) (fun h39 => ?_)
  · refine V_aload_n (k := 1) dX11_readWork_22 rfl rfl ?_
    refine V_geti dX11_readWork_23 rfl (by decide) vf_X11_278 (by decide) ?_
    refine V_bipush (v := 6) dX11_readWork_26 rfl ?_
    refine V_icmpne (tgt := 36) dX11_readWork_28 (by decide) (fun h40 => ?_) (fun h40 => ?_)
    · refine V_sub [1, 0] rfl ?_
      exact vX11_readWork_36 M36 y35 hI38
    · refine V_aload_n (k := 1) dX11_readWork_31 rfl rfl ?_
      refine V_iconst (v := 2) dX11_readWork_32 rfl ?_
      refine V_callVv (q := (RX11, TX11, 61)) (cls := 11) (st0 := []) (kc' := 0) (ks' := 0) dX11_readWork_33 lk_X11_226 rfl (by decide) rfl rfl rfl (cX11_wrong_ok M36 2 hI38) rfl rfl (by decide) (by decide) (Nat.le_of_ble_eq_true rfl) (Or.inl rfl) rfl rfl (by decide) (by decide) (fun  M41 e42 hI43 => ?_)
      refine V_sub [1, 0] rfl ?_
      exact vX11_readWork_36 M41 y35 hI43
  · refine V_aload_n (k := 1) dX11_readWork_14 rfl rfl ?_
    refine V_iconst (v := 1) dX11_readWork_15 rfl ?_
    refine V_callVv (q := (RX11, TX11, 61)) (cls := 11) (st0 := []) (kc' := 0) (ks' := 0) dX11_readWork_16 lk_X11_226 rfl (by decide) rfl rfl rfl (cX11_wrong_ok M36 1 hI38) rfl rfl (by decide) (by decide) (Nat.le_of_ble_eq_true rfl) (Or.inl rfl) rfl rfl (by decide) (by decide) (fun  M44 e45 hI46 => ?_)
    refine V_goto (tgt := 36) dX11_readWork_19 (by decide) ?_
    refine V_sub [1, 0] rfl ?_
    exact vX11_readWork_36 M44 y35 hI46
def fX11_tellSpent_33 : Nat → vM → Int32 → Int32 → Option (vR × vM)
  | 0, _, _, _ => none
  | n9 + 1, M, x1, x2 => if (M.1 130 21) ≤ x2 then rV M else if v_in x2 400 = true then if (M.1 149 (Int32.toNatClampNeg x2)) = x1 then if v_in x2 400 = true then bv (fX11_spend M x1 (M.1 150 (Int32.toNatClampNeg x2)) 148 (2000 * x1)) fun M12 => fX11_tellSpent_33 n9 M12 x1 (x2 + 1) else none else fX11_tellSpent_33 n9 M x1 (x2 + 1) else none
set_option maxRecDepth 20000 in
set_option maxHeartbeats 2000000 in
theorem vX11_tellSpent_33 {l : Launch} {D : va_G} {dA : Nat → ClassId} : ∀ (n9 : Nat) (M : vM) (x1 : Int32) (x2 : Int32), v_WT M.2.2 → V l D dA sX11_tellSpent false 175 4 0 0 33 [(0, .ref 130), (1, .int x1), (2, .int x2)] [] 175 M (fX11_tellSpent_33 n9 M x1 x2) := by
  intro n9
  induction n9 with
  | zero => intros; exact V_none
  | succ n9 ih =>
    intro M x1 x2 hI
    refine V_iload_n (k := 2) dX11_tellSpent_33 rfl rfl ?_
    refine V_aload_n (k := 0) dX11_tellSpent_34 rfl rfl ?_
    refine V_geti dX11_tellSpent_35 rfl (by decide) vf_X11_293 (by decide) ?_
    refine V_icmpge (tgt := 77) dX11_tellSpent_38 (by decide) (fun h8 => ?_) (fun h8 => ?_)
    · exact V_ret (fun _ => hI) (Or.inl ⟨rfl, rfl⟩) dX11_tellSpent_77 (fun ty x h1 h2 => by cases h1) rfl
    · refine V_aload_n (k := 0) dX11_tellSpent_41 rfl rfl ?_
      refine V_getr (k := 149) dX11_tellSpent_42 rfl (by decide) vf_X11_74 (by decide) (v_fin hI 136 rfl) ?_
      refine V_iload_n (k := 2) dX11_tellSpent_45 rfl rfl ?_
      refine V_iald dX11_tellSpent_46 rfl (by decide) (fun h9 => ?_)
      refine V_iload_n (k := 1) dX11_tellSpent_47 rfl rfl ?_
      refine V_icmpne (tgt := 71) dX11_tellSpent_48 (by decide) (fun h10 => ?_) (fun h10 => ?_)
      · refine V_iinc (k := 2) (v := x2 + 1) (lv' := [(2, .int (x2 + 1)), (0, .ref 130), (1, .int x1)]) dX11_tellSpent_71 rfl rfl (by decide) rfl ?_
        refine V_goto (tgt := 33) dX11_tellSpent_74 (by decide) ?_
        refine V_sub [1, 2, 0] rfl ?_
        exact ih M x1 (x2 + 1) hI
      · refine V_aload_n (k := 0) dX11_tellSpent_51 rfl rfl ?_
        refine V_iload_n (k := 1) dX11_tellSpent_52 rfl rfl ?_
        refine V_aload_n (k := 0) dX11_tellSpent_53 rfl rfl ?_
        refine V_getr (k := 150) dX11_tellSpent_54 rfl (by decide) vf_X11_77 (by decide) (v_fin hI 137 rfl) ?_
        refine V_iload_n (k := 2) dX11_tellSpent_57 rfl rfl ?_
        refine V_iald dX11_tellSpent_58 rfl (by decide) (fun h11 => ?_)
        refine V_aload_n (k := 0) dX11_tellSpent_59 rfl rfl ?_
        refine V_getr (k := 148) dX11_tellSpent_60 rfl (by decide) vf_X11_70 (by decide) (v_fin hI 135 rfl) ?_
        refine V_sipush (v := 2000) dX11_tellSpent_63 rfl ?_
        refine V_iload_n (k := 1) dX11_tellSpent_66 rfl rfl ?_
        refine V_imul dX11_tellSpent_67 ?_
        refine V_callVv (q := (RX11, TX11, 61)) (cls := 11) (st0 := []) (kc' := 0) (ks' := 0) dX11_tellSpent_68 lk_X11_352 rfl (by decide) rfl rfl rfl (cX11_spend_ok M x1 (M.1 150 (Int32.toNatClampNeg x2)) 148 (2000 * x1) (v_isA_of (by decide) rfl) hI) rfl rfl (by decide) (by decide) (Nat.le_of_ble_eq_true rfl) (Or.inl rfl) rfl rfl (by decide) (by decide) (fun  M12 e13 hI14 => ?_)
        refine V_iinc (k := 2) (v := x2 + 1) (lv' := [(2, .int (x2 + 1)), (0, .ref 130), (1, .int x1)]) dX11_tellSpent_71 rfl rfl (by decide) rfl ?_
        refine V_goto (tgt := 33) dX11_tellSpent_74 (by decide) ?_
        refine V_sub [1, 2, 0] rfl ?_
        exact ih M12 x1 (x2 + 1) hI14
def fX11_tellSpent_2 : Nat → vM → Int32 → Int32 → Option (vR × vM)
  | 0, _, _, _ => none
  | n9 + 1, M, x1, x2 => if v_in x1 6 = true then if (M.1 145 (Int32.toNatClampNeg x1)) ≤ x2 then fX11_tellSpent_33 FU M x1 0 else if v_in ((2000 * x1) + x2) 12000 = true then fX11_tellSpent_2 n9 (v_si M 148 (Int32.toNatClampNeg ((2000 * x1) + x2)) (v_nz 0)) x1 (x2 + 1) else none else none
set_option maxRecDepth 20000 in
set_option maxHeartbeats 2000000 in
theorem vX11_tellSpent_2 {l : Launch} {D : va_G} {dA : Nat → ClassId} : ∀ (n9 : Nat) (M : vM) (x1 : Int32) (x2 : Int32), v_WT M.2.2 → V l D dA sX11_tellSpent false 175 4 0 0 2 [(0, .ref 130), (1, .int x1), (2, .int x2)] [] 175 M (fX11_tellSpent_2 n9 M x1 x2) := by
  intro n9
  induction n9 with
  | zero => intros; exact V_none
  | succ n9 ih =>
    intro M x1 x2 hI
    refine V_iload_n (k := 2) dX11_tellSpent_2 rfl rfl ?_
    refine V_aload_n (k := 0) dX11_tellSpent_3 rfl rfl ?_
    refine V_getr (k := 145) dX11_tellSpent_4 rfl (by decide) vf_X11_61 (by decide) (v_fin hI 132 rfl) ?_
    refine V_iload_n (k := 1) dX11_tellSpent_7 rfl rfl ?_
    refine V_iald dX11_tellSpent_8 rfl (by decide) (fun h15 => ?_)
    refine V_icmpge (tgt := 31) dX11_tellSpent_9 (by decide) (fun h16 => ?_) (fun h16 => ?_)
    · refine V_iconst (v := 0) dX11_tellSpent_31 rfl ?_
      refine V_istore_n (lv' := [(2, .int 0), (0, .ref 130), (1, .int x1)]) dX11_tellSpent_32 rfl (by decide) rfl ?_
      refine V_sub [1, 2, 0] rfl ?_
      exact vX11_tellSpent_33 FU M x1 0 hI
    · refine V_aload_n (k := 0) dX11_tellSpent_12 rfl rfl ?_
      refine V_getr (k := 148) dX11_tellSpent_13 rfl (by decide) vf_X11_70 (by decide) (v_fin hI 135 rfl) ?_
      refine V_sipush (v := 2000) dX11_tellSpent_16 rfl ?_
      refine V_iload_n (k := 1) dX11_tellSpent_19 rfl rfl ?_
      refine V_imul dX11_tellSpent_20 ?_
      refine V_iload_n (k := 2) dX11_tellSpent_21 rfl rfl ?_
      refine V_iadd dX11_tellSpent_22 ?_
      refine V_iconst (v := 0) dX11_tellSpent_23 rfl ?_
      refine V_zast dX11_tellSpent_24 rfl (by decide) (fun h17 => ?_)
      refine V_iinc (k := 2) (v := x2 + 1) (lv' := [(2, .int (x2 + 1)), (0, .ref 130), (1, .int x1)]) dX11_tellSpent_25 rfl rfl (by decide) rfl ?_
      refine V_goto (tgt := 2) dX11_tellSpent_28 (by decide) ?_
      refine V_sub [1, 2, 0] rfl ?_
      exact ih (v_si M 148 (Int32.toNatClampNeg ((2000 * x1) + x2)) (v_nz 0)) x1 (x2 + 1) hI
def fX11_tellSpent (M : vM) (x1 : Int32) : Option (vR × vM) := fX11_tellSpent_2 FU M x1 0
set_option maxRecDepth 20000 in
set_option maxHeartbeats 2000000 in
theorem cX11_tellSpent_ok {l : Launch} {D : va_G} {dA : Nat → ClassId} (M : vM) (x1 : Int32) (hI : v_WT M.2.2) : Ct l D dA sX11_tellSpent false 175 4 0 0 175 [.ref 130, .int x1] M (fX11_tellSpent M x1) := by
  refine Ct_of (lv := [(0, .ref 130), (1, .int x1)]) (by decide +kernel) rfl (Nat.le_of_ble_eq_true rfl) rfl (fun h => by cases h) ?_
  refine V_iconst (v := 0) dX11_tellSpent_0 rfl ?_
  refine V_istore_n (lv' := [(2, .int 0), (0, .ref 130), (1, .int x1)]) dX11_tellSpent_1 rfl (by decide) rfl ?_
  refine V_sub [1, 2, 0] rfl ?_
  exact vX11_tellSpent_2 FU M x1 0 hI
def fX11_restore_112 : Nat → vM → Int32 → Option (vR × vM)
  | 0, _, _ => none
  | n9 + 1, M, x1 => if (M.1 130 2) ≤ x1 then rI 1 M else bv (fX11_tellSpent M x1) fun M4 => fX11_restore_112 n9 M4 (x1 + 1)
set_option maxRecDepth 20000 in
set_option maxHeartbeats 2000000 in
theorem vX11_restore_112 {l : Launch} {D : va_G} {dA : Nat → ClassId} : ∀ (n9 : Nat) (M : vM) (x1 : Int32), v_WT M.2.2 → V l D dA sX11_restore false 175 5 0 0 112 [(0, .ref 130), (1, .int x1)] [] 175 M (fX11_restore_112 n9 M x1) := by
  intro n9
  induction n9 with
  | zero => intros; exact V_none
  | succ n9 ih =>
    intro M x1 hI
    refine V_iload_n (k := 1) dX11_restore_112 rfl rfl ?_
    refine V_aload_n (k := 0) dX11_restore_113 rfl rfl ?_
    refine V_geti dX11_restore_114 rfl (by decide) vf_X11_157 (by decide) ?_
    refine V_icmpge (tgt := 131) dX11_restore_117 (by decide) (fun h3 => ?_) (fun h3 => ?_)
    · refine V_iconst (v := 1) dX11_restore_131 rfl ?_
      exact V_ret (fun _ => hI) (Or.inr (Or.inr (Or.inl ⟨rfl, _, rfl⟩))) dX11_restore_132 (fun ty x h1 h2 => by cases h1; cases h2; rfl) rfl
    · refine V_aload_n (k := 0) dX11_restore_120 rfl rfl ?_
      refine V_iload_n (k := 1) dX11_restore_121 rfl rfl ?_
      refine V_callVv (q := (RX11, TX11, 61)) (cls := 11) (st0 := []) (kc' := 0) (ks' := 0) dX11_restore_122 lk_X11_317 rfl (by decide) rfl rfl rfl (cX11_tellSpent_ok M x1 hI) rfl rfl (by decide) (by decide) (Nat.le_of_ble_eq_true rfl) (Or.inl rfl) rfl rfl (by decide) (by decide) (fun  M4 e5 hI6 => ?_)
      refine V_iinc (k := 1) (v := x1 + 1) (lv' := [(1, .int (x1 + 1)), (0, .ref 130)]) dX11_restore_125 rfl rfl (by decide) rfl ?_
      refine V_goto (tgt := 112) dX11_restore_128 (by decide) ?_
      refine V_sub [1, 0] rfl ?_
      exact ih M4 (x1 + 1) hI6
def fX11_restore (M : vM) : Option (vR × vM) := if ((v_si M 130 1 0).1 130 51) = 0 then rI 0 (v_si M 130 1 0) else bv (fX11_be (v_si (v_si M 130 1 0) 130 21 ((v_si M 130 1 0).1 130 52)) 149 166) fun M8 => bv (fX11_be M8 150 167) fun M11 => bv (fX11_be M11 151 168) fun M14 => bv (fX11_be M14 152 169) fun M17 => bv (fX11_be M17 153 170) fun M20 => bv (fX11_be M20 154 171) fun M23 => bv (fX11_be M23 155 172) fun M26 => bv (fX11_be M26 156 173) fun M29 => fX11_restore_112 FU M29 0
set_option maxRecDepth 20000 in
set_option maxHeartbeats 2000000 in
theorem cX11_restore_ok {l : Launch} {D : va_G} {dA : Nat → ClassId} (M : vM) (hI : v_WT M.2.2) : Ct l D dA sX11_restore false 175 5 0 0 175 [.ref 130] M (fX11_restore M) := by
  refine Ct_of (lv := [(0, .ref 130)]) (by decide +kernel) rfl (Nat.le_of_ble_eq_true rfl) rfl (fun h => by cases h) ?_
  refine V_aload_n (k := 0) dX11_restore_0 rfl rfl ?_
  refine V_iconst (v := 0) dX11_restore_1 rfl ?_
  refine V_puti dX11_restore_2 rfl (by decide) vf_X11_154 (by decide) rfl rfl ?_
  refine V_aload_n (k := 0) dX11_restore_5 rfl rfl ?_
  refine V_geti dX11_restore_6 rfl (by decide) vf_X11_299 (by decide) ?_
  refine V_ifne (tgt := 14) dX11_restore_9 (by decide) (fun h7 => ?_) (fun h7 => ?_)
  · refine V_aload_n (k := 0) dX11_restore_14 rfl rfl ?_
    refine V_aload_n (k := 0) dX11_restore_15 rfl rfl ?_
    refine V_geti dX11_restore_16 rfl (by decide) vf_X11_419 (by decide) ?_
    refine V_puti dX11_restore_19 rfl (by decide) vf_X11_293 (by decide) rfl rfl ?_
    refine V_aload_n (k := 0) dX11_restore_22 rfl rfl ?_
    refine V_getr (k := 149) dX11_restore_23 rfl (by decide) vf_X11_74 (by decide) (v_fin hI 136 rfl) ?_
    refine V_aload_n (k := 0) dX11_restore_26 rfl rfl ?_
    refine V_getr (k := 166) dX11_restore_27 rfl (by decide) vf_X11_130 (by decide) (v_fin hI 153 rfl) ?_
    refine V_callSv (st0 := []) (kc' := 0) (ks' := 0) dX11_restore_30 lk_X11_422 rfl (cX11_be_ok (v_si (v_si M 130 1 0) 130 21 ((v_si M 130 1 0).1 130 52)) 149 166 (v_isA_of (by decide) rfl) (v_isA_of (by decide) rfl) hI) rfl rfl (by decide) (by decide) (Nat.le_of_ble_eq_true rfl) (Or.inl rfl) rfl rfl (by decide) (by decide) (fun  M8 e9 hI10 => ?_)
    refine V_aload_n (k := 0) dX11_restore_33 rfl rfl ?_
    refine V_getr (k := 150) dX11_restore_34 rfl (by decide) vf_X11_77 (by decide) (v_fin hI10 137 rfl) ?_
    refine V_aload_n (k := 0) dX11_restore_37 rfl rfl ?_
    refine V_getr (k := 167) dX11_restore_38 rfl (by decide) vf_X11_133 (by decide) (v_fin hI10 154 rfl) ?_
    refine V_callSv (st0 := []) (kc' := 0) (ks' := 0) dX11_restore_41 lk_X11_422 rfl (cX11_be_ok M8 150 167 (v_isA_of (by decide) rfl) (v_isA_of (by decide) rfl) hI10) rfl rfl (by decide) (by decide) (Nat.le_of_ble_eq_true rfl) (Or.inl rfl) rfl rfl (by decide) (by decide) (fun  M11 e12 hI13 => ?_)
    refine V_aload_n (k := 0) dX11_restore_44 rfl rfl ?_
    refine V_getr (k := 151) dX11_restore_45 rfl (by decide) vf_X11_80 (by decide) (v_fin hI13 138 rfl) ?_
    refine V_aload_n (k := 0) dX11_restore_48 rfl rfl ?_
    refine V_getr (k := 168) dX11_restore_49 rfl (by decide) vf_X11_136 (by decide) (v_fin hI13 155 rfl) ?_
    refine V_callSv (st0 := []) (kc' := 0) (ks' := 0) dX11_restore_52 lk_X11_422 rfl (cX11_be_ok M11 151 168 (v_isA_of (by decide) rfl) (v_isA_of (by decide) rfl) hI13) rfl rfl (by decide) (by decide) (Nat.le_of_ble_eq_true rfl) (Or.inl rfl) rfl rfl (by decide) (by decide) (fun  M14 e15 hI16 => ?_)
    refine V_aload_n (k := 0) dX11_restore_55 rfl rfl ?_
    refine V_getr (k := 152) dX11_restore_56 rfl (by decide) vf_X11_83 (by decide) (v_fin hI16 139 rfl) ?_
    refine V_aload_n (k := 0) dX11_restore_59 rfl rfl ?_
    refine V_getr (k := 169) dX11_restore_60 rfl (by decide) vf_X11_139 (by decide) (v_fin hI16 156 rfl) ?_
    refine V_callSv (st0 := []) (kc' := 0) (ks' := 0) dX11_restore_63 lk_X11_422 rfl (cX11_be_ok M14 152 169 (v_isA_of (by decide) rfl) (v_isA_of (by decide) rfl) hI16) rfl rfl (by decide) (by decide) (Nat.le_of_ble_eq_true rfl) (Or.inl rfl) rfl rfl (by decide) (by decide) (fun  M17 e18 hI19 => ?_)
    refine V_aload_n (k := 0) dX11_restore_66 rfl rfl ?_
    refine V_getr (k := 153) dX11_restore_67 rfl (by decide) vf_X11_86 (by decide) (v_fin hI19 140 rfl) ?_
    refine V_aload_n (k := 0) dX11_restore_70 rfl rfl ?_
    refine V_getr (k := 170) dX11_restore_71 rfl (by decide) vf_X11_142 (by decide) (v_fin hI19 157 rfl) ?_
    refine V_callSv (st0 := []) (kc' := 0) (ks' := 0) dX11_restore_74 lk_X11_422 rfl (cX11_be_ok M17 153 170 (v_isA_of (by decide) rfl) (v_isA_of (by decide) rfl) hI19) rfl rfl (by decide) (by decide) (Nat.le_of_ble_eq_true rfl) (Or.inl rfl) rfl rfl (by decide) (by decide) (fun  M20 e21 hI22 => ?_)
    refine V_aload_n (k := 0) dX11_restore_77 rfl rfl ?_
    refine V_getr (k := 154) dX11_restore_78 rfl (by decide) vf_X11_89 (by decide) (v_fin hI22 141 rfl) ?_
    refine V_aload_n (k := 0) dX11_restore_81 rfl rfl ?_
    refine V_getr (k := 171) dX11_restore_82 rfl (by decide) vf_X11_145 (by decide) (v_fin hI22 158 rfl) ?_
    refine V_callSv (st0 := []) (kc' := 0) (ks' := 0) dX11_restore_85 lk_X11_422 rfl (cX11_be_ok M20 154 171 (v_isA_of (by decide) rfl) (v_isA_of (by decide) rfl) hI22) rfl rfl (by decide) (by decide) (Nat.le_of_ble_eq_true rfl) (Or.inl rfl) rfl rfl (by decide) (by decide) (fun  M23 e24 hI25 => ?_)
    refine V_aload_n (k := 0) dX11_restore_88 rfl rfl ?_
    refine V_getr (k := 155) dX11_restore_89 rfl (by decide) vf_X11_92 (by decide) (v_fin hI25 142 rfl) ?_
    refine V_aload_n (k := 0) dX11_restore_92 rfl rfl ?_
    refine V_getr (k := 172) dX11_restore_93 rfl (by decide) vf_X11_148 (by decide) (v_fin hI25 159 rfl) ?_
    refine V_callSv (st0 := []) (kc' := 0) (ks' := 0) dX11_restore_96 lk_X11_422 rfl (cX11_be_ok M23 155 172 (v_isA_of (by decide) rfl) (v_isA_of (by decide) rfl) hI25) rfl rfl (by decide) (by decide) (Nat.le_of_ble_eq_true rfl) (Or.inl rfl) rfl rfl (by decide) (by decide) (fun  M26 e27 hI28 => ?_)
    refine V_aload_n (k := 0) dX11_restore_99 rfl rfl ?_
    refine V_getr (k := 156) dX11_restore_100 rfl (by decide) vf_X11_95 (by decide) (v_fin hI28 143 rfl) ?_
    refine V_aload_n (k := 0) dX11_restore_103 rfl rfl ?_
    refine V_getr (k := 173) dX11_restore_104 rfl (by decide) vf_X11_151 (by decide) (v_fin hI28 160 rfl) ?_
    refine V_callSv (st0 := []) (kc' := 0) (ks' := 0) dX11_restore_107 lk_X11_422 rfl (cX11_be_ok M26 156 173 (v_isA_of (by decide) rfl) (v_isA_of (by decide) rfl) hI28) rfl rfl (by decide) (by decide) (Nat.le_of_ble_eq_true rfl) (Or.inl rfl) rfl rfl (by decide) (by decide) (fun  M29 e30 hI31 => ?_)
    refine V_iconst (v := 0) dX11_restore_110 rfl ?_
    refine V_istore_n (lv' := [(1, .int 0), (0, .ref 130)]) dX11_restore_111 rfl (by decide) rfl ?_
    refine V_sub [1, 0] rfl ?_
    exact vX11_restore_112 FU M29 0 hI31
  · refine V_iconst (v := 0) dX11_restore_12 rfl ?_
    exact V_ret (fun _ => hI) (Or.inr (Or.inr (Or.inl ⟨rfl, _, rfl⟩))) dX11_restore_13 (fun ty x h1 h2 => by cases h1; cases h2; rfl) rfl
def fX11_same_34 (M : vM) : Option (vR × vM) := bi (fX11_fail M 1) fun y7 M8 => rI y7 M8
set_option maxRecDepth 20000 in
set_option maxHeartbeats 2000000 in
theorem vX11_same_34 {l : Launch} {D : va_G} {dA : Nat → ClassId} : ∀ (M : vM), v_WT M.2.2 → V l D dA sX11_same false 175 4 0 0 34 [(0, .ref 130)] [] 175 M (fX11_same_34 M) := by
  intro M hI
  refine V_aload_n (k := 0) dX11_same_34 rfl rfl ?_
  refine V_iconst (v := 1) dX11_same_35 rfl ?_
  refine V_callVi (q := (RX11, TX11, 61)) (cls := 11) (st0 := []) (kc' := 0) (ks' := 0) dX11_same_36 lk_X11_287 rfl (by decide) rfl rfl rfl (cX11_fail_ok M 1 hI) rfl rfl (by decide) (by decide) (Nat.le_of_ble_eq_true rfl) (Or.inl rfl) rfl rfl (by decide) (by decide) (fun y7 M8 e9 hI10 => ?_)
  exact V_ret (fun _ => hI10) (Or.inr (Or.inl ⟨rfl, _, rfl⟩)) dX11_same_39 (fun ty x h1 h2 => by cases h1; rfl) rfl
def fX11_same (M : vM) (x1 : Int32) (x2 : Int32) (x3 : Int32) (x4 : Int32) : Option (vR × vM) := bi (fX11_isWay (v_si M 130 1 0) x1 x2) fun y11 M12 => if y11 = 0 then fX11_same_34 M12 else bi (fX11_isWay M12 x1 x3) fun y16 M17 => if y16 = 0 then fX11_same_34 M17 else if x4 < 0 then fX11_same_34 M17 else if x4 ≤ 1 then if x4 = 0 then bi (fX11_markOf M17 x1 x2) fun y37 M38 => bi (fX11_markOf M38 x1 x3) fun y41 M42 => bi (fX11_bitsOf M42 (y37 ^^^ y41)) fun y45 M46 => rI y45 M46 else bi (fX11_markOf M17 x1 x2) fun y24 M25 => bi (fX11_markOf M25 x1 x3) fun y28 M29 => bi (fX11_alike M29 x1 y24 y28) fun y32 M33 => if y32 = 0 then rI 0 M33 else rI 1 M33 else fX11_same_34 M17
set_option maxRecDepth 20000 in
set_option maxHeartbeats 2000000 in
theorem cX11_same_ok {l : Launch} {D : va_G} {dA : Nat → ClassId} (M : vM) (x1 : Int32) (x2 : Int32) (x3 : Int32) (x4 : Int32) (hI : v_WT M.2.2) : Ct l D dA sX11_same false 175 4 0 0 175 [.ref 130, .int x1, .int x2, .int x3, .int x4] M (fX11_same M x1 x2 x3 x4) := by
  refine Ct_of (lv := [(0, .ref 130), (1, .int x1), (2, .int x2), (3, .int x3), (4, .int x4)]) (by decide +kernel) rfl (Nat.le_of_ble_eq_true rfl) rfl (fun h => by cases h) ?_
  refine V_aload_n (k := 0) dX11_same_0 rfl rfl ?_
  refine V_iconst (v := 0) dX11_same_1 rfl ?_
  refine V_puti dX11_same_2 rfl (by decide) vf_X11_154 (by decide) rfl rfl ?_
  refine V_aload_n (k := 0) dX11_same_5 rfl rfl ?_
  refine V_iload_n (k := 1) dX11_same_6 rfl rfl ?_
  refine V_iload_n (k := 2) dX11_same_7 rfl rfl ?_
  refine V_callVi (q := (RX11, TX11, 61)) (cls := 11) (st0 := []) (kc' := 0) (ks' := 0) dX11_same_8 lk_X11_362 rfl (by decide) rfl rfl rfl (cX11_isWay_ok (v_si M 130 1 0) x1 x2 hI) rfl rfl (by decide) (by decide) (Nat.le_of_ble_eq_true rfl) (Or.inl rfl) rfl rfl (by decide) (by decide) (fun y11 M12 e13 hI14 => ?_)
  refine V_ifeq (tgt := 34) dX11_same_11 (by decide) (fun h15 => ?_) (fun h15 => ?_)
  · refine V_sub [0] rfl ?_
    exact vX11_same_34 M12 hI14
  · refine V_aload_n (k := 0) dX11_same_14 rfl rfl ?_
    refine V_iload_n (k := 1) dX11_same_15 rfl rfl ?_
    refine V_iload_n (k := 3) dX11_same_16 rfl rfl ?_
    refine V_callVi (q := (RX11, TX11, 61)) (cls := 11) (st0 := []) (kc' := 0) (ks' := 0) dX11_same_17 lk_X11_362 rfl (by decide) rfl rfl rfl (cX11_isWay_ok M12 x1 x3 hI14) rfl rfl (by decide) (by decide) (Nat.le_of_ble_eq_true rfl) (Or.inl rfl) rfl rfl (by decide) (by decide) (fun y16 M17 e18 hI19 => ?_)
    refine V_ifeq (tgt := 34) dX11_same_20 (by decide) (fun h20 => ?_) (fun h20 => ?_)
    · refine V_sub [0] rfl ?_
      exact vX11_same_34 M17 hI19
    · refine V_iload (k := 4) dX11_same_23 rfl ?_
      refine V_iflt (tgt := 34) dX11_same_25 (by decide) (fun h21 => ?_) (fun h21 => ?_)
      · refine V_sub [0] rfl ?_
        exact vX11_same_34 M17 hI19
      · refine V_iload (k := 4) dX11_same_28 rfl ?_
        refine V_iconst (v := 1) dX11_same_30 rfl ?_
        refine V_icmple (tgt := 40) dX11_same_31 (by decide) (fun h22 => ?_) (fun h22 => ?_)
        · refine V_iload (k := 4) dX11_same_40 rfl ?_
          refine V_ifne (tgt := 64) dX11_same_42 (by decide) (fun h23 => ?_) (fun h23 => ?_)
          · refine V_aload_n (k := 0) dX11_same_64 rfl rfl ?_
            refine V_iload_n (k := 1) dX11_same_65 rfl rfl ?_
            refine V_aload_n (k := 0) dX11_same_66 rfl rfl ?_
            refine V_iload_n (k := 1) dX11_same_67 rfl rfl ?_
            refine V_iload_n (k := 2) dX11_same_68 rfl rfl ?_
            refine V_callVi (q := (RX11, TX11, 61)) (cls := 11) (st0 := [.int x1, .ref 130]) (kc' := 0) (ks' := 0) dX11_same_69 lk_X11_349 rfl (by decide) rfl rfl rfl (cX11_markOf_ok M17 x1 x2 hI19) rfl rfl (by decide) (by decide) (Nat.le_of_ble_eq_true rfl) (Or.inl rfl) rfl rfl (by decide) (by decide) (fun y24 M25 e26 hI27 => ?_)
            refine V_aload_n (k := 0) dX11_same_72 rfl rfl ?_
            refine V_iload_n (k := 1) dX11_same_73 rfl rfl ?_
            refine V_iload_n (k := 3) dX11_same_74 rfl rfl ?_
            refine V_callVi (q := (RX11, TX11, 61)) (cls := 11) (st0 := [.int y24, .int x1, .ref 130]) (kc' := 0) (ks' := 0) dX11_same_75 lk_X11_349 rfl (by decide) rfl rfl rfl (cX11_markOf_ok M25 x1 x3 hI27) rfl rfl (by decide) (by decide) (Nat.le_of_ble_eq_true rfl) (Or.inl rfl) rfl rfl (by decide) (by decide) (fun y28 M29 e30 hI31 => ?_)
            refine V_callVi (q := (RX11, TX11, 61)) (cls := 11) (st0 := []) (kc' := 0) (ks' := 0) dX11_same_78 lk_X11_372 rfl (by decide) rfl rfl rfl (cX11_alike_ok M29 x1 y24 y28 hI31) rfl rfl (by decide) (by decide) (Nat.le_of_ble_eq_true rfl) (Or.inl rfl) rfl rfl (by decide) (by decide) (fun y32 M33 e34 hI35 => ?_)
            refine V_ifeq (tgt := 88) dX11_same_81 (by decide) (fun h36 => ?_) (fun h36 => ?_)
            · refine V_iconst (v := 0) dX11_same_88 rfl ?_
              exact V_ret (fun _ => hI35) (Or.inr (Or.inl ⟨rfl, _, rfl⟩)) dX11_same_89 (fun ty x h1 h2 => by cases h1; rfl) rfl
            · refine V_iconst (v := 1) dX11_same_84 rfl ?_
              refine V_goto (tgt := 89) dX11_same_85 (by decide) ?_
              exact V_ret (fun _ => hI35) (Or.inr (Or.inl ⟨rfl, _, rfl⟩)) dX11_same_89 (fun ty x h1 h2 => by cases h1; rfl) rfl
          · refine V_aload_n (k := 0) dX11_same_45 rfl rfl ?_
            refine V_iload_n (k := 1) dX11_same_46 rfl rfl ?_
            refine V_iload_n (k := 2) dX11_same_47 rfl rfl ?_
            refine V_callVi (q := (RX11, TX11, 61)) (cls := 11) (st0 := []) (kc' := 0) (ks' := 0) dX11_same_48 lk_X11_349 rfl (by decide) rfl rfl rfl (cX11_markOf_ok M17 x1 x2 hI19) rfl rfl (by decide) (by decide) (Nat.le_of_ble_eq_true rfl) (Or.inl rfl) rfl rfl (by decide) (by decide) (fun y37 M38 e39 hI40 => ?_)
            refine V_aload_n (k := 0) dX11_same_51 rfl rfl ?_
            refine V_iload_n (k := 1) dX11_same_52 rfl rfl ?_
            refine V_iload_n (k := 3) dX11_same_53 rfl rfl ?_
            refine V_callVi (q := (RX11, TX11, 61)) (cls := 11) (st0 := [.int y37]) (kc' := 0) (ks' := 0) dX11_same_54 lk_X11_349 rfl (by decide) rfl rfl rfl (cX11_markOf_ok M38 x1 x3 hI40) rfl rfl (by decide) (by decide) (Nat.le_of_ble_eq_true rfl) (Or.inl rfl) rfl rfl (by decide) (by decide) (fun y41 M42 e43 hI44 => ?_)
            refine V_ixor dX11_same_57 ?_
            refine V_callSi (st0 := []) (kc' := 0) (ks' := 0) dX11_same_58 lk_X11_324 rfl (cX11_bitsOf_ok M42 (y37 ^^^ y41) hI44) rfl rfl (by decide) (by decide) (Nat.le_of_ble_eq_true rfl) (Or.inl rfl) rfl rfl (by decide) (by decide) (fun y45 M46 e47 hI48 => ?_)
            refine V_goto (tgt := 89) dX11_same_61 (by decide) ?_
            exact V_ret (fun _ => hI48) (Or.inr (Or.inl ⟨rfl, _, rfl⟩)) dX11_same_89 (fun ty x h1 h2 => by cases h1; rfl) rfl
        · refine V_sub [0] rfl ?_
          exact vX11_same_34 M17 hI19
def fX11_swap (M : vM) (x1 : Int32) (x2 : Int32) (x3 : Int32) : Option (vR × vM) := if v_in ((2000 * x1) + x2) 12000 = true then if v_in ((2000 * x1) + x2) 12000 = true then if v_in ((2000 * x1) + x3) 12000 = true then if v_in ((2000 * x1) + x2) 12000 = true then if v_in ((2000 * x1) + x3) 12000 = true then if v_in ((2000 * x1) + x2) 12000 = true then if v_in ((2000 * x1) + x3) 12000 = true then if v_in ((2000 * x1) + x3) 12000 = true then rV (v_si (v_si (v_si (v_si M 146 (Int32.toNatClampNeg ((2000 * x1) + x2)) (M.1 146 (Int32.toNatClampNeg ((2000 * x1) + x3)))) 147 (Int32.toNatClampNeg ((2000 * x1) + x2)) ((v_si M 146 (Int32.toNatClampNeg ((2000 * x1) + x2)) (M.1 146 (Int32.toNatClampNeg ((2000 * x1) + x3)))).1 147 (Int32.toNatClampNeg ((2000 * x1) + x3)))) 146 (Int32.toNatClampNeg ((2000 * x1) + x3)) (M.1 146 (Int32.toNatClampNeg ((2000 * x1) + x2)))) 147 (Int32.toNatClampNeg ((2000 * x1) + x3)) (M.1 147 (Int32.toNatClampNeg ((2000 * x1) + x2)))) else none else none else none else none else none else none else none else none
set_option maxRecDepth 20000 in
set_option maxHeartbeats 2000000 in
theorem cX11_swap_ok {l : Launch} {D : va_G} {dA : Nat → ClassId} (M : vM) (x1 : Int32) (x2 : Int32) (x3 : Int32) (hI : v_WT M.2.2) : Ct l D dA sX11_swap false 175 1 0 0 175 [.ref 130, .int x1, .int x2, .int x3] M (fX11_swap M x1 x2 x3) := by
  refine Ct_of (lv := [(0, .ref 130), (1, .int x1), (2, .int x2), (3, .int x3)]) (by decide +kernel) rfl (Nat.le_of_ble_eq_true rfl) rfl (fun h => by cases h) ?_
  refine V_sipush (v := 2000) dX11_swap_0 rfl ?_
  refine V_iload_n (k := 1) dX11_swap_3 rfl rfl ?_
  refine V_imul dX11_swap_4 ?_
  refine V_iload_n (k := 2) dX11_swap_5 rfl rfl ?_
  refine V_iadd dX11_swap_6 ?_
  refine V_istore (lv' := [(4, .int ((2000 * x1) + x2)), (0, .ref 130), (1, .int x1), (2, .int x2), (3, .int x3)]) dX11_swap_7 (by decide) rfl ?_
  refine V_sipush (v := 2000) dX11_swap_9 rfl ?_
  refine V_iload_n (k := 2) dX11_swap_12 rfl rfl ?_
  refine V_imul dX11_swap_13 ?_
  refine V_iload_n (k := 4) dX11_swap_14 rfl rfl ?_
  refine V_iadd dX11_swap_15 ?_
  refine V_istore (lv' := [(5, .int ((2000 * x1) + x3)), (4, .int ((2000 * x1) + x2)), (0, .ref 130), (1, .int x1), (2, .int x2), (3, .int x3)]) dX11_swap_16 (by decide) rfl ?_
  refine V_aload_n (k := 2) dX11_swap_18 rfl rfl ?_
  refine V_getr (k := 146) dX11_swap_19 rfl (by decide) vf_X11_64 (by decide) (v_fin hI 133 rfl) ?_
  refine V_iload (k := 1) dX11_swap_22 rfl ?_
  refine V_iald dX11_swap_24 rfl (by decide) (fun h9 => ?_)
  refine V_istore (lv' := [(6, .int (M.1 146 (Int32.toNatClampNeg ((2000 * x1) + x2)))), (5, .int ((2000 * x1) + x3)), (4, .int ((2000 * x1) + x2)), (0, .ref 130), (1, .int x1), (2, .int x2), (3, .int x3)]) dX11_swap_25 (by decide) rfl ?_
  refine V_aload_n (k := 3) dX11_swap_27 rfl rfl ?_
  refine V_getr (k := 147) dX11_swap_28 rfl (by decide) vf_X11_67 (by decide) (v_fin hI 134 rfl) ?_
  refine V_iload (k := 2) dX11_swap_31 rfl ?_
  refine V_iald dX11_swap_33 rfl (by decide) (fun h10 => ?_)
  refine V_istore (lv' := [(7, .int (M.1 147 (Int32.toNatClampNeg ((2000 * x1) + x2)))), (6, .int (M.1 146 (Int32.toNatClampNeg ((2000 * x1) + x2)))), (5, .int ((2000 * x1) + x3)), (4, .int ((2000 * x1) + x2)), (0, .ref 130), (1, .int x1), (2, .int x2), (3, .int x3)]) dX11_swap_34 (by decide) rfl ?_
  refine V_aload_n (k := 4) dX11_swap_36 rfl rfl ?_
  refine V_getr (k := 146) dX11_swap_37 rfl (by decide) vf_X11_64 (by decide) (v_fin hI 133 rfl) ?_
  refine V_iload (k := 3) dX11_swap_40 rfl ?_
  refine V_aload_n (k := 4) dX11_swap_42 rfl rfl ?_
  refine V_getr (k := 146) dX11_swap_43 rfl (by decide) vf_X11_64 (by decide) (v_fin hI 133 rfl) ?_
  refine V_iload (k := 2) dX11_swap_46 rfl ?_
  refine V_iald dX11_swap_48 rfl (by decide) (fun h11 => ?_)
  refine V_iast dX11_swap_49 rfl (by decide) (fun h12 => ?_)
  refine V_aload_n (k := 4) dX11_swap_50 rfl rfl ?_
  refine V_getr (k := 147) dX11_swap_51 rfl (by decide) vf_X11_67 (by decide) (v_fin hI 134 rfl) ?_
  refine V_iload (k := 3) dX11_swap_54 rfl ?_
  refine V_aload_n (k := 4) dX11_swap_56 rfl rfl ?_
  refine V_getr (k := 147) dX11_swap_57 rfl (by decide) vf_X11_67 (by decide) (v_fin hI 134 rfl) ?_
  refine V_iload (k := 2) dX11_swap_60 rfl ?_
  refine V_iald dX11_swap_62 rfl (by decide) (fun h13 => ?_)
  refine V_iast dX11_swap_63 rfl (by decide) (fun h14 => ?_)
  refine V_aload_n (k := 4) dX11_swap_64 rfl rfl ?_
  refine V_getr (k := 146) dX11_swap_65 rfl (by decide) vf_X11_64 (by decide) (v_fin hI 133 rfl) ?_
  refine V_iload (k := 2) dX11_swap_68 rfl ?_
  refine V_iload (k := 1) dX11_swap_70 rfl ?_
  refine V_iast dX11_swap_72 rfl (by decide) (fun h15 => ?_)
  refine V_aload_n (k := 4) dX11_swap_73 rfl rfl ?_
  refine V_getr (k := 147) dX11_swap_74 rfl (by decide) vf_X11_67 (by decide) (v_fin hI 134 rfl) ?_
  refine V_iload (k := 2) dX11_swap_77 rfl ?_
  refine V_iload (k := 0) dX11_swap_79 rfl ?_
  refine V_iast dX11_swap_81 rfl (by decide) (fun h16 => ?_)
  exact V_ret (fun _ => hI) (Or.inl ⟨rfl, rfl⟩) dX11_swap_82 (fun ty x h1 h2 => by cases h1) rfl
def fX11_sink_46 (k3 : vM → Int32 → Int32 → Int32 → Option (vR × vM)) (M : vM) (x1 : Int32) (x3 : Int32) (x4 : Int32) (x5 : Int32) : Option (vR × vM) := bi (fX11_isAhead M x1 x4 x5) fun y5 M6 => if y5 = 0 then rV M6 else bv (fX11_swap M6 x1 x4 x5) fun M10 => k3 M10 x1 x3 x5
set_option maxRecDepth 20000 in
set_option maxHeartbeats 2000000 in
theorem vX11_sink_46 {l : Launch} {D : va_G} {dA : Nat → ClassId} {k3 : vM → Int32 → Int32 → Int32 → Option (vR × vM)} (hk3 : ∀ (M : vM) (x1 : Int32) (x3 : Int32) (x4 : Int32), v_WT M.2.2 → V l D dA sX11_sink false 175 2 0 0 3 [(0, .ref 130), (1, .int x1), (3, .int x3), (4, .int x4)] [] 175 M (k3 M x1 x3 x4)) : ∀ (M : vM) (x1 : Int32) (x3 : Int32) (x4 : Int32) (x5 : Int32), v_WT M.2.2 → V l D dA sX11_sink false 175 2 0 0 46 [(0, .ref 130), (1, .int x1), (3, .int x3), (4, .int x4), (5, .int x5)] [] 175 M (fX11_sink_46 k3 M x1 x3 x4 x5) := by
  intro M x1 x3 x4 x5 hI
  refine V_aload_n (k := 0) dX11_sink_46 rfl rfl ?_
  refine V_iload_n (k := 1) dX11_sink_47 rfl rfl ?_
  refine V_iload (k := 3) dX11_sink_48 rfl ?_
  refine V_iload (k := 4) dX11_sink_50 rfl ?_
  refine V_callVi (q := (RX11, TX11, 61)) (cls := 11) (st0 := []) (kc' := 0) (ks' := 0) dX11_sink_52 lk_X11_333 rfl (by decide) rfl rfl rfl (cX11_isAhead_ok M x1 x4 x5 hI) rfl rfl (by decide) (by decide) (Nat.le_of_ble_eq_true rfl) (Or.inl rfl) rfl rfl (by decide) (by decide) (fun y5 M6 e7 hI8 => ?_)
  refine V_ifne (tgt := 59) dX11_sink_55 (by decide) (fun h9 => ?_) (fun h9 => ?_)
  · refine V_aload_n (k := 0) dX11_sink_59 rfl rfl ?_
    refine V_iload_n (k := 1) dX11_sink_60 rfl rfl ?_
    refine V_iload (k := 3) dX11_sink_61 rfl ?_
    refine V_iload (k := 4) dX11_sink_63 rfl ?_
    refine V_callVv (q := (RX11, TX11, 61)) (cls := 11) (st0 := []) (kc' := 0) (ks' := 0) dX11_sink_65 lk_X11_336 rfl (by decide) rfl rfl rfl (cX11_swap_ok M6 x1 x4 x5 hI8) rfl rfl (by decide) (by decide) (Nat.le_of_ble_eq_true rfl) (Or.inl rfl) rfl rfl (by decide) (by decide) (fun  M10 e11 hI12 => ?_)
    refine V_iload (k := 4) dX11_sink_68 rfl ?_
    refine V_istore (lv' := [(4, .int x5), (0, .ref 130), (1, .int x1), (3, .int x3), (5, .int x5)]) dX11_sink_70 (by decide) rfl ?_
    refine V_goto (tgt := 3) dX11_sink_72 (by decide) ?_
    refine V_sub [1, 2, 3, 0] rfl ?_
    exact hk3 M10 x1 x3 x5 hI12
  · exact V_ret (fun _ => hI8) (Or.inl ⟨rfl, rfl⟩) dX11_sink_58 (fun ty x h1 h2 => by cases h1) rfl
def fX11_sink_3 : Nat → vM → Int32 → Int32 → Int32 → Option (vR × vM)
  | 0, _, _, _, _ => none
  | n9 + 1, M, x1, x3, x4 => if x3 ≤ ((2 * x4) + 1) then rV M else if x3 ≤ (((2 * x4) + 1) + 1) then fX11_sink_46 (fX11_sink_3 n9) M x1 x3 x4 ((2 * x4) + 1) else bi (fX11_isAhead M x1 ((2 * x4) + 1) (((2 * x4) + 1) + 1)) fun y15 M16 => if y15 = 0 then fX11_sink_46 (fX11_sink_3 n9) M16 x1 x3 x4 ((2 * x4) + 1) else fX11_sink_46 (fX11_sink_3 n9) M16 x1 x3 x4 (((2 * x4) + 1) + 1)
set_option maxRecDepth 20000 in
set_option maxHeartbeats 2000000 in
theorem vX11_sink_3 {l : Launch} {D : va_G} {dA : Nat → ClassId} : ∀ (n9 : Nat) (M : vM) (x1 : Int32) (x3 : Int32) (x4 : Int32), v_WT M.2.2 → V l D dA sX11_sink false 175 2 0 0 3 [(0, .ref 130), (1, .int x1), (3, .int x3), (4, .int x4)] [] 175 M (fX11_sink_3 n9 M x1 x3 x4) := by
  intro n9
  induction n9 with
  | zero => intros; exact V_none
  | succ n9 ih =>
    intro M x1 x3 x4 hI
    refine V_iconst (v := 2) dX11_sink_3 rfl ?_
    refine V_iload (k := 3) dX11_sink_4 rfl ?_
    refine V_imul dX11_sink_6 ?_
    refine V_iconst (v := 1) dX11_sink_7 rfl ?_
    refine V_iadd dX11_sink_8 ?_
    refine V_iload_n (k := 2) dX11_sink_9 rfl rfl ?_
    refine V_icmpge (tgt := 75) dX11_sink_10 (by decide) (fun h13 => ?_) (fun h13 => ?_)
    · exact V_ret (fun _ => hI) (Or.inl ⟨rfl, rfl⟩) dX11_sink_75 (fun ty x h1 h2 => by cases h1) rfl
    · refine V_iconst (v := 2) dX11_sink_13 rfl ?_
      refine V_iload (k := 3) dX11_sink_14 rfl ?_
      refine V_imul dX11_sink_16 ?_
      refine V_iconst (v := 1) dX11_sink_17 rfl ?_
      refine V_iadd dX11_sink_18 ?_
      refine V_istore (lv' := [(5, .int ((2 * x4) + 1)), (0, .ref 130), (1, .int x1), (3, .int x3), (4, .int x4)]) dX11_sink_19 (by decide) rfl ?_
      refine V_iload (k := 0) dX11_sink_21 rfl ?_
      refine V_iconst (v := 1) dX11_sink_23 rfl ?_
      refine V_iadd dX11_sink_24 ?_
      refine V_iload_n (k := 3) dX11_sink_25 rfl rfl ?_
      refine V_icmpge (tgt := 46) dX11_sink_26 (by decide) (fun h14 => ?_) (fun h14 => ?_)
      · refine V_sub [1, 2, 3, 4, 0] rfl ?_
        exact vX11_sink_46 (ih) M x1 x3 x4 ((2 * x4) + 1) hI
      · refine V_aload_n (k := 1) dX11_sink_29 rfl rfl ?_
        refine V_iload_n (k := 2) dX11_sink_30 rfl rfl ?_
        refine V_iload (k := 0) dX11_sink_31 rfl ?_
        refine V_iload (k := 0) dX11_sink_33 rfl ?_
        refine V_iconst (v := 1) dX11_sink_35 rfl ?_
        refine V_iadd dX11_sink_36 ?_
        refine V_callVi (q := (RX11, TX11, 61)) (cls := 11) (st0 := []) (kc' := 0) (ks' := 0) dX11_sink_37 lk_X11_333 rfl (by decide) rfl rfl rfl (cX11_isAhead_ok M x1 ((2 * x4) + 1) (((2 * x4) + 1) + 1) hI) rfl rfl (by decide) (by decide) (Nat.le_of_ble_eq_true rfl) (Or.inl rfl) rfl rfl (by decide) (by decide) (fun y15 M16 e17 hI18 => ?_)
        refine V_ifeq (tgt := 46) dX11_sink_40 (by decide) (fun h19 => ?_) (fun h19 => ?_)
        · refine V_sub [1, 2, 3, 4, 0] rfl ?_
          exact vX11_sink_46 (ih) M16 x1 x3 x4 ((2 * x4) + 1) hI18
        · refine V_iinc (k := 0) (v := ((2 * x4) + 1) + 1) (lv' := [(5, .int (((2 * x4) + 1) + 1)), (0, .ref 130), (1, .int x1), (3, .int x3), (4, .int x4)]) dX11_sink_43 rfl rfl (by decide) rfl ?_
          refine V_sub [1, 2, 3, 4, 0] rfl ?_
          exact vX11_sink_46 (ih) M16 x1 x3 x4 (((2 * x4) + 1) + 1) hI18
def fX11_sink (M : vM) (x1 : Int32) (x2 : Int32) (x3 : Int32) : Option (vR × vM) := fX11_sink_3 FU M x1 x3 x2
set_option maxRecDepth 20000 in
set_option maxHeartbeats 2000000 in
theorem cX11_sink_ok {l : Launch} {D : va_G} {dA : Nat → ClassId} (M : vM) (x1 : Int32) (x2 : Int32) (x3 : Int32) (hI : v_WT M.2.2) : Ct l D dA sX11_sink false 175 2 0 0 175 [.ref 130, .int x1, .int x2, .int x3] M (fX11_sink M x1 x2 x3) := by
  refine Ct_of (lv := [(0, .ref 130), (1, .int x1), (2, .int x2), (3, .int x3)]) (by decide +kernel) rfl (Nat.le_of_ble_eq_true rfl) rfl (fun h => by cases h) ?_
  refine V_iload_n (k := 2) dX11_sink_0 rfl rfl ?_
  refine V_istore (lv' := [(4, .int x2), (0, .ref 130), (1, .int x1), (2, .int x2), (3, .int x3)]) dX11_sink_1 (by decide) rfl ?_
  refine V_sub [1, 2, 4, 0] rfl ?_
  exact vX11_sink_3 FU M x1 x3 x2 hI
def fX11_sort_40 : Nat → vM → Int32 → Int32 → Option (vR × vM)
  | 0, _, _, _ => none
  | n9 + 1, M, x1, x2 => if x2 ≤ 0 then rV M else bv (fX11_swap M x1 0 x2) fun M7 => bv (fX11_sink M7 x1 0 x2) fun M10 => fX11_sort_40 n9 M10 x1 (x2 + (-1))
set_option maxRecDepth 20000 in
set_option maxHeartbeats 2000000 in
theorem vX11_sort_40 {l : Launch} {D : va_G} {dA : Nat → ClassId} : ∀ (n9 : Nat) (M : vM) (x1 : Int32) (x2 : Int32), v_WT M.2.2 → V l D dA sX11_sort false 175 3 0 0 40 [(0, .ref 130), (1, .int x1), (2, .int x2)] [] 175 M (fX11_sort_40 n9 M x1 x2) := by
  intro n9
  induction n9 with
  | zero => intros; exact V_none
  | succ n9 ih =>
    intro M x1 x2 hI
    refine V_iload_n (k := 2) dX11_sort_40 rfl rfl ?_
    refine V_ifle (tgt := 64) dX11_sort_41 (by decide) (fun h6 => ?_) (fun h6 => ?_)
    · exact V_ret (fun _ => hI) (Or.inl ⟨rfl, rfl⟩) dX11_sort_64 (fun ty x h1 h2 => by cases h1) rfl
    · refine V_aload_n (k := 0) dX11_sort_44 rfl rfl ?_
      refine V_iload_n (k := 1) dX11_sort_45 rfl rfl ?_
      refine V_iconst (v := 0) dX11_sort_46 rfl ?_
      refine V_iload_n (k := 2) dX11_sort_47 rfl rfl ?_
      refine V_callVv (q := (RX11, TX11, 61)) (cls := 11) (st0 := []) (kc' := 0) (ks' := 0) dX11_sort_48 lk_X11_336 rfl (by decide) rfl rfl rfl (cX11_swap_ok M x1 0 x2 hI) rfl rfl (by decide) (by decide) (Nat.le_of_ble_eq_true rfl) (Or.inl rfl) rfl rfl (by decide) (by decide) (fun  M7 e8 hI9 => ?_)
      refine V_aload_n (k := 0) dX11_sort_51 rfl rfl ?_
      refine V_iload_n (k := 1) dX11_sort_52 rfl rfl ?_
      refine V_iconst (v := 0) dX11_sort_53 rfl ?_
      refine V_iload_n (k := 2) dX11_sort_54 rfl rfl ?_
      refine V_callVv (q := (RX11, TX11, 61)) (cls := 11) (st0 := []) (kc' := 0) (ks' := 0) dX11_sort_55 lk_X11_339 rfl (by decide) rfl rfl rfl (cX11_sink_ok M7 x1 0 x2 hI9) rfl rfl (by decide) (by decide) (Nat.le_of_ble_eq_true rfl) (Or.inl rfl) rfl rfl (by decide) (by decide) (fun  M10 e11 hI12 => ?_)
      refine V_iinc (k := 2) (v := x2 + (-1)) (lv' := [(2, .int (x2 + (-1))), (0, .ref 130), (1, .int x1)]) dX11_sort_58 rfl rfl (by decide) rfl ?_
      refine V_goto (tgt := 40) dX11_sort_61 (by decide) ?_
      refine V_sub [1, 2, 0] rfl ?_
      exact ih M10 x1 (x2 + (-1)) hI12
def fX11_sort_9 : Nat → vM → Int32 → Int32 → Option (vR × vM)
  | 0, _, _, _ => none
  | n9 + 1, M, x1, x2 => if x2 < 0 then if v_in x1 6 = true then fX11_sort_40 FU M x1 ((M.1 145 (Int32.toNatClampNeg x1)) - 1) else none else if v_in x1 6 = true then bv (fX11_sink M x1 x2 (M.1 145 (Int32.toNatClampNeg x1))) fun M16 => fX11_sort_9 n9 M16 x1 (x2 + (-1)) else none
set_option maxRecDepth 20000 in
set_option maxHeartbeats 2000000 in
theorem vX11_sort_9 {l : Launch} {D : va_G} {dA : Nat → ClassId} : ∀ (n9 : Nat) (M : vM) (x1 : Int32) (x2 : Int32), v_WT M.2.2 → V l D dA sX11_sort false 175 3 0 0 9 [(0, .ref 130), (1, .int x1), (2, .int x2)] [] 175 M (fX11_sort_9 n9 M x1 x2) := by
  intro n9
  induction n9 with
  | zero => intros; exact V_none
  | succ n9 ih =>
    intro M x1 x2 hI
    refine V_iload_n (k := 2) dX11_sort_9 rfl rfl ?_
    refine V_iflt (tgt := 31) dX11_sort_10 (by decide) (fun h13 => ?_) (fun h13 => ?_)
    · refine V_aload_n (k := 0) dX11_sort_31 rfl rfl ?_
      refine V_getr (k := 145) dX11_sort_32 rfl (by decide) vf_X11_61 (by decide) (v_fin hI 132 rfl) ?_
      refine V_iload_n (k := 1) dX11_sort_35 rfl rfl ?_
      refine V_iald dX11_sort_36 rfl (by decide) (fun h14 => ?_)
      refine V_iconst (v := 1) dX11_sort_37 rfl ?_
      refine V_isub dX11_sort_38 ?_
      refine V_istore_n (lv' := [(2, .int ((M.1 145 (Int32.toNatClampNeg x1)) - 1)), (0, .ref 130), (1, .int x1)]) dX11_sort_39 rfl (by decide) rfl ?_
      refine V_sub [1, 2, 0] rfl ?_
      exact vX11_sort_40 FU M x1 ((M.1 145 (Int32.toNatClampNeg x1)) - 1) hI
    · refine V_aload_n (k := 0) dX11_sort_13 rfl rfl ?_
      refine V_iload_n (k := 1) dX11_sort_14 rfl rfl ?_
      refine V_iload_n (k := 2) dX11_sort_15 rfl rfl ?_
      refine V_aload_n (k := 0) dX11_sort_16 rfl rfl ?_
      refine V_getr (k := 145) dX11_sort_17 rfl (by decide) vf_X11_61 (by decide) (v_fin hI 132 rfl) ?_
      refine V_iload_n (k := 1) dX11_sort_20 rfl rfl ?_
      refine V_iald dX11_sort_21 rfl (by decide) (fun h15 => ?_)
      refine V_callVv (q := (RX11, TX11, 61)) (cls := 11) (st0 := []) (kc' := 0) (ks' := 0) dX11_sort_22 lk_X11_339 rfl (by decide) rfl rfl rfl (cX11_sink_ok M x1 x2 (M.1 145 (Int32.toNatClampNeg x1)) hI) rfl rfl (by decide) (by decide) (Nat.le_of_ble_eq_true rfl) (Or.inl rfl) rfl rfl (by decide) (by decide) (fun  M16 e17 hI18 => ?_)
      refine V_iinc (k := 2) (v := x2 + (-1)) (lv' := [(2, .int (x2 + (-1))), (0, .ref 130), (1, .int x1)]) dX11_sort_25 rfl rfl (by decide) rfl ?_
      refine V_goto (tgt := 9) dX11_sort_28 (by decide) ?_
      refine V_sub [1, 2, 0] rfl ?_
      exact ih M16 x1 (x2 + (-1)) hI18
def fX11_sort (M : vM) (x1 : Int32) : Option (vR × vM) := if v_in x1 6 = true then fX11_sort_9 FU M x1 ((M.1 145 (Int32.toNatClampNeg x1)) / 2) else none
set_option maxRecDepth 20000 in
set_option maxHeartbeats 2000000 in
theorem cX11_sort_ok {l : Launch} {D : va_G} {dA : Nat → ClassId} (M : vM) (x1 : Int32) (hI : v_WT M.2.2) : Ct l D dA sX11_sort false 175 3 0 0 175 [.ref 130, .int x1] M (fX11_sort M x1) := by
  refine Ct_of (lv := [(0, .ref 130), (1, .int x1)]) (by decide +kernel) rfl (Nat.le_of_ble_eq_true rfl) rfl (fun h => by cases h) ?_
  refine V_aload_n (k := 0) dX11_sort_0 rfl rfl ?_
  refine V_getr (k := 145) dX11_sort_1 rfl (by decide) vf_X11_61 (by decide) (v_fin hI 132 rfl) ?_
  refine V_iload_n (k := 1) dX11_sort_4 rfl rfl ?_
  refine V_iald dX11_sort_5 rfl (by decide) (fun h19 => ?_)
  refine V_iconst (v := 2) dX11_sort_6 rfl ?_
  refine V_idiv dX11_sort_7 (by decide) ?_
  refine V_istore_n (lv' := [(2, .int ((M.1 145 (Int32.toNatClampNeg x1)) / 2)), (0, .ref 130), (1, .int x1)]) dX11_sort_8 rfl (by decide) rfl ?_
  refine V_sub [1, 2, 0] rfl ?_
  exact vX11_sort_9 FU M x1 ((M.1 145 (Int32.toNatClampNeg x1)) / 2) hI
