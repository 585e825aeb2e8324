def fX11_image (M : vM) : Option (vR × vM) := bv (fX11_be (v_si (v_si (v_si M 130 1 0) 130 51 1) 130 52 ((v_si (v_si M 130 1 0) 130 51 1).1 130 21)) 166 149) fun M1 => bv (fX11_be M1 167 150) fun M4 => bv (fX11_be M4 168 151) fun M7 => bv (fX11_be M7 169 152) fun M10 => bv (fX11_be M10 170 153) fun M13 => bv (fX11_be M13 171 154) fun M16 => bv (fX11_be M16 172 155) fun M19 => bv (fX11_be M19 173 156) fun M22 => rV M22
set_option maxRecDepth 20000 in
set_option maxHeartbeats 2000000 in
theorem cX11_image_ok {l : Launch} {D : va_G} {dA : Nat → ClassId} (M : vM) (hI : v_WT M.2.2) : Ct l D dA sX11_image false 175 2 0 0 175 [.ref 130] M (fX11_image M) := by
  refine Ct_of (lv := [(0, .ref 130)]) (by decide +kernel) rfl (Nat.le_of_ble_eq_true rfl) rfl (fun h => by cases h) ?_
  refine V_aload_n (k := 0) dX11_image_0 rfl rfl ?_
  refine V_iconst (v := 0) dX11_image_1 rfl ?_
  refine V_puti dX11_image_2 rfl (by decide) vf_X11_154 (by decide) rfl rfl ?_
  refine V_aload_n (k := 0) dX11_image_5 rfl rfl ?_
  refine V_iconst (v := 1) dX11_image_6 rfl ?_
  refine V_puti dX11_image_7 rfl (by decide) vf_X11_299 (by decide) rfl rfl ?_
  refine V_aload_n (k := 0) dX11_image_10 rfl rfl ?_
  refine V_aload_n (k := 0) dX11_image_11 rfl rfl ?_
  refine V_geti dX11_image_12 rfl (by decide) vf_X11_293 (by decide) ?_
  refine V_puti dX11_image_15 rfl (by decide) vf_X11_419 (by decide) rfl rfl ?_
  refine V_aload_n (k := 0) dX11_image_18 rfl rfl ?_
  refine V_getr (k := 166) dX11_image_19 rfl (by decide) vf_X11_130 (by decide) (v_fin hI 153 rfl) ?_
  refine V_aload_n (k := 0) dX11_image_22 rfl rfl ?_
  refine V_getr (k := 149) dX11_image_23 rfl (by decide) vf_X11_74 (by decide) (v_fin hI 136 rfl) ?_
  refine V_callSv (st0 := []) (kc' := 0) (ks' := 0) dX11_image_26 lk_X11_422 rfl (cX11_be_ok (v_si (v_si (v_si M 130 1 0) 130 51 1) 130 52 ((v_si (v_si M 130 1 0) 130 51 1).1 130 21)) 166 149 (v_isA_of (by decide) rfl) (v_isA_of (by decide) rfl) hI) rfl rfl (by decide) (by decide) (Nat.le_of_ble_eq_true rfl) (Or.inl rfl) rfl rfl (by decide) (by decide) (fun  M1 e2 hI3 => ?_)
  refine V_aload_n (k := 0) dX11_image_29 rfl rfl ?_
  refine V_getr (k := 167) dX11_image_30 rfl (by decide) vf_X11_133 (by decide) (v_fin hI3 154 rfl) ?_
  refine V_aload_n (k := 0) dX11_image_33 rfl rfl ?_
  refine V_getr (k := 150) dX11_image_34 rfl (by decide) vf_X11_77 (by decide) (v_fin hI3 137 rfl) ?_
  refine V_callSv (st0 := []) (kc' := 0) (ks' := 0) dX11_image_37 lk_X11_422 rfl (cX11_be_ok M1 167 150 (v_isA_of (by decide) rfl) (v_isA_of (by decide) rfl) hI3) rfl rfl (by decide) (by decide) (Nat.le_of_ble_eq_true rfl) (Or.inl rfl) rfl rfl (by decide) (by decide) (fun  M4 e5 hI6 => ?_)
  refine V_aload_n (k := 0) dX11_image_40 rfl rfl ?_
  refine V_getr (k := 168) dX11_image_41 rfl (by decide) vf_X11_136 (by decide) (v_fin hI6 155 rfl) ?_
  refine V_aload_n (k := 0) dX11_image_44 rfl rfl ?_
  refine V_getr (k := 151) dX11_image_45 rfl (by decide) vf_X11_80 (by decide) (v_fin hI6 138 rfl) ?_
  refine V_callSv (st0 := []) (kc' := 0) (ks' := 0) dX11_image_48 lk_X11_422 rfl (cX11_be_ok M4 168 151 (v_isA_of (by decide) rfl) (v_isA_of (by decide) rfl) hI6) rfl rfl (by decide) (by decide) (Nat.le_of_ble_eq_true rfl) (Or.inl rfl) rfl rfl (by decide) (by decide) (fun  M7 e8 hI9 => ?_)
  refine V_aload_n (k := 0) dX11_image_51 rfl rfl ?_
  refine V_getr (k := 169) dX11_image_52 rfl (by decide) vf_X11_139 (by decide) (v_fin hI9 156 rfl) ?_
  refine V_aload_n (k := 0) dX11_image_55 rfl rfl ?_
  refine V_getr (k := 152) dX11_image_56 rfl (by decide) vf_X11_83 (by decide) (v_fin hI9 139 rfl) ?_
  refine V_callSv (st0 := []) (kc' := 0) (ks' := 0) dX11_image_59 lk_X11_422 rfl (cX11_be_ok M7 169 152 (v_isA_of (by decide) rfl) (v_isA_of (by decide) rfl) hI9) rfl rfl (by decide) (by decide) (Nat.le_of_ble_eq_true rfl) (Or.inl rfl) rfl rfl (by decide) (by decide) (fun  M10 e11 hI12 => ?_)
  refine V_aload_n (k := 0) dX11_image_62 rfl rfl ?_
  refine V_getr (k := 170) dX11_image_63 rfl (by decide) vf_X11_142 (by decide) (v_fin hI12 157 rfl) ?_
  refine V_aload_n (k := 0) dX11_image_66 rfl rfl ?_
  refine V_getr (k := 153) dX11_image_67 rfl (by decide) vf_X11_86 (by decide) (v_fin hI12 140 rfl) ?_
  refine V_callSv (st0 := []) (kc' := 0) (ks' := 0) dX11_image_70 lk_X11_422 rfl (cX11_be_ok M10 170 153 (v_isA_of (by decide) rfl) (v_isA_of (by decide) rfl) hI12) rfl rfl (by decide) (by decide) (Nat.le_of_ble_eq_true rfl) (Or.inl rfl) rfl rfl (by decide) (by decide) (fun  M13 e14 hI15 => ?_)
  refine V_aload_n (k := 0) dX11_image_73 rfl rfl ?_
  refine V_getr (k := 171) dX11_image_74 rfl (by decide) vf_X11_145 (by decide) (v_fin hI15 158 rfl) ?_
  refine V_aload_n (k := 0) dX11_image_77 rfl rfl ?_
  refine V_getr (k := 154) dX11_image_78 rfl (by decide) vf_X11_89 (by decide) (v_fin hI15 141 rfl) ?_
  refine V_callSv (st0 := []) (kc' := 0) (ks' := 0) dX11_image_81 lk_X11_422 rfl (cX11_be_ok M13 171 154 (v_isA_of (by decide) rfl) (v_isA_of (by decide) rfl) hI15) rfl rfl (by decide) (by decide) (Nat.le_of_ble_eq_true rfl) (Or.inl rfl) rfl rfl (by decide) (by decide) (fun  M16 e17 hI18 => ?_)
  refine V_aload_n (k := 0) dX11_image_84 rfl rfl ?_
  refine V_getr (k := 172) dX11_image_85 rfl (by decide) vf_X11_148 (by decide) (v_fin hI18 159 rfl) ?_
  refine V_aload_n (k := 0) dX11_image_88 rfl rfl ?_
  refine V_getr (k := 155) dX11_image_89 rfl (by decide) vf_X11_92 (by decide) (v_fin hI18 142 rfl) ?_
  refine V_callSv (st0 := []) (kc' := 0) (ks' := 0) dX11_image_92 lk_X11_422 rfl (cX11_be_ok M16 172 155 (v_isA_of (by decide) rfl) (v_isA_of (by decide) rfl) hI18) rfl rfl (by decide) (by decide) (Nat.le_of_ble_eq_true rfl) (Or.inl rfl) rfl rfl (by decide) (by decide) (fun  M19 e20 hI21 => ?_)
  refine V_aload_n (k := 0) dX11_image_95 rfl rfl ?_
  refine V_getr (k := 173) dX11_image_96 rfl (by decide) vf_X11_151 (by decide) (v_fin hI21 160 rfl) ?_
  refine V_aload_n (k := 0) dX11_image_99 rfl rfl ?_
  refine V_getr (k := 156) dX11_image_100 rfl (by decide) vf_X11_95 (by decide) (v_fin hI21 143 rfl) ?_
  refine V_callSv (st0 := []) (kc' := 0) (ks' := 0) dX11_image_103 lk_X11_422 rfl (cX11_be_ok M19 173 156 (v_isA_of (by decide) rfl) (v_isA_of (by decide) rfl) hI21) rfl rfl (by decide) (by decide) (Nat.le_of_ble_eq_true rfl) (Or.inl rfl) rfl rfl (by decide) (by decide) (fun  M22 e23 hI24 => ?_)
  exact V_ret (fun _ => hI24) (Or.inl ⟨rfl, rfl⟩) dX11_image_106 (fun ty x h1 h2 => by cases h1) rfl
def fX11_is_39 : Nat → vM → Nat → Int32 → Int32 → Option (vR × vM)
  | 0, _, _, _, _ => none
  | n9 + 1, M, x1, x2, x3 => if x2 = 0 then if v_nz x2 = x2 then rI x2 M else none else bi (fJ0_length_8abf5 M x1) fun y9 M10 => if y9 ≤ x3 then if v_nz x2 = x2 then rI x2 M10 else none else bi (fJ0_charAt_5068e M10 x1 x3) fun y14 M15 => if v_in ((M15.1 130 36) + x3) 700 = true then if y14 = (M15.1 157 (Int32.toNatClampNeg ((M15.1 130 36) + x3))) then fX11_is_39 n9 M15 x1 1 (x3 + 1) else fX11_is_39 n9 M15 x1 0 (x3 + 1) else none
set_option maxRecDepth 20000 in
set_option maxHeartbeats 2000000 in
theorem vX11_is_39 {l : Launch} {D : va_G} {dA : Nat → ClassId} : ∀ (n9 : Nat) (M : vM) (x1 : Nat) (x2 : Int32) (x3 : Int32) (f1 : x1 < v_nS), v_WT M.2.2 → V l D dA sX11_is false 175 5 0 0 39 [(0, .ref 130), (1, .ref (1000 + x1)), (2, .int x2), (3, .int x3)] [] 175 M (fX11_is_39 n9 M x1 x2 x3) := by
  intro n9
  induction n9 with
  | zero => intros; exact V_none
  | succ n9 ih =>
    intro M x1 x2 x3 f1 hI
    refine V_iload_n (k := 2) dX11_is_39 rfl rfl ?_
    refine V_ifeq (tgt := 82) dX11_is_40 (by decide) (fun h8 => ?_) (fun h8 => ?_)
    · refine V_iload_n (k := 2) dX11_is_82 rfl rfl ?_
      exact V_retz (fun _ => hI) rfl dX11_is_83
    · refine V_iload_n (k := 3) dX11_is_43 rfl rfl ?_
      refine V_aload_n (k := 1) dX11_is_44 rfl rfl ?_
      refine V_callVsi (i := x1) (st0 := [.int x3]) (kc' := 0) (ks' := 0) dX11_is_45 lk_X11_212 rfl f1 rfl (cJ0_length_8abf5_ok M x1 f1 hI) rfl rfl (by decide) (by decide) (Nat.le_of_ble_eq_true rfl) (Or.inl rfl) rfl rfl (by decide) (by decide) (fun y9 M10 e11 hI12 => ?_)
      refine V_icmpge (tgt := 82) dX11_is_48 (by decide) (fun h13 => ?_) (fun h13 => ?_)
      · refine V_iload_n (k := 2) dX11_is_82 rfl rfl ?_
        exact V_retz (fun _ => hI12) rfl dX11_is_83
      · refine V_aload_n (k := 1) dX11_is_51 rfl rfl ?_
        refine V_iload_n (k := 3) dX11_is_52 rfl rfl ?_
        refine V_callVsi (i := x1) (st0 := []) (kc' := 0) (ks' := 0) dX11_is_53 lk_X11_215 rfl f1 rfl (cJ0_charAt_5068e_ok M10 x1 x3 f1 hI12) rfl rfl (by decide) (by decide) (Nat.le_of_ble_eq_true rfl) (Or.inl rfl) rfl rfl (by decide) (by decide) (fun y14 M15 e16 hI17 => ?_)
        refine V_aload_n (k := 0) dX11_is_56 rfl rfl ?_
        refine V_getr (k := 157) dX11_is_57 rfl (by decide) vf_X11_98 (by decide) (v_fin hI17 144 rfl) ?_
        refine V_aload_n (k := 0) dX11_is_60 rfl rfl ?_
        refine V_geti dX11_is_61 rfl (by decide) vf_X11_181 (by decide) ?_
        refine V_iload_n (k := 3) dX11_is_64 rfl rfl ?_
        refine V_iadd dX11_is_65 ?_
        refine V_iald dX11_is_66 rfl (by decide) (fun h18 => ?_)
        refine V_icmpne (tgt := 74) dX11_is_67 (by decide) (fun h19 => ?_) (fun h19 => ?_)
        · refine V_iconst (v := 0) dX11_is_74 rfl ?_
          refine V_istore_n (lv' := [(2, .int 0), (0, .ref 130), (1, .ref (1000 + x1)), (3, .int x3)]) dX11_is_75 rfl (by decide) rfl ?_
          refine V_iinc (k := 3) (v := x3 + 1) (lv' := [(3, .int (x3 + 1)), (2, .int 0), (0, .ref 130), (1, .ref (1000 + x1))]) dX11_is_76 rfl rfl (by decide) rfl ?_
          refine V_goto (tgt := 39) dX11_is_79 (by decide) ?_
          refine V_sub [2, 3, 1, 0] rfl ?_
          exact ih M15 x1 0 (x3 + 1) f1 hI17
        · refine V_iconst (v := 1) dX11_is_70 rfl ?_
          refine V_goto (tgt := 75) dX11_is_71 (by decide) ?_
          refine V_istore_n (lv' := [(2, .int 1), (0, .ref 130), (1, .ref (1000 + x1)), (3, .int x3)]) dX11_is_75 rfl (by decide) rfl ?_
          refine V_iinc (k := 3) (v := x3 + 1) (lv' := [(3, .int (x3 + 1)), (2, .int 1), (0, .ref 130), (1, .ref (1000 + x1))]) dX11_is_76 rfl rfl (by decide) rfl ?_
          refine V_goto (tgt := 39) dX11_is_79 (by decide) ?_
          refine V_sub [2, 3, 1, 0] rfl ?_
          exact ih M15 x1 1 (x3 + 1) f1 hI17
def fX11_is (M : vM) (x1 : Nat) : Option (vR × vM) := if (M.1 130 38) = 0 then if (M.1 130 34) = 1 then bi (fJ0_length_8abf5 M x1) fun y22 M23 => if y22 = ((M23.1 130 37) - (M23.1 130 36)) then fX11_is_39 FU M23 x1 1 0 else fX11_is_39 FU M23 x1 0 0 else fX11_is_39 FU M x1 0 0 else fX11_is_39 FU M x1 0 0
set_option maxRecDepth 20000 in
set_option maxHeartbeats 2000000 in
theorem cX11_is_ok {l : Launch} {D : va_G} {dA : Nat → ClassId} (M : vM) (x1 : Nat) (f1 : x1 < v_nS) (hI : v_WT M.2.2) : Ct l D dA sX11_is false 175 5 0 0 175 [.ref 130, .ref (1000 + x1)] M (fX11_is M x1) := by
  refine Ct_of (lv := [(0, .ref 130), (1, .ref (1000 + x1))]) (by decide +kernel) rfl (Nat.le_of_ble_eq_true rfl) rfl (fun h => by cases h) ?_
  refine V_aload_n (k := 0) dX11_is_0 rfl rfl ?_
  refine V_geti dX11_is_1 rfl (by decide) vf_X11_206 (by decide) ?_
  refine V_ifne (tgt := 35) dX11_is_4 (by decide) (fun h20 => ?_) (fun h20 => ?_)
  · refine V_iconst (v := 0) dX11_is_35 rfl ?_
    refine V_istore_n (lv' := [(2, .int 0), (0, .ref 130), (1, .ref (1000 + x1))]) dX11_is_36 rfl (by decide) rfl ?_
    refine V_iconst (v := 0) dX11_is_37 rfl ?_
    refine V_istore_n (lv' := [(3, .int 0), (2, .int 0), (0, .ref 130), (1, .ref (1000 + x1))]) dX11_is_38 rfl (by decide) rfl ?_
    refine V_sub [2, 3, 1, 0] rfl ?_
    exact vX11_is_39 FU M x1 0 0 f1 hI
  · refine V_aload_n (k := 0) dX11_is_7 rfl rfl ?_
    refine V_geti dX11_is_8 rfl (by decide) vf_X11_184 (by decide) ?_
    refine V_iconst (v := 1) dX11_is_11 rfl ?_
    refine V_icmpne (tgt := 35) dX11_is_12 (by decide) (fun h21 => ?_) (fun h21 => ?_)
    · refine V_iconst (v := 0) dX11_is_35 rfl ?_
      refine V_istore_n (lv' := [(2, .int 0), (0, .ref 130), (1, .ref (1000 + x1))]) dX11_is_36 rfl (by decide) rfl ?_
      refine V_iconst (v := 0) dX11_is_37 rfl ?_
      refine V_istore_n (lv' := [(3, .int 0), (2, .int 0), (0, .ref 130), (1, .ref (1000 + x1))]) dX11_is_38 rfl (by decide) rfl ?_
      refine V_sub [2, 3, 1, 0] rfl ?_
      exact vX11_is_39 FU M x1 0 0 f1 hI
    · refine V_aload_n (k := 1) dX11_is_15 rfl rfl ?_
      refine V_callVsi (i := x1) (st0 := []) (kc' := 0) (ks' := 0) dX11_is_16 lk_X11_212 rfl f1 rfl (cJ0_length_8abf5_ok M x1 f1 hI) rfl rfl (by decide) (by decide) (Nat.le_of_ble_eq_true rfl) (Or.inl rfl) rfl rfl (by decide) (by decide) (fun y22 M23 e24 hI25 => ?_)
      refine V_aload_n (k := 0) dX11_is_19 rfl rfl ?_
      refine V_geti dX11_is_20 rfl (by decide) vf_X11_203 (by decide) ?_
      refine V_aload_n (k := 0) dX11_is_23 rfl rfl ?_
      refine V_geti dX11_is_24 rfl (by decide) vf_X11_181 (by decide) ?_
      refine V_isub dX11_is_27 ?_
      refine V_icmpne (tgt := 35) dX11_is_28 (by decide) (fun h26 => ?_) (fun h26 => ?_)
      · refine V_iconst (v := 0) dX11_is_35 rfl ?_
        refine V_istore_n (lv' := [(2, .int 0), (0, .ref 130), (1, .ref (1000 + x1))]) dX11_is_36 rfl (by decide) rfl ?_
        refine V_iconst (v := 0) dX11_is_37 rfl ?_
        refine V_istore_n (lv' := [(3, .int 0), (2, .int 0), (0, .ref 130), (1, .ref (1000 + x1))]) dX11_is_38 rfl (by decide) rfl ?_
        refine V_sub [2, 3, 1, 0] rfl ?_
        exact vX11_is_39 FU M23 x1 0 0 f1 hI25
      · refine V_iconst (v := 1) dX11_is_31 rfl ?_
        refine V_goto (tgt := 36) dX11_is_32 (by decide) ?_
        refine V_istore_n (lv' := [(2, .int 1), (0, .ref 130), (1, .ref (1000 + x1))]) dX11_is_36 rfl (by decide) rfl ?_
        refine V_iconst (v := 0) dX11_is_37 rfl ?_
        refine V_istore_n (lv' := [(3, .int 0), (2, .int 1), (0, .ref 130), (1, .ref (1000 + x1))]) dX11_is_38 rfl (by decide) rfl ?_
        refine V_sub [2, 3, 1, 0] rfl ?_
        exact vX11_is_39 FU M23 x1 1 0 f1 hI25
def fX11_isAhead (M : vM) (x1 : Int32) (x2 : Int32) (x3 : Int32) : Option (vR × vM) := if v_in ((2000 * x1) + x2) 12000 = true then if v_in ((2000 * x1) + x3) 12000 = true then if (M.1 146 (Int32.toNatClampNeg ((2000 * x1) + x2))) = (M.1 146 (Int32.toNatClampNeg ((2000 * x1) + x3))) then if v_in ((2000 * x1) + x2) 12000 = true then if v_in ((2000 * x1) + x3) 12000 = true then if (M.1 147 (Int32.toNatClampNeg ((2000 * x1) + x3))) ≤ (M.1 147 (Int32.toNatClampNeg ((2000 * x1) + x2))) then rI 0 M else rI 1 M else none else none else if v_in ((2000 * x1) + x2) 12000 = true then if v_in ((2000 * x1) + x3) 12000 = true then if (M.1 146 (Int32.toNatClampNeg ((2000 * x1) + x3))) ≤ (M.1 146 (Int32.toNatClampNeg ((2000 * x1) + x2))) then rI 0 M else rI 1 M else none else none else none else none
set_option maxRecDepth 20000 in
set_option maxHeartbeats 2000000 in
theorem cX11_isAhead_ok {l : Launch} {D : va_G} {dA : Nat → ClassId} (M : vM) (x1 : Int32) (x2 : Int32) (x3 : Int32) (hI : v_WT M.2.2) : Ct l D dA sX11_isAhead false 175 1 0 0 175 [.ref 130, .int x1, .int x2, .int x3] M (fX11_isAhead M x1 x2 x3) := by
  refine Ct_of (lv := [(0, .ref 130), (1, .int x1), (2, .int x2), (3, .int x3)]) (by decide +kernel) rfl (Nat.le_of_ble_eq_true rfl) rfl (fun h => by cases h) ?_
  refine V_sipush (v := 2000) dX11_isAhead_0 rfl ?_
  refine V_iload_n (k := 1) dX11_isAhead_3 rfl rfl ?_
  refine V_imul dX11_isAhead_4 ?_
  refine V_iload_n (k := 2) dX11_isAhead_5 rfl rfl ?_
  refine V_iadd dX11_isAhead_6 ?_
  refine V_istore (lv' := [(4, .int ((2000 * x1) + x2)), (0, .ref 130), (1, .int x1), (2, .int x2), (3, .int x3)]) dX11_isAhead_7 (by decide) rfl ?_
  refine V_sipush (v := 2000) dX11_isAhead_9 rfl ?_
  refine V_iload_n (k := 2) dX11_isAhead_12 rfl rfl ?_
  refine V_imul dX11_isAhead_13 ?_
  refine V_iload_n (k := 4) dX11_isAhead_14 rfl rfl ?_
  refine V_iadd dX11_isAhead_15 ?_
  refine V_istore (lv' := [(5, .int ((2000 * x1) + x3)), (4, .int ((2000 * x1) + x2)), (0, .ref 130), (1, .int x1), (2, .int x2), (3, .int x3)]) dX11_isAhead_16 (by decide) rfl ?_
  refine V_aload_n (k := 2) dX11_isAhead_18 rfl rfl ?_
  refine V_getr (k := 146) dX11_isAhead_19 rfl (by decide) vf_X11_64 (by decide) (v_fin hI 133 rfl) ?_
  refine V_iload (k := 1) dX11_isAhead_22 rfl ?_
  refine V_iald dX11_isAhead_24 rfl (by decide) (fun h10 => ?_)
  refine V_aload_n (k := 2) dX11_isAhead_25 rfl rfl ?_
  refine V_getr (k := 146) dX11_isAhead_26 rfl (by decide) vf_X11_64 (by decide) (v_fin hI 133 rfl) ?_
  refine V_iload (k := 0) dX11_isAhead_29 rfl ?_
  refine V_iald dX11_isAhead_31 rfl (by decide) (fun h11 => ?_)
  refine V_icmpeq (tgt := 60) dX11_isAhead_32 (by decide) (fun h12 => ?_) (fun h12 => ?_)
  · refine V_aload_n (k := 2) dX11_isAhead_60 rfl rfl ?_
    refine V_getr (k := 147) dX11_isAhead_61 rfl (by decide) vf_X11_67 (by decide) (v_fin hI 134 rfl) ?_
    refine V_iload (k := 1) dX11_isAhead_64 rfl ?_
    refine V_iald dX11_isAhead_66 rfl (by decide) (fun h13 => ?_)
    refine V_aload_n (k := 2) dX11_isAhead_67 rfl rfl ?_
    refine V_getr (k := 147) dX11_isAhead_68 rfl (by decide) vf_X11_67 (by decide) (v_fin hI 134 rfl) ?_
    refine V_iload (k := 0) dX11_isAhead_71 rfl ?_
    refine V_iald dX11_isAhead_73 rfl (by decide) (fun h14 => ?_)
    refine V_icmpge (tgt := 81) dX11_isAhead_74 (by decide) (fun h15 => ?_) (fun h15 => ?_)
    · refine V_iconst (v := 0) dX11_isAhead_81 rfl ?_
      exact V_ret (fun _ => hI) (Or.inr (Or.inr (Or.inl ⟨rfl, _, rfl⟩))) dX11_isAhead_82 (fun ty x h1 h2 => by cases h1; cases h2; rfl) rfl
    · refine V_iconst (v := 1) dX11_isAhead_77 rfl ?_
      refine V_goto (tgt := 82) dX11_isAhead_78 (by decide) ?_
      exact V_ret (fun _ => hI) (Or.inr (Or.inr (Or.inl ⟨rfl, _, rfl⟩))) dX11_isAhead_82 (fun ty x h1 h2 => by cases h1; cases h2; rfl) rfl
  · refine V_aload_n (k := 2) dX11_isAhead_35 rfl rfl ?_
    refine V_getr (k := 146) dX11_isAhead_36 rfl (by decide) vf_X11_64 (by decide) (v_fin hI 133 rfl) ?_
    refine V_iload (k := 1) dX11_isAhead_39 rfl ?_
    refine V_iald dX11_isAhead_41 rfl (by decide) (fun h16 => ?_)
    refine V_aload_n (k := 2) dX11_isAhead_42 rfl rfl ?_
    refine V_getr (k := 146) dX11_isAhead_43 rfl (by decide) vf_X11_64 (by decide) (v_fin hI 133 rfl) ?_
    refine V_iload (k := 0) dX11_isAhead_46 rfl ?_
    refine V_iald dX11_isAhead_48 rfl (by decide) (fun h17 => ?_)
    refine V_icmpge (tgt := 56) dX11_isAhead_49 (by decide) (fun h18 => ?_) (fun h18 => ?_)
    · refine V_iconst (v := 0) dX11_isAhead_56 rfl ?_
      refine V_goto (tgt := 82) dX11_isAhead_57 (by decide) ?_
      exact V_ret (fun _ => hI) (Or.inr (Or.inr (Or.inl ⟨rfl, _, rfl⟩))) dX11_isAhead_82 (fun ty x h1 h2 => by cases h1; cases h2; rfl) rfl
    · refine V_iconst (v := 1) dX11_isAhead_52 rfl ?_
      refine V_goto (tgt := 82) dX11_isAhead_53 (by decide) ?_
      exact V_ret (fun _ => hI) (Or.inr (Or.inr (Or.inl ⟨rfl, _, rfl⟩))) dX11_isAhead_82 (fun ty x h1 h2 => by cases h1; cases h2; rfl) rfl
def fX11_isDigit (M : vM) (x0 : Int32) : Option (vR × vM) := if x0 < 48 then rI 0 M else if 57 < x0 then rI 0 M else rI 1 M
set_option maxRecDepth 20000 in
set_option maxHeartbeats 2000000 in
theorem cX11_isDigit_ok {l : Launch} {D : va_G} {dA : Nat → ClassId} (M : vM) (x0 : Int32) (hI : v_WT M.2.2) : Ct l D dA sX11_isDigit false 175 1 0 0 175 [.int x0] M (fX11_isDigit M x0) := by
  refine Ct_of (lv := [(0, .int x0)]) (by decide +kernel) rfl (Nat.le_of_ble_eq_true rfl) rfl (fun h => by cases h) ?_
  refine V_iload_n (k := 0) dX11_isDigit_0 rfl rfl ?_
  refine V_bipush (v := 48) dX11_isDigit_1 rfl ?_
  refine V_icmplt (tgt := 16) dX11_isDigit_3 (by decide) (fun h3 => ?_) (fun h3 => ?_)
  · refine V_iconst (v := 0) dX11_isDigit_16 rfl ?_
    exact V_ret (fun _ => hI) (Or.inr (Or.inr (Or.inl ⟨rfl, _, rfl⟩))) dX11_isDigit_17 (fun ty x h1 h2 => by cases h1; cases h2; rfl) rfl
  · refine V_iload_n (k := 0) dX11_isDigit_6 rfl rfl ?_
    refine V_bipush (v := 57) dX11_isDigit_7 rfl ?_
    refine V_icmpgt (tgt := 16) dX11_isDigit_9 (by decide) (fun h4 => ?_) (fun h4 => ?_)
    · refine V_iconst (v := 0) dX11_isDigit_16 rfl ?_
      exact V_ret (fun _ => hI) (Or.inr (Or.inr (Or.inl ⟨rfl, _, rfl⟩))) dX11_isDigit_17 (fun ty x h1 h2 => by cases h1; cases h2; rfl) rfl
    · refine V_iconst (v := 1) dX11_isDigit_12 rfl ?_
      refine V_goto (tgt := 17) dX11_isDigit_13 (by decide) ?_
      exact V_ret (fun _ => hI) (Or.inr (Or.inr (Or.inl ⟨rfl, _, rfl⟩))) dX11_isDigit_17 (fun ty x h1 h2 => by cases h1; cases h2; rfl) rfl
def fX11_isLetter (M : vM) (x0 : Int32) : Option (vR × vM) := if x0 < 97 then rI 0 M else if 122 < x0 then rI 0 M else rI 1 M
set_option maxRecDepth 20000 in
set_option maxHeartbeats 2000000 in
theorem cX11_isLetter_ok {l : Launch} {D : va_G} {dA : Nat → ClassId} (M : vM) (x0 : Int32) (hI : v_WT M.2.2) : Ct l D dA sX11_isLetter false 175 1 0 0 175 [.int x0] M (fX11_isLetter M x0) := by
  refine Ct_of (lv := [(0, .int x0)]) (by decide +kernel) rfl (Nat.le_of_ble_eq_true rfl) rfl (fun h => by cases h) ?_
  refine V_iload_n (k := 0) dX11_isLetter_0 rfl rfl ?_
  refine V_bipush (v := 97) dX11_isLetter_1 rfl ?_
  refine V_icmplt (tgt := 16) dX11_isLetter_3 (by decide) (fun h3 => ?_) (fun h3 => ?_)
  · refine V_iconst (v := 0) dX11_isLetter_16 rfl ?_
    exact V_ret (fun _ => hI) (Or.inr (Or.inr (Or.inl ⟨rfl, _, rfl⟩))) dX11_isLetter_17 (fun ty x h1 h2 => by cases h1; cases h2; rfl) rfl
  · refine V_iload_n (k := 0) dX11_isLetter_6 rfl rfl ?_
    refine V_bipush (v := 122) dX11_isLetter_7 rfl ?_
    refine V_icmpgt (tgt := 16) dX11_isLetter_9 (by decide) (fun h4 => ?_) (fun h4 => ?_)
    · refine V_iconst (v := 0) dX11_isLetter_16 rfl ?_
      exact V_ret (fun _ => hI) (Or.inr (Or.inr (Or.inl ⟨rfl, _, rfl⟩))) dX11_isLetter_17 (fun ty x h1 h2 => by cases h1; cases h2; rfl) rfl
    · refine V_iconst (v := 1) dX11_isLetter_12 rfl ?_
      refine V_goto (tgt := 17) dX11_isLetter_13 (by decide) ?_
      exact V_ret (fun _ => hI) (Or.inr (Or.inr (Or.inl ⟨rfl, _, rfl⟩))) dX11_isLetter_17 (fun ty x h1 h2 => by cases h1; cases h2; rfl) rfl
def fX11_jointCost_6 : Nat → vM → Int32 → Int32 → Int32 → Int32 → Int32 → Option (vR × vM)
  | 0, _, _, _, _, _, _ => none
  | n9 + 1, M, x1, x2, x3, x4, x5 => if 12 ≤ x5 then rI x4 M else if v_in ((20 * x1) + x5) 240 = true then if v_in ((20 * x2) + x5) 240 = true then fX11_jointCost_6 n9 M x1 x2 x3 (x4 + (((x3 >>> (x5 &&& (31 : Int32))) &&& 1) * (if M.1 141 (Int32.toNatClampNeg ((20 * x1) + x5)) < M.1 141 (Int32.toNatClampNeg ((20 * x2) + x5)) then M.1 141 (Int32.toNatClampNeg ((20 * x2) + x5)) else M.1 141 (Int32.toNatClampNeg ((20 * x1) + x5))))) (x5 + 1) else none else none
set_option maxRecDepth 20000 in
set_option maxHeartbeats 2000000 in
theorem vX11_jointCost_6 {l : Launch} {D : va_G} {dA : Nat → ClassId} : ∀ (n9 : Nat) (M : vM) (x1 : Int32) (x2 : Int32) (x3 : Int32) (x4 : Int32) (x5 : Int32), v_WT M.2.2 → V l D dA sX11_jointCost false 175 1 0 0 6 [(0, .ref 130), (1, .int x1), (2, .int x2), (3, .int x3), (4, .int x4), (5, .int x5)] [] 175 M (fX11_jointCost_6 n9 M x1 x2 x3 x4 x5) := by
  intro n9
  induction n9 with
  | zero => intros; exact V_none
  | succ n9 ih =>
    intro M x1 x2 x3 x4 x5 hI
    refine V_iload (k := 5) dX11_jointCost_6 rfl ?_
    refine V_bipush (v := 12) dX11_jointCost_8 rfl ?_
    refine V_icmpge (tgt := 58) dX11_jointCost_10 (by decide) (fun h4 => ?_) (fun h4 => ?_)
    · refine V_iload (k := 4) dX11_jointCost_58 rfl ?_
      exact V_ret (fun _ => hI) (Or.inr (Or.inl ⟨rfl, _, rfl⟩)) dX11_jointCost_60 (fun ty x h1 h2 => by cases h1; rfl) rfl
    · refine V_iload (k := 4) dX11_jointCost_13 rfl ?_
      refine V_iload_n (k := 3) dX11_jointCost_15 rfl rfl ?_
      refine V_iload (k := 5) dX11_jointCost_16 rfl ?_
      refine V_ishr dX11_jointCost_18 ?_
      refine V_iconst (v := 1) dX11_jointCost_19 rfl ?_
      refine V_iand dX11_jointCost_20 ?_
      refine V_aload_n (k := 0) dX11_jointCost_21 rfl rfl ?_
      refine V_getr (k := 141) dX11_jointCost_22 rfl (by decide) vf_X11_49 (by decide) (v_fin hI 128 rfl) ?_
      refine V_bipush (v := 20) dX11_jointCost_25 rfl ?_
      refine V_iload_n (k := 1) dX11_jointCost_27 rfl rfl ?_
      refine V_imul dX11_jointCost_28 ?_
      refine V_iload (k := 5) dX11_jointCost_29 rfl ?_
      refine V_iadd dX11_jointCost_31 ?_
      refine V_iald dX11_jointCost_32 rfl (by decide) (fun h5 => ?_)
      refine V_aload_n (k := 0) dX11_jointCost_33 rfl rfl ?_
      refine V_getr (k := 141) dX11_jointCost_34 rfl (by decide) vf_X11_49 (by decide) (v_fin hI 128 rfl) ?_
      refine V_bipush (v := 20) dX11_jointCost_37 rfl ?_
      refine V_iload_n (k := 2) dX11_jointCost_39 rfl rfl ?_
      refine V_imul dX11_jointCost_40 ?_
      refine V_iload (k := 5) dX11_jointCost_41 rfl ?_
      refine V_iadd dX11_jointCost_43 ?_
      refine V_iald dX11_jointCost_44 rfl (by decide) (fun h6 => ?_)
      refine V_mmax dX11_jointCost_45 gw1721 gw834 gw101 gw835 (by decide) (Nat.le_of_ble_eq_true rfl) ?_
      refine V_imul dX11_jointCost_48 ?_
      refine V_iadd dX11_jointCost_49 ?_
      refine V_istore (lv' := [(4, .int (x4 + (((x3 >>> (x5 &&& (31 : Int32))) &&& 1) * (if M.1 141 (Int32.toNatClampNeg ((20 * x1) + x5)) < M.1 141 (Int32.toNatClampNeg ((20 * x2) + x5)) then M.1 141 (Int32.toNatClampNeg ((20 * x2) + x5)) else M.1 141 (Int32.toNatClampNeg ((20 * x1) + x5)))))), (0, .ref 130), (1, .int x1), (2, .int x2), (3, .int x3), (5, .int x5)]) dX11_jointCost_50 (by decide) rfl ?_
      refine V_iinc (k := 5) (v := x5 + 1) (lv' := [(5, .int (x5 + 1)), (4, .int (x4 + (((x3 >>> (x5 &&& (31 : Int32))) &&& 1) * (if M.1 141 (Int32.toNatClampNeg ((20 * x1) + x5)) < M.1 141 (Int32.toNatClampNeg ((20 * x2) + x5)) then M.1 141 (Int32.toNatClampNeg ((20 * x2) + x5)) else M.1 141 (Int32.toNatClampNeg ((20 * x1) + x5)))))), (0, .ref 130), (1, .int x1), (2, .int x2), (3, .int x3)]) dX11_jointCost_52 rfl rfl (by decide) rfl ?_
      refine V_goto (tgt := 6) dX11_jointCost_55 (by decide) ?_
      refine V_sub [2, 3, 4, 5, 1, 0] rfl ?_
      exact ih M x1 x2 x3 (x4 + (((x3 >>> (x5 &&& (31 : Int32))) &&& 1) * (if M.1 141 (Int32.toNatClampNeg ((20 * x1) + x5)) < M.1 141 (Int32.toNatClampNeg ((20 * x2) + x5)) then M.1 141 (Int32.toNatClampNeg ((20 * x2) + x5)) else M.1 141 (Int32.toNatClampNeg ((20 * x1) + x5))))) (x5 + 1) hI
def fX11_jointCost (M : vM) (x1 : Int32) (x2 : Int32) (x3 : Int32) : Option (vR × vM) := fX11_jointCost_6 FU M x1 x2 x3 0 0
set_option maxRecDepth 20000 in
set_option maxHeartbeats 2000000 in
theorem cX11_jointCost_ok {l : Launch} {D : va_G} {dA : Nat → ClassId} (M : vM) (x1 : Int32) (x2 : Int32) (x3 : Int32) (hI : v_WT M.2.2) : Ct l D dA sX11_jointCost false 175 1 0 0 175 [.ref 130, .int x1, .int x2, .int x3] M (fX11_jointCost M x1 x2 x3) := by
  refine Ct_of (lv := [(0, .ref 130), (1, .int x1), (2, .int x2), (3, .int x3)]) (by decide +kernel) rfl (Nat.le_of_ble_eq_true rfl) rfl (fun h => by cases h) ?_
  refine V_iconst (v := 0) dX11_jointCost_0 rfl ?_
  refine V_istore (lv' := [(4, .int 0), (0, .ref 130), (1, .int x1), (2, .int x2), (3, .int x3)]) dX11_jointCost_1 (by decide) rfl ?_
  refine V_iconst (v := 0) dX11_jointCost_3 rfl ?_
  refine V_istore (lv' := [(5, .int 0), (4, .int 0), (0, .ref 130), (1, .int x1), (2, .int x2), (3, .int x3)]) dX11_jointCost_4 (by decide) rfl ?_
  refine V_sub [2, 3, 4, 5, 1, 0] rfl ?_
  exact vX11_jointCost_6 FU M x1 x2 x3 0 0 hI
def fX11_joint_55 (M : vM) : Option (vR × vM) := bi (fX11_fail M 1) fun y26 M27 => rI y26 M27
set_option maxRecDepth 20000 in
set_option maxHeartbeats 2000000 in
theorem vX11_joint_55 {l : Launch} {D : va_G} {dA : Nat → ClassId} : ∀ (M : vM), v_WT M.2.2 → V l D dA sX11_joint false 175 3 0 0 55 [(0, .ref 130)] [] 175 M (fX11_joint_55 M) := by
  intro M hI
  refine V_aload_n (k := 0) dX11_joint_55 rfl rfl ?_
  refine V_iconst (v := 1) dX11_joint_56 rfl ?_
  refine V_callVi (q := (RX11, TX11, 61)) (cls := 11) (st0 := []) (kc' := 0) (ks' := 0) dX11_joint_57 lk_X11_287 rfl (by decide) rfl rfl rfl (cX11_fail_ok M 1 hI) rfl rfl (by decide) (by decide) (Nat.le_of_ble_eq_true rfl) (Or.inl rfl) rfl rfl (by decide) (by decide) (fun y26 M27 e28 hI29 => ?_)
  exact V_ret (fun _ => hI29) (Or.inr (Or.inl ⟨rfl, _, rfl⟩)) dX11_joint_60 (fun ty x h1 h2 => by cases h1; rfl) rfl
def fX11_joint_70 : Nat → vM → Int32 → Int32 → Int32 → Int32 → Int32 → Int32 → Option (vR × vM)
  | 0, _, _, _, _, _, _, _ => none
  | n9 + 1, M, x1, x2, x3, x4, x5, x6 => if v_in x1 6 = true then if (M.1 145 (Int32.toNatClampNeg x1)) ≤ x6 then if x4 = ((-1)) then if x3 = 2 then rI 0 M else rI ((-1)) M else if x3 = 0 then rI x4 M else if x3 = 1 then rI x5 M else bi (fX11_leftAt M x1 0) fun y35 M36 => if v_in ((2000 * x1) + y35) 12000 = true then bi (fX11_leftAt M36 x2 0) fun y40 M41 => if v_in ((2000 * x2) + y40) 12000 = true then rI (((M36.1 146 (Int32.toNatClampNeg ((2000 * x1) + y35))) + (M41.1 146 (Int32.toNatClampNeg ((2000 * x2) + y40)))) - x5) M41 else none else none else bi (fX11_markOf M x1 x6) fun y46 M47 => bi (fX11_findOf M47 x2 y46) fun y50 M51 => if y50 = ((-1)) then fX11_joint_70 n9 M51 x1 x2 x3 x4 x5 (x6 + 1) else if v_in ((2000 * x1) + x6) 12000 = true then if (M51.1 148 (Int32.toNatClampNeg ((2000 * x1) + x6))) = 0 then if v_in ((2000 * x2) + y50) 12000 = true then if (M51.1 148 (Int32.toNatClampNeg ((2000 * x2) + y50))) = 0 then bi (fX11_jointCost M51 x1 x2 y46) fun y59 M60 => if x4 = ((-1)) then fX11_joint_70 n9 M60 x1 x2 x3 y46 y59 (x6 + 1) else if x5 < y59 then fX11_joint_70 n9 M60 x1 x2 x3 x4 x5 (x6 + 1) else if y59 = x5 then if y46 ≤ x4 then fX11_joint_70 n9 M60 x1 x2 x3 y46 y59 (x6 + 1) else fX11_joint_70 n9 M60 x1 x2 x3 x4 x5 (x6 + 1) else fX11_joint_70 n9 M60 x1 x2 x3 y46 y59 (x6 + 1) else fX11_joint_70 n9 M51 x1 x2 x3 x4 x5 (x6 + 1) else none else fX11_joint_70 n9 M51 x1 x2 x3 x4 x5 (x6 + 1) else none else none
set_option maxRecDepth 20000 in
set_option maxHeartbeats 2000000 in
theorem vX11_joint_70 {l : Launch} {D : va_G} {dA : Nat → ClassId} : ∀ (n9 : Nat) (M : vM) (x1 : Int32) (x2 : Int32) (x3 : Int32) (x4 : Int32) (x5 : Int32) (x6 : Int32), v_WT M.2.2 → V l D dA sX11_joint false 175 3 0 0 70 [(0, .ref 130), (1, .int x1), (2, .int x2), (3, .int x3), (4, .int x4), (5, .int x5), (6, .int x6)] [] 175 M (fX11_joint_70 n9 M x1 x2 x3 x4 x5 x6) := by
  intro n9
  induction n9 with
  | zero => intros; exact V_none
  | succ n9 ih =>
    intro M x1 x2 x3 x4 x5 x6 hI
    refine V_iload (k := 6) dX11_joint_70 rfl ?_
    refine V_aload_n (k := 0) dX11_joint_72 rfl rfl ?_
    refine V_getr (k := 145) dX11_joint_73 rfl (by decide) vf_X11_61 (by decide) (v_fin hI 132 rfl) ?_
    refine V_iload_n (k := 1) dX11_joint_76 rfl rfl ?_
    refine V_iald dX11_joint_77 rfl (by decide) (fun h30 => ?_)
    refine V_icmpge (tgt := 194) dX11_joint_78 (by decide) (fun h31 => ?_) (fun h31 => ?_)
    · refine V_iload (k := 4) dX11_joint_194 rfl ?_
      refine V_iconst (v := (-1)) dX11_joint_196 rfl ?_
      refine V_icmpne (tgt := 211) dX11_joint_197 (by decide) (fun h32 => ?_) (fun h32 => ?_)
      · refine V_iload_n (k := 3) dX11_joint_211 rfl rfl ?_
        refine V_ifne (tgt := 220) dX11_joint_212 (by decide) (fun h33 => ?_) (fun h33 => ?_)
        · refine V_iload_n (k := 3) dX11_joint_220 rfl rfl ?_
          refine V_iconst (v := 1) dX11_joint_221 rfl ?_
          refine V_icmpne (tgt := 230) dX11_joint_222 (by decide) (fun h34 => ?_) (fun h34 => ?_)
          · refine V_aload_n (k := 0) dX11_joint_230 rfl rfl ?_
            refine V_getr (k := 146) dX11_joint_231 rfl (by decide) vf_X11_64 (by decide) (v_fin hI 133 rfl) ?_
            refine V_sipush (v := 2000) dX11_joint_234 rfl ?_
            refine V_iload_n (k := 1) dX11_joint_237 rfl rfl ?_
            refine V_imul dX11_joint_238 ?_
            refine V_aload_n (k := 0) dX11_joint_239 rfl rfl ?_
            refine V_iload_n (k := 1) dX11_joint_240 rfl rfl ?_
            refine V_iconst (v := 0) dX11_joint_241 rfl ?_
            refine V_callVi (q := (RX11, TX11, 61)) (cls := 11) (st0 := [.int (2000 * x1), .ref 146]) (kc' := 0) (ks' := 0) dX11_joint_242 lk_X11_378 rfl (by decide) rfl rfl rfl (cX11_leftAt_ok M x1 0 hI) rfl rfl (by decide) (by decide) (Nat.le_of_ble_eq_true rfl) (Or.inl rfl) rfl rfl (by decide) (by decide) (fun y35 M36 e37 hI38 => ?_)
            refine V_iadd dX11_joint_245 ?_
            refine V_iald dX11_joint_246 rfl (by decide) (fun h39 => ?_)
            refine V_aload_n (k := 0) dX11_joint_247 rfl rfl ?_
            refine V_getr (k := 146) dX11_joint_248 rfl (by decide) vf_X11_64 (by decide) (v_fin hI38 133 rfl) ?_
            refine V_sipush (v := 2000) dX11_joint_251 rfl ?_
            refine V_iload_n (k := 2) dX11_joint_254 rfl rfl ?_
            refine V_imul dX11_joint_255 ?_
            refine V_aload_n (k := 0) dX11_joint_256 rfl rfl ?_
            refine V_iload_n (k := 2) dX11_joint_257 rfl rfl ?_
            refine V_iconst (v := 0) dX11_joint_258 rfl ?_
            refine V_callVi (q := (RX11, TX11, 61)) (cls := 11) (st0 := [.int (2000 * x2), .ref 146, .int (M36.1 146 (Int32.toNatClampNeg ((2000 * x1) + y35)))]) (kc' := 0) (ks' := 0) dX11_joint_259 lk_X11_378 rfl (by decide) rfl rfl rfl (cX11_leftAt_ok M36 x2 0 hI38) rfl rfl (by decide) (by decide) (Nat.le_of_ble_eq_true rfl) (Or.inl rfl) rfl rfl (by decide) (by decide) (fun y40 M41 e42 hI43 => ?_)
            refine V_iadd dX11_joint_262 ?_
            refine V_iald dX11_joint_263 rfl (by decide) (fun h44 => ?_)
            refine V_iadd dX11_joint_264 ?_
            refine V_iload (k := 5) dX11_joint_265 rfl ?_
            refine V_isub dX11_joint_267 ?_
            exact V_ret (fun _ => hI43) (Or.inr (Or.inl ⟨rfl, _, rfl⟩)) dX11_joint_268 (fun ty x h1 h2 => by cases h1; rfl) rfl
          · refine V_iload (k := 5) dX11_joint_225 rfl ?_
            refine V_goto (tgt := 268) dX11_joint_227 (by decide) ?_
            exact V_ret (fun _ => hI) (Or.inr (Or.inl ⟨rfl, _, rfl⟩)) dX11_joint_268 (fun ty x h1 h2 => by cases h1; rfl) rfl
        · refine V_iload (k := 4) dX11_joint_215 rfl ?_
          refine V_goto (tgt := 268) dX11_joint_217 (by decide) ?_
          exact V_ret (fun _ => hI) (Or.inr (Or.inl ⟨rfl, _, rfl⟩)) dX11_joint_268 (fun ty x h1 h2 => by cases h1; rfl) rfl
      · refine V_iload_n (k := 3) dX11_joint_200 rfl rfl ?_
        refine V_iconst (v := 2) dX11_joint_201 rfl ?_
        refine V_icmpne (tgt := 209) dX11_joint_202 (by decide) (fun h45 => ?_) (fun h45 => ?_)
        · refine V_iconst (v := (-1)) dX11_joint_209 rfl ?_
          exact V_ret (fun _ => hI) (Or.inr (Or.inl ⟨rfl, _, rfl⟩)) dX11_joint_210 (fun ty x h1 h2 => by cases h1; rfl) rfl
        · refine V_iconst (v := 0) dX11_joint_205 rfl ?_
          refine V_goto (tgt := 210) dX11_joint_206 (by decide) ?_
          exact V_ret (fun _ => hI) (Or.inr (Or.inl ⟨rfl, _, rfl⟩)) dX11_joint_210 (fun ty x h1 h2 => by cases h1; rfl) rfl
    · refine V_aload_n (k := 0) dX11_joint_81 rfl rfl ?_
      refine V_iload_n (k := 1) dX11_joint_82 rfl rfl ?_
      refine V_iload (k := 6) dX11_joint_83 rfl ?_
      refine V_callVi (q := (RX11, TX11, 61)) (cls := 11) (st0 := []) (kc' := 0) (ks' := 0) dX11_joint_85 lk_X11_349 rfl (by decide) rfl rfl rfl (cX11_markOf_ok M x1 x6 hI) rfl rfl (by decide) (by decide) (Nat.le_of_ble_eq_true rfl) (Or.inl rfl) rfl rfl (by decide) (by decide) (fun y46 M47 e48 hI49 => ?_)
      refine V_istore (lv' := [(7, .int y46), (0, .ref 130), (1, .int x1), (2, .int x2), (3, .int x3), (4, .int x4), (5, .int x5), (6, .int x6)]) dX11_joint_88 (by decide) rfl ?_
      refine V_aload_n (k := 1) dX11_joint_90 rfl rfl ?_
      refine V_iload_n (k := 3) dX11_joint_91 rfl rfl ?_
      refine V_iload (k := 0) dX11_joint_92 rfl ?_
      refine V_callVi (q := (RX11, TX11, 61)) (cls := 11) (st0 := []) (kc' := 0) (ks' := 0) dX11_joint_94 lk_X11_369 rfl (by decide) rfl rfl rfl (cX11_findOf_ok M47 x2 y46 hI49) rfl rfl (by decide) (by decide) (Nat.le_of_ble_eq_true rfl) (Or.inl rfl) rfl rfl (by decide) (by decide) (fun y50 M51 e52 hI53 => ?_)
      refine V_istore (lv' := [(8, .int y50), (7, .int y46), (0, .ref 130), (1, .int x1), (2, .int x2), (3, .int x3), (4, .int x4), (5, .int x5), (6, .int x6)]) dX11_joint_97 (by decide) rfl ?_
      refine V_iload (k := 0) dX11_joint_99 rfl ?_
      refine V_iconst (v := (-1)) dX11_joint_101 rfl ?_
      refine V_icmpeq (tgt := 188) dX11_joint_102 (by decide) (fun h54 => ?_) (fun h54 => ?_)
      · refine V_iinc (k := 8) (v := x6 + 1) (lv' := [(6, .int (x6 + 1)), (8, .int y50), (7, .int y46), (0, .ref 130), (1, .int x1), (2, .int x2), (3, .int x3), (4, .int x4), (5, .int x5)]) dX11_joint_188 rfl rfl (by decide) rfl ?_
        refine V_goto (tgt := 70) dX11_joint_191 (by decide) ?_
        refine V_sub [3, 4, 5, 6, 7, 8, 0] rfl ?_
        exact ih M51 x1 x2 x3 x4 x5 (x6 + 1) hI53
      · refine V_aload_n (k := 2) dX11_joint_105 rfl rfl ?_
        refine V_getr (k := 148) dX11_joint_106 rfl (by decide) vf_X11_70 (by decide) (v_fin hI53 135 rfl) ?_
        refine V_sipush (v := 2000) dX11_joint_109 rfl ?_
        refine V_iload_n (k := 3) dX11_joint_112 rfl rfl ?_
        refine V_imul dX11_joint_113 ?_
        refine V_iload (k := 8) dX11_joint_114 rfl ?_
        refine V_iadd dX11_joint_116 ?_
        refine V_zald dX11_joint_117 rfl (by decide) (fun h55 => ?_)
        refine V_ifne (tgt := 188) dX11_joint_118 (by decide) (fun h56 => ?_) (fun h56 => ?_)
        · refine V_iinc (k := 8) (v := x6 + 1) (lv' := [(6, .int (x6 + 1)), (8, .int y50), (7, .int y46), (0, .ref 130), (1, .int x1), (2, .int x2), (3, .int x3), (4, .int x4), (5, .int x5)]) dX11_joint_188 rfl rfl (by decide) rfl ?_
          refine V_goto (tgt := 70) dX11_joint_191 (by decide) ?_
          refine V_sub [3, 4, 5, 6, 7, 8, 0] rfl ?_
          exact ih M51 x1 x2 x3 x4 x5 (x6 + 1) hI53
        · refine V_aload_n (k := 2) dX11_joint_121 rfl rfl ?_
          refine V_getr (k := 148) dX11_joint_122 rfl (by decide) vf_X11_70 (by decide) (v_fin hI53 135 rfl) ?_
          refine V_sipush (v := 2000) dX11_joint_125 rfl ?_
          refine V_iload_n (k := 4) dX11_joint_128 rfl rfl ?_
          refine V_imul dX11_joint_129 ?_
          refine V_iload (k := 0) dX11_joint_130 rfl ?_
          refine V_iadd dX11_joint_132 ?_
          refine V_zald dX11_joint_133 rfl (by decide) (fun h57 => ?_)
          refine V_ifeq (tgt := 140) dX11_joint_134 (by decide) (fun h58 => ?_) (fun h58 => ?_)
          · refine V_aload_n (k := 2) dX11_joint_140 rfl rfl ?_
            refine V_iload_n (k := 3) dX11_joint_141 rfl rfl ?_
            refine V_iload_n (k := 4) dX11_joint_142 rfl rfl ?_
            refine V_iload (k := 1) dX11_joint_143 rfl ?_
            refine V_callVi (q := (RX11, TX11, 61)) (cls := 11) (st0 := []) (kc' := 0) (ks' := 0) dX11_joint_145 lk_X11_403 rfl (by decide) rfl rfl rfl (cX11_jointCost_ok M51 x1 x2 y46 hI53) rfl rfl (by decide) (by decide) (Nat.le_of_ble_eq_true rfl) (Or.inl rfl) rfl rfl (by decide) (by decide) (fun y59 M60 e61 hI62 => ?_)
            refine V_istore (lv' := [(9, .int y59), (8, .int y50), (7, .int y46), (0, .ref 130), (1, .int x1), (2, .int x2), (3, .int x3), (4, .int x4), (5, .int x5), (6, .int x6)]) dX11_joint_148 (by decide) rfl ?_
            refine V_iload (k := 7) dX11_joint_150 rfl ?_
            refine V_iconst (v := (-1)) dX11_joint_152 rfl ?_
            refine V_icmpeq (tgt := 180) dX11_joint_153 (by decide) (fun h63 => ?_) (fun h63 => ?_)
            · refine V_iload (k := 2) dX11_joint_180 rfl ?_
              refine V_istore (lv' := [(4, .int y46), (9, .int y59), (8, .int y50), (7, .int y46), (0, .ref 130), (1, .int x1), (2, .int x2), (3, .int x3), (5, .int x5), (6, .int x6)]) dX11_joint_182 (by decide) rfl ?_
              refine V_iload (k := 1) dX11_joint_184 rfl ?_
              refine V_istore (lv' := [(5, .int y59), (4, .int y46), (9, .int y59), (8, .int y50), (7, .int y46), (0, .ref 130), (1, .int x1), (2, .int x2), (3, .int x3), (6, .int x6)]) dX11_joint_186 (by decide) rfl ?_
              refine V_iinc (k := 9) (v := x6 + 1) (lv' := [(6, .int (x6 + 1)), (5, .int y59), (4, .int y46), (9, .int y59), (8, .int y50), (7, .int y46), (0, .ref 130), (1, .int x1), (2, .int x2), (3, .int x3)]) dX11_joint_188 rfl rfl (by decide) rfl ?_
              refine V_goto (tgt := 70) dX11_joint_191 (by decide) ?_
              refine V_sub [6, 7, 8, 9, 2, 1, 0] rfl ?_
              exact ih M60 x1 x2 x3 y46 y59 (x6 + 1) hI62
            · refine V_iload (k := 0) dX11_joint_156 rfl ?_
              refine V_iload (k := 8) dX11_joint_158 rfl ?_
              refine V_icmpgt (tgt := 188) dX11_joint_160 (by decide) (fun h64 => ?_) (fun h64 => ?_)
              · refine V_iinc (k := 9) (v := x6 + 1) (lv' := [(6, .int (x6 + 1)), (9, .int y59), (8, .int y50), (7, .int y46), (0, .ref 130), (1, .int x1), (2, .int x2), (3, .int x3), (4, .int x4), (5, .int x5)]) dX11_joint_188 rfl rfl (by decide) rfl ?_
                refine V_goto (tgt := 70) dX11_joint_191 (by decide) ?_
                refine V_sub [4, 5, 6, 7, 8, 9, 0] rfl ?_
                exact ih M60 x1 x2 x3 x4 x5 (x6 + 1) hI62
              · refine V_iload (k := 0) dX11_joint_163 rfl ?_
                refine V_iload (k := 8) dX11_joint_165 rfl ?_
                refine V_icmpne (tgt := 180) dX11_joint_167 (by decide) (fun h65 => ?_) (fun h65 => ?_)
                · refine V_iload (k := 2) dX11_joint_180 rfl ?_
                  refine V_istore (lv' := [(4, .int y46), (9, .int y59), (8, .int y50), (7, .int y46), (0, .ref 130), (1, .int x1), (2, .int x2), (3, .int x3), (5, .int x5), (6, .int x6)]) dX11_joint_182 (by decide) rfl ?_
                  refine V_iload (k := 1) dX11_joint_184 rfl ?_
                  refine V_istore (lv' := [(5, .int y59), (4, .int y46), (9, .int y59), (8, .int y50), (7, .int y46), (0, .ref 130), (1, .int x1), (2, .int x2), (3, .int x3), (6, .int x6)]) dX11_joint_186 (by decide) rfl ?_
                  refine V_iinc (k := 9) (v := x6 + 1) (lv' := [(6, .int (x6 + 1)), (5, .int y59), (4, .int y46), (9, .int y59), (8, .int y50), (7, .int y46), (0, .ref 130), (1, .int x1), (2, .int x2), (3, .int x3)]) dX11_joint_188 rfl rfl (by decide) rfl ?_
                  refine V_goto (tgt := 70) dX11_joint_191 (by decide) ?_
                  refine V_sub [6, 7, 8, 9, 2, 1, 0] rfl ?_
                  exact ih M60 x1 x2 x3 y46 y59 (x6 + 1) hI62
                · refine V_iload (k := 2) dX11_joint_170 rfl ?_
                  refine V_iload (k := 7) dX11_joint_172 rfl ?_
                  refine V_icmple (tgt := 180) dX11_joint_174 (by decide) (fun h66 => ?_) (fun h66 => ?_)
                  · refine V_iload (k := 2) dX11_joint_180 rfl ?_
                    refine V_istore (lv' := [(4, .int y46), (9, .int y59), (8, .int y50), (7, .int y46), (0, .ref 130), (1, .int x1), (2, .int x2), (3, .int x3), (5, .int x5), (6, .int x6)]) dX11_joint_182 (by decide) rfl ?_
                    refine V_iload (k := 1) dX11_joint_184 rfl ?_
                    refine V_istore (lv' := [(5, .int y59), (4, .int y46), (9, .int y59), (8, .int y50), (7, .int y46), (0, .ref 130), (1, .int x1), (2, .int x2), (3, .int x3), (6, .int x6)]) dX11_joint_186 (by decide) rfl ?_
                    refine V_iinc (k := 9) (v := x6 + 1) (lv' := [(6, .int (x6 + 1)), (5, .int y59), (4, .int y46), (9, .int y59), (8, .int y50), (7, .int y46), (0, .ref 130), (1, .int x1), (2, .int x2), (3, .int x3)]) dX11_joint_188 rfl rfl (by decide) rfl ?_
                    refine V_goto (tgt := 70) dX11_joint_191 (by decide) ?_
                    refine V_sub [6, 7, 8, 9, 2, 1, 0] rfl ?_
                    exact ih M60 x1 x2 x3 y46 y59 (x6 + 1) hI62
                  · refine V_goto (tgt := 188) dX11_joint_177 (by decide) ?_
                    refine V_iinc (k := 9) (v := x6 + 1) (lv' := [(6, .int (x6 + 1)), (9, .int y59), (8, .int y50), (7, .int y46), (0, .ref 130), (1, .int x1), (2, .int x2), (3, .int x3), (4, .int x4), (5, .int x5)]) dX11_joint_188 rfl rfl (by decide) rfl ?_
                    refine V_goto (tgt := 70) dX11_joint_191 (by decide) ?_
                    refine V_sub [4, 5, 6, 7, 8, 9, 0] rfl ?_
                    exact ih M60 x1 x2 x3 x4 x5 (x6 + 1) hI62
          · refine V_goto (tgt := 188) dX11_joint_137 (by decide) ?_
            refine V_iinc (k := 8) (v := x6 + 1) (lv' := [(6, .int (x6 + 1)), (8, .int y50), (7, .int y46), (0, .ref 130), (1, .int x1), (2, .int x2), (3, .int x3), (4, .int x4), (5, .int x5)]) dX11_joint_188 rfl rfl (by decide) rfl ?_
            refine V_goto (tgt := 70) dX11_joint_191 (by decide) ?_
            refine V_sub [3, 4, 5, 6, 7, 8, 0] rfl ?_
            exact ih M51 x1 x2 x3 x4 x5 (x6 + 1) hI53
def fX11_joint (M : vM) (x1 : Int32) (x2 : Int32) (x3 : Int32) : Option (vR × vM) := bi (fX11_isWork (v_si M 130 1 0) x1) fun y67 M68 => if y67 = 0 then fX11_joint_55 M68 else bi (fX11_isWork M68 x2) fun y72 M73 => if y72 = 0 then fX11_joint_55 M73 else if x1 = x2 then fX11_joint_55 M73 else if v_in x1 12 = true then if (M73.1 132 (Int32.toNatClampNeg x1)) = 1 then if v_in x2 12 = true then if (M73.1 132 (Int32.toNatClampNeg x2)) = 1 then bi (fX11_isIn M73 x3 0 2) fun y82 M83 => if y82 = 0 then fX11_joint_55 M83 else fX11_joint_70 FU M83 x1 x2 x3 ((-1)) 0 0 else fX11_joint_55 M73 else none else fX11_joint_55 M73 else none
set_option maxRecDepth 20000 in
set_option maxHeartbeats 2000000 in
theorem cX11_joint_ok {l : Launch} {D : va_G} {dA : Nat → ClassId} (M : vM) (x1 : Int32) (x2 : Int32) (x3 : Int32) (hI : v_WT M.2.2) : Ct l D dA sX11_joint false 175 3 0 0 175 [.ref 130, .int x1, .int x2, .int x3] M (fX11_joint M x1 x2 x3) := by
  refine Ct_of (lv := [(0, .ref 130), (1, .int x1), (2, .int x2), (3, .int x3)]) (by decide +kernel) rfl (Nat.le_of_ble_eq_true rfl) rfl (fun h => by cases h) ?_
  refine V_aload_n (k := 0) dX11_joint_0 rfl rfl ?_
  refine V_iconst (v := 0) dX11_joint_1 rfl ?_
  refine V_puti dX11_joint_2 rfl (by decide) vf_X11_154 (by decide) rfl rfl ?_
  refine V_aload_n (k := 0) dX11_joint_5 rfl rfl ?_
  refine V_iload_n (k := 1) dX11_joint_6 rfl rfl ?_
  refine V_callVi (q := (RX11, TX11, 61)) (cls := 11) (st0 := []) (kc' := 0) (ks' := 0) dX11_joint_7 lk_X11_164 rfl (by decide) rfl rfl rfl (cX11_isWork_ok (v_si M 130 1 0) x1 hI) rfl rfl (by decide) (by decide) (Nat.le_of_ble_eq_true rfl) (Or.inl rfl) rfl rfl (by decide) (by decide) (fun y67 M68 e69 hI70 => ?_)
  refine V_ifeq (tgt := 55) dX11_joint_10 (by decide) (fun h71 => ?_) (fun h71 => ?_)
  · refine V_sub [0] rfl ?_
    exact vX11_joint_55 M68 hI70
  · refine V_aload_n (k := 0) dX11_joint_13 rfl rfl ?_
    refine V_iload_n (k := 2) dX11_joint_14 rfl rfl ?_
    refine V_callVi (q := (RX11, TX11, 61)) (cls := 11) (st0 := []) (kc' := 0) (ks' := 0) dX11_joint_15 lk_X11_164 rfl (by decide) rfl rfl rfl (cX11_isWork_ok M68 x2 hI70) rfl rfl (by decide) (by decide) (Nat.le_of_ble_eq_true rfl) (Or.inl rfl) rfl rfl (by decide) (by decide) (fun y72 M73 e74 hI75 => ?_)
    refine V_ifeq (tgt := 55) dX11_joint_18 (by decide) (fun h76 => ?_) (fun h76 => ?_)
    · refine V_sub [0] rfl ?_
      exact vX11_joint_55 M73 hI75
    · refine V_iload_n (k := 1) dX11_joint_21 rfl rfl ?_
      refine V_iload_n (k := 2) dX11_joint_22 rfl rfl ?_
      refine V_icmpeq (tgt := 55) dX11_joint_23 (by decide) (fun h77 => ?_) (fun h77 => ?_)
      · refine V_sub [0] rfl ?_
        exact vX11_joint_55 M73 hI75
      · refine V_aload_n (k := 0) dX11_joint_26 rfl rfl ?_
        refine V_getr (k := 132) dX11_joint_27 rfl (by decide) vf_X11_21 (by decide) (v_fin hI75 119 rfl) ?_
        refine V_iload_n (k := 1) dX11_joint_30 rfl rfl ?_
        refine V_iald dX11_joint_31 rfl (by decide) (fun h78 => ?_)
        refine V_iconst (v := 1) dX11_joint_32 rfl ?_
        refine V_icmpne (tgt := 55) dX11_joint_33 (by decide) (fun h79 => ?_) (fun h79 => ?_)
        · refine V_sub [0] rfl ?_
          exact vX11_joint_55 M73 hI75
        · refine V_aload_n (k := 0) dX11_joint_36 rfl rfl ?_
          refine V_getr (k := 132) dX11_joint_37 rfl (by decide) vf_X11_21 (by decide) (v_fin hI75 119 rfl) ?_
          refine V_iload_n (k := 2) dX11_joint_40 rfl rfl ?_
          refine V_iald dX11_joint_41 rfl (by decide) (fun h80 => ?_)
          refine V_iconst (v := 1) dX11_joint_42 rfl ?_
          refine V_icmpne (tgt := 55) dX11_joint_43 (by decide) (fun h81 => ?_) (fun h81 => ?_)
          · refine V_sub [0] rfl ?_
            exact vX11_joint_55 M73 hI75
          · refine V_iload_n (k := 3) dX11_joint_46 rfl rfl ?_
            refine V_iconst (v := 0) dX11_joint_47 rfl ?_
            refine V_iconst (v := 2) dX11_joint_48 rfl ?_
            refine V_callSi (st0 := []) (kc' := 0) (ks' := 0) dX11_joint_49 lk_X11_160 rfl (cX11_isIn_ok M73 x3 0 2 hI75) rfl rfl (by decide) (by decide) (Nat.le_of_ble_eq_true rfl) (Or.inl rfl) rfl rfl (by decide) (by decide) (fun y82 M83 e84 hI85 => ?_)
            refine V_ifne (tgt := 61) dX11_joint_52 (by decide) (fun h86 => ?_) (fun h86 => ?_)
            · refine V_iconst (v := (-1)) dX11_joint_61 rfl ?_
              refine V_istore (lv' := [(4, .int ((-1))), (0, .ref 130), (1, .int x1), (2, .int x2), (3, .int x3)]) dX11_joint_62 (by decide) rfl ?_
              refine V_iconst (v := 0) dX11_joint_64 rfl ?_
              refine V_istore (lv' := [(5, .int 0), (4, .int ((-1))), (0, .ref 130), (1, .int x1), (2, .int x2), (3, .int x3)]) dX11_joint_65 (by decide) rfl ?_
              refine V_iconst (v := 0) dX11_joint_67 rfl ?_
              refine V_istore (lv' := [(6, .int 0), (5, .int 0), (4, .int ((-1))), (0, .ref 130), (1, .int x1), (2, .int x2), (3, .int x3)]) dX11_joint_68 (by decide) rfl ?_
              refine V_sub [3, 4, 5, 6, 2, 1, 0] rfl ?_
              exact vX11_joint_70 FU M83 x1 x2 x3 ((-1)) 0 0 hI85
            · refine V_sub [0] rfl ?_
              exact vX11_joint_55 M83 hI85
def fX11_judge_22 (M : vM) : Option (vR × vM) := bi (fX11_fail M 1) fun y13 M14 => rI y13 M14
set_option maxRecDepth 20000 in
set_option maxHeartbeats 2000000 in
theorem vX11_judge_22 {l : Launch} {D : va_G} {dA : Nat → ClassId} : ∀ (M : vM), v_WT M.2.2 → V l D dA sX11_judge false 175 4 0 0 22 [(0, .ref 130)] [] 175 M (fX11_judge_22 M) := by
  intro M hI
  refine V_aload_n (k := 0) dX11_judge_22 rfl rfl ?_
  refine V_iconst (v := 1) dX11_judge_23 rfl ?_
  refine V_callVi (q := (RX11, TX11, 61)) (cls := 11) (st0 := []) (kc' := 0) (ks' := 0) dX11_judge_24 lk_X11_287 rfl (by decide) rfl rfl rfl (cX11_fail_ok M 1 hI) rfl rfl (by decide) (by decide) (Nat.le_of_ble_eq_true rfl) (Or.inl rfl) rfl rfl (by decide) (by decide) (fun y13 M14 e15 hI16 => ?_)
  exact V_ret (fun _ => hI16) (Or.inr (Or.inl ⟨rfl, _, rfl⟩)) dX11_judge_27 (fun ty x h1 h2 => by cases h1; rfl) rfl
def fX11_judge_77 (k30 : vM → Int32 → Int32 → Int32 → Option (vR × vM)) : Nat → vM → Int32 → Int32 → Int32 → Int32 → Int32 → Option (vR × vM)
  | 0, _, _, _, _, _, _ => none
  | n9 + 1, M, x1, x2, x3, x4, x5 => if x3 ≤ x5 then k30 M x1 x2 (x3 + 1) else if v_in ((100 * x1) + x5) 600 = true then bi (fX11_alike M x1 x4 (M.1 152 (Int32.toNatClampNeg ((100 * x1) + x5)))) fun y19 M20 => if y19 = 0 then fX11_judge_77 k30 n9 M20 x1 x2 x3 x4 (x5 + 1) else if x2 = 0 then rI x3 M20 else rI x5 M20 else none
set_option maxRecDepth 20000 in
set_option maxHeartbeats 2000000 in
theorem vX11_judge_77 {l : Launch} {D : va_G} {dA : Nat → ClassId} {k30 : vM → Int32 → Int32 → Int32 → Option (vR × vM)} (hk30 : ∀ (M : vM) (x1 : Int32) (x2 : Int32) (x3 : Int32), v_WT M.2.2 → V l D dA sX11_judge false 175 4 0 0 30 [(0, .ref 130), (1, .int x1), (2, .int x2), (3, .int x3)] [] 175 M (k30 M x1 x2 x3)) : ∀ (n9 : Nat) (M : vM) (x1 : Int32) (x2 : Int32) (x3 : Int32) (x4 : Int32) (x5 : Int32), v_WT M.2.2 → V l D dA sX11_judge false 175 4 0 0 77 [(0, .ref 130), (1, .int x1), (2, .int x2), (3, .int x3), (4, .int x4), (5, .int x5)] [] 175 M (fX11_judge_77 k30 n9 M x1 x2 x3 x4 x5) := by
  intro n9
  induction n9 with
  | zero => intros; exact V_none
  | succ n9 ih =>
    intro M x1 x2 x3 x4 x5 hI
    refine V_iload (k := 5) dX11_judge_77 rfl ?_
    refine V_iload_n (k := 3) dX11_judge_79 rfl rfl ?_
    refine V_icmpge (tgt := 122) dX11_judge_80 (by decide) (fun h17 => ?_) (fun h17 => ?_)
    · refine V_iinc (k := 3) (v := x3 + 1) (lv' := [(3, .int (x3 + 1)), (0, .ref 130), (1, .int x1), (2, .int x2), (4, .int x4), (5, .int x5)]) dX11_judge_122 rfl rfl (by decide) rfl ?_
      refine V_goto (tgt := 30) dX11_judge_125 (by decide) ?_
      refine V_sub [1, 2, 3, 0] rfl ?_
      exact hk30 M x1 x2 (x3 + 1) hI
    · refine V_aload_n (k := 0) dX11_judge_83 rfl rfl ?_
      refine V_iload_n (k := 1) dX11_judge_84 rfl rfl ?_
      refine V_iload (k := 4) dX11_judge_85 rfl ?_
      refine V_aload_n (k := 0) dX11_judge_87 rfl rfl ?_
      refine V_getr (k := 152) dX11_judge_88 rfl (by decide) vf_X11_83 (by decide) (v_fin hI 139 rfl) ?_
      refine V_bipush (v := 100) dX11_judge_91 rfl ?_
      refine V_iload_n (k := 1) dX11_judge_93 rfl rfl ?_
      refine V_imul dX11_judge_94 ?_
      refine V_iload (k := 5) dX11_judge_95 rfl ?_
      refine V_iadd dX11_judge_97 ?_
      refine V_iald dX11_judge_98 rfl (by decide) (fun h18 => ?_)
      refine V_callVi (q := (RX11, TX11, 61)) (cls := 11) (st0 := []) (kc' := 0) (ks' := 0) dX11_judge_99 lk_X11_372 rfl (by decide) rfl rfl rfl (cX11_alike_ok M x1 x4 (M.1 152 (Int32.toNatClampNeg ((100 * x1) + x5))) hI) rfl rfl (by decide) (by decide) (Nat.le_of_ble_eq_true rfl) (Or.inl rfl) rfl rfl (by decide) (by decide) (fun y19 M20 e21 hI22 => ?_)
      refine V_ifeq (tgt := 116) dX11_judge_102 (by decide) (fun h23 => ?_) (fun h23 => ?_)
      · refine V_iinc (k := 5) (v := x5 + 1) (lv' := [(5, .int (x5 + 1)), (0, .ref 130), (1, .int x1), (2, .int x2), (3, .int x3), (4, .int x4)]) dX11_judge_116 rfl rfl (by decide) rfl ?_
        refine V_goto (tgt := 77) dX11_judge_119 (by decide) ?_
        refine V_sub [1, 2, 3, 4, 5, 0] rfl ?_
        exact ih M20 x1 x2 x3 x4 (x5 + 1) hI22
      · refine V_iload_n (k := 2) dX11_judge_105 rfl rfl ?_
        refine V_ifne (tgt := 113) dX11_judge_106 (by decide) (fun h24 => ?_) (fun h24 => ?_)
        · refine V_iload (k := 5) dX11_judge_113 rfl ?_
          exact V_ret (fun _ => hI22) (Or.inr (Or.inl ⟨rfl, _, rfl⟩)) dX11_judge_115 (fun ty x h1 h2 => by cases h1; rfl) rfl
        · refine V_iload_n (k := 3) dX11_judge_109 rfl rfl ?_
          refine V_goto (tgt := 115) dX11_judge_110 (by decide) ?_
          exact V_ret (fun _ => hI22) (Or.inr (Or.inl ⟨rfl, _, rfl⟩)) dX11_judge_115 (fun ty x h1 h2 => by cases h1; rfl) rfl
def fX11_judge_30 : Nat → vM → Int32 → Int32 → Int32 → Option (vR × vM)
  | 0, _, _, _, _ => none
  | n9 + 1, M, x1, x2, x3 => if v_in x1 6 = true then if (M.1 151 (Int32.toNatClampNeg x1)) ≤ x3 then rI ((-1)) M else if v_in ((100 * x1) + x3) 600 = true then bi (fX11_findOf M x1 (M.1 152 (Int32.toNatClampNeg ((100 * x1) + x3)))) fun y28 M29 => if y28 = ((-1)) then if x2 = 0 then rI x3 M29 else rI ((-1)) M29 else fX11_judge_77 (fX11_judge_30 n9) FU M29 x1 x2 x3 (M.1 152 (Int32.toNatClampNeg ((100 * x1) + x3))) 0 else none else none
set_option maxRecDepth 20000 in
set_option maxHeartbeats 2000000 in
theorem vX11_judge_30 {l : Launch} {D : va_G} {dA : Nat → ClassId} : ∀ (n9 : Nat) (M : vM) (x1 : Int32) (x2 : Int32) (x3 : Int32), v_WT M.2.2 → V l D dA sX11_judge false 175 4 0 0 30 [(0, .ref 130), (1, .int x1), (2, .int x2), (3, .int x3)] [] 175 M (fX11_judge_30 n9 M x1 x2 x3) := by
  intro n9
  induction n9 with
  | zero => intros; exact V_none
  | succ n9 ih =>
    intro M x1 x2 x3 hI
    refine V_iload_n (k := 3) dX11_judge_30 rfl rfl ?_
    refine V_aload_n (k := 0) dX11_judge_31 rfl rfl ?_
    refine V_getr (k := 151) dX11_judge_32 rfl (by decide) vf_X11_80 (by decide) (v_fin hI 138 rfl) ?_
    refine V_iload_n (k := 1) dX11_judge_35 rfl rfl ?_
    refine V_iald dX11_judge_36 rfl (by decide) (fun h25 => ?_)
    refine V_icmpge (tgt := 128) dX11_judge_37 (by decide) (fun h26 => ?_) (fun h26 => ?_)
    · refine V_iconst (v := (-1)) dX11_judge_128 rfl ?_
      exact V_ret (fun _ => hI) (Or.inr (Or.inl ⟨rfl, _, rfl⟩)) dX11_judge_129 (fun ty x h1 h2 => by cases h1; rfl) rfl
    · refine V_aload_n (k := 0) dX11_judge_40 rfl rfl ?_
      refine V_getr (k := 152) dX11_judge_41 rfl (by decide) vf_X11_83 (by decide) (v_fin hI 139 rfl) ?_
      refine V_bipush (v := 100) dX11_judge_44 rfl ?_
      refine V_iload_n (k := 1) dX11_judge_46 rfl rfl ?_
      refine V_imul dX11_judge_47 ?_
      refine V_iload_n (k := 3) dX11_judge_48 rfl rfl ?_
      refine V_iadd dX11_judge_49 ?_
      refine V_iald dX11_judge_50 rfl (by decide) (fun h27 => ?_)
      refine V_istore (lv' := [(4, .int (M.1 152 (Int32.toNatClampNeg ((100 * x1) + x3)))), (0, .ref 130), (1, .int x1), (2, .int x2), (3, .int x3)]) dX11_judge_51 (by decide) rfl ?_
      refine V_aload_n (k := 1) dX11_judge_53 rfl rfl ?_
      refine V_iload_n (k := 2) dX11_judge_54 rfl rfl ?_
      refine V_iload (k := 0) dX11_judge_55 rfl ?_
      refine V_callVi (q := (RX11, TX11, 61)) (cls := 11) (st0 := []) (kc' := 0) (ks' := 0) dX11_judge_57 lk_X11_369 rfl (by decide) rfl rfl rfl (cX11_findOf_ok M x1 (M.1 152 (Int32.toNatClampNeg ((100 * x1) + x3))) hI) rfl rfl (by decide) (by decide) (Nat.le_of_ble_eq_true rfl) (Or.inl rfl) rfl rfl (by decide) (by decide) (fun y28 M29 e30 hI31 => ?_)
      refine V_iconst (v := (-1)) dX11_judge_60 rfl ?_
      refine V_icmpne (tgt := 74) dX11_judge_61 (by decide) (fun h32 => ?_) (fun h32 => ?_)
      · refine V_iconst (v := 0) dX11_judge_74 rfl ?_
        refine V_istore (lv' := [(5, .int 0), (4, .int (M.1 152 (Int32.toNatClampNeg ((100 * x1) + x3)))), (0, .ref 130), (1, .int x1), (2, .int x2), (3, .int x3)]) dX11_judge_75 (by decide) rfl ?_
        refine V_sub [2, 3, 4, 5, 1, 0] rfl ?_
        exact vX11_judge_77 (ih) FU M29 x1 x2 x3 (M.1 152 (Int32.toNatClampNeg ((100 * x1) + x3))) 0 hI31
      · refine V_iload_n (k := 3) dX11_judge_64 rfl rfl ?_
        refine V_ifne (tgt := 72) dX11_judge_65 (by decide) (fun h33 => ?_) (fun h33 => ?_)
        · refine V_iconst (v := (-1)) dX11_judge_72 rfl ?_
          exact V_ret (fun _ => hI31) (Or.inr (Or.inl ⟨rfl, _, rfl⟩)) dX11_judge_73 (fun ty x h1 h2 => by cases h1; rfl) rfl
        · refine V_iload_n (k := 4) dX11_judge_68 rfl rfl ?_
          refine V_goto (tgt := 73) dX11_judge_69 (by decide) ?_
          exact V_ret (fun _ => hI31) (Or.inr (Or.inl ⟨rfl, _, rfl⟩)) dX11_judge_73 (fun ty x h1 h2 => by cases h1; rfl) rfl
def fX11_judge (M : vM) (x1 : Int32) (x2 : Int32) : Option (vR × vM) := bi (fX11_isWork (v_si M 130 1 0) x1) fun y34 M35 => if y34 = 0 then fX11_judge_22 M35 else if x2 < 0 then fX11_judge_22 M35 else if x2 ≤ 1 then fX11_judge_30 FU M35 x1 x2 0 else fX11_judge_22 M35
set_option maxRecDepth 20000 in
set_option maxHeartbeats 2000000 in
theorem cX11_judge_ok {l : Launch} {D : va_G} {dA : Nat → ClassId} (M : vM) (x1 : Int32) (x2 : Int32) (hI : v_WT M.2.2) : Ct l D dA sX11_judge false 175 4 0 0 175 [.ref 130, .int x1, .int x2] M (fX11_judge M x1 x2) := by
  refine Ct_of (lv := [(0, .ref 130), (1, .int x1), (2, .int x2)]) (by decide +kernel) rfl (Nat.le_of_ble_eq_true rfl) rfl (fun h => by cases h) ?_
  refine V_aload_n (k := 0) dX11_judge_0 rfl rfl ?_
  refine V_iconst (v := 0) dX11_judge_1 rfl ?_
  refine V_puti dX11_judge_2 rfl (by decide) vf_X11_154 (by decide) rfl rfl ?_
  refine V_aload_n (k := 0) dX11_judge_5 rfl rfl ?_
  refine V_iload_n (k := 1) dX11_judge_6 rfl rfl ?_
  refine V_callVi (q := (RX11, TX11, 61)) (cls := 11) (st0 := []) (kc' := 0) (ks' := 0) dX11_judge_7 lk_X11_164 rfl (by decide) rfl rfl rfl (cX11_isWork_ok (v_si M 130 1 0) x1 hI) rfl rfl (by decide) (by decide) (Nat.le_of_ble_eq_true rfl) (Or.inl rfl) rfl rfl (by decide) (by decide) (fun y34 M35 e36 hI37 => ?_)
  refine V_ifeq (tgt := 22) dX11_judge_10 (by decide) (fun h38 => ?_) (fun h38 => ?_)
  · refine V_sub [0] rfl ?_
    exact vX11_judge_22 M35 hI37
  · refine V_iload_n (k := 2) dX11_judge_13 rfl rfl ?_
    refine V_iflt (tgt := 22) dX11_judge_14 (by decide) (fun h39 => ?_) (fun h39 => ?_)
    · refine V_sub [0] rfl ?_
      exact vX11_judge_22 M35 hI37
    · refine V_iload_n (k := 2) dX11_judge_17 rfl rfl ?_
      refine V_iconst (v := 1) dX11_judge_18 rfl ?_
      refine V_icmple (tgt := 28) dX11_judge_19 (by decide) (fun h40 => ?_) (fun h40 => ?_)
      · refine V_iconst (v := 0) dX11_judge_28 rfl ?_
        refine V_istore_n (lv' := [(3, .int 0), (0, .ref 130), (1, .int x1), (2, .int x2)]) dX11_judge_29 rfl (by decide) rfl ?_
        refine V_sub [1, 2, 3, 0] rfl ?_
        exact vX11_judge_30 FU M35 x1 x2 0 hI37
      · refine V_sub [0] rfl ?_
        exact vX11_judge_22 M35 hI37
def fX11_lasts_22 (M : vM) : Option (vR × vM) := bi (fX11_fail M 1) fun y10 M11 => rI y10 M11
set_option maxRecDepth 20000 in
set_option maxHeartbeats 2000000 in
theorem vX11_lasts_22 {l : Launch} {D : va_G} {dA : Nat → ClassId} : ∀ (M : vM), v_WT M.2.2 → V l D dA sX11_lasts false 175 5 0 0 22 [(0, .ref 130)] [] 175 M (fX11_lasts_22 M) := by
  intro M hI
  refine V_aload_n (k := 0) dX11_lasts_22 rfl rfl ?_
  refine V_iconst (v := 1) dX11_lasts_23 rfl ?_
  refine V_callVi (q := (RX11, TX11, 61)) (cls := 11) (st0 := []) (kc' := 0) (ks' := 0) dX11_lasts_24 lk_X11_287 rfl (by decide) rfl rfl rfl (cX11_fail_ok M 1 hI) rfl rfl (by decide) (by decide) (Nat.le_of_ble_eq_true rfl) (Or.inl rfl) rfl rfl (by decide) (by decide) (fun y10 M11 e12 hI13 => ?_)
  exact V_ret (fun _ => hI13) (Or.inr (Or.inl ⟨rfl, _, rfl⟩)) dX11_lasts_27 (fun ty x h1 h2 => by cases h1; rfl) rfl
def fX11_lasts_80 : Nat → vM → Int32 → Int32 → Int32 → Option (vR × vM)
  | 0, _, _, _, _ => none
  | n9 + 1, M, x1, x3, x4 => if (M.1 130 44) ≤ x4 then rI x3 M else if v_in x4 2000 = true then if v_in ((2000 * x1) + (M.1 160 (Int32.toNatClampNeg x4))) 12000 = true then fX11_lasts_80 n9 M x1 (x3 + (M.1 146 (Int32.toNatClampNeg ((2000 * x1) + (M.1 160 (Int32.toNatClampNeg x4)))))) (x4 + 1) else none else none
set_option maxRecDepth 20000 in
set_option maxHeartbeats 2000000 in
theorem vX11_lasts_80 {l : Launch} {D : va_G} {dA : Nat → ClassId} : ∀ (n9 : Nat) (M : vM) (x1 : Int32) (x3 : Int32) (x4 : Int32), v_WT M.2.2 → V l D dA sX11_lasts false 175 5 0 0 80 [(0, .ref 130), (1, .int x1), (3, .int x3), (4, .int x4)] [] 175 M (fX11_lasts_80 n9 M x1 x3 x4) := by
  intro n9
  induction n9 with
  | zero => intros; exact V_none
  | succ n9 ih =>
    intro M x1 x3 x4 hI
    refine V_iload (k := 3) dX11_lasts_80 rfl ?_
    refine V_aload_n (k := 0) dX11_lasts_82 rfl rfl ?_
    refine V_geti dX11_lasts_83 rfl (by decide) vf_X11_388 (by decide) ?_
    refine V_icmpge (tgt := 116) dX11_lasts_86 (by decide) (fun h14 => ?_) (fun h14 => ?_)
    · refine V_iload_n (k := 2) dX11_lasts_116 rfl rfl ?_
      exact V_ret (fun _ => hI) (Or.inr (Or.inl ⟨rfl, _, rfl⟩)) dX11_lasts_117 (fun ty x h1 h2 => by cases h1; rfl) rfl
    · refine V_iload_n (k := 2) dX11_lasts_89 rfl rfl ?_
      refine V_aload_n (k := 0) dX11_lasts_90 rfl rfl ?_
      refine V_getr (k := 146) dX11_lasts_91 rfl (by decide) vf_X11_64 (by decide) (v_fin hI 133 rfl) ?_
      refine V_sipush (v := 2000) dX11_lasts_94 rfl ?_
      refine V_iload_n (k := 1) dX11_lasts_97 rfl rfl ?_
      refine V_imul dX11_lasts_98 ?_
      refine V_aload_n (k := 0) dX11_lasts_99 rfl rfl ?_
      refine V_getr (k := 160) dX11_lasts_100 rfl (by decide) vf_X11_111 (by decide) (v_fin hI 147 rfl) ?_
      refine V_iload (k := 3) dX11_lasts_103 rfl ?_
      refine V_iald dX11_lasts_105 rfl (by decide) (fun h15 => ?_)
      refine V_iadd dX11_lasts_106 ?_
      refine V_iald dX11_lasts_107 rfl (by decide) (fun h16 => ?_)
      refine V_iadd dX11_lasts_108 ?_
      refine V_istore_n (lv' := [(3, .int (x3 + (M.1 146 (Int32.toNatClampNeg ((2000 * x1) + (M.1 160 (Int32.toNatClampNeg x4))))))), (0, .ref 130), (1, .int x1), (4, .int x4)]) dX11_lasts_109 rfl (by decide) rfl ?_
      refine V_iinc (k := 3) (v := x4 + 1) (lv' := [(4, .int (x4 + 1)), (3, .int (x3 + (M.1 146 (Int32.toNatClampNeg ((2000 * x1) + (M.1 160 (Int32.toNatClampNeg x4))))))), (0, .ref 130), (1, .int x1)]) dX11_lasts_110 rfl rfl (by decide) rfl ?_
      refine V_goto (tgt := 80) dX11_lasts_113 (by decide) ?_
      refine V_sub [2, 3, 1, 0] rfl ?_
      exact ih M x1 (x3 + (M.1 146 (Int32.toNatClampNeg ((2000 * x1) + (M.1 160 (Int32.toNatClampNeg x4)))))) (x4 + 1) hI
def fX11_lasts (M : vM) (x1 : Int32) (x2 : Int32) : Option (vR × vM) := bi (fX11_isWork (v_si M 130 1 0) x1) fun y17 M18 => if y17 = 0 then fX11_lasts_22 M18 else bi (fX11_isIn M18 x2 0 2) fun y22 M23 => if y22 = 0 then fX11_lasts_22 M23 else bv (fX11_tellLasts M23 x1 2000) fun M27 => if 2 ≤ x2 then fX11_lasts_80 FU M27 x1 0 0 else if x2 = 0 then rI (M27.1 130 44) M27 else if (M27.1 130 44) = 0 then rI ((-1)) M27 else if v_in ((M27.1 130 44) - 1) 2000 = true then rI (M27.1 160 (Int32.toNatClampNeg ((M27.1 130 44) - 1))) M27 else none
set_option maxRecDepth 20000 in
set_option maxHeartbeats 2000000 in
theorem cX11_lasts_ok {l : Launch} {D : va_G} {dA : Nat → ClassId} (M : vM) (x1 : Int32) (x2 : Int32) (hI : v_WT M.2.2) : Ct l D dA sX11_lasts false 175 5 0 0 175 [.ref 130, .int x1, .int x2] M (fX11_lasts M x1 x2) := by
  refine Ct_of (lv := [(0, .ref 130), (1, .int x1), (2, .int x2)]) (by decide +kernel) rfl (Nat.le_of_ble_eq_true rfl) rfl (fun h => by cases h) ?_
  refine V_aload_n (k := 0) dX11_lasts_0 rfl rfl ?_
  refine V_iconst (v := 0) dX11_lasts_1 rfl ?_
  refine V_puti dX11_lasts_2 rfl (by decide) vf_X11_154 (by decide) rfl rfl ?_
  refine V_aload_n (k := 0) dX11_lasts_5 rfl rfl ?_
  refine V_iload_n (k := 1) dX11_lasts_6 rfl rfl ?_
  refine V_callVi (q := (RX11, TX11, 61)) (cls := 11) (st0 := []) (kc' := 0) (ks' := 0) dX11_lasts_7 lk_X11_164 rfl (by decide) rfl rfl rfl (cX11_isWork_ok (v_si M 130 1 0) x1 hI) rfl rfl (by decide) (by decide) (Nat.le_of_ble_eq_true rfl) (Or.inl rfl) rfl rfl (by decide) (by decide) (fun y17 M18 e19 hI20 => ?_)
  refine V_ifeq (tgt := 22) dX11_lasts_10 (by decide) (fun h21 => ?_) (fun h21 => ?_)
  · refine V_sub [0] rfl ?_
    exact vX11_lasts_22 M18 hI20
  · refine V_iload_n (k := 2) dX11_lasts_13 rfl rfl ?_
    refine V_iconst (v := 0) dX11_lasts_14 rfl ?_
    refine V_iconst (v := 2) dX11_lasts_15 rfl ?_
    refine V_callSi (st0 := []) (kc' := 0) (ks' := 0) dX11_lasts_16 lk_X11_160 rfl (cX11_isIn_ok M18 x2 0 2 hI20) rfl rfl (by decide) (by decide) (Nat.le_of_ble_eq_true rfl) (Or.inl rfl) rfl rfl (by decide) (by decide) (fun y22 M23 e24 hI25 => ?_)
    refine V_ifne (tgt := 28) dX11_lasts_19 (by decide) (fun h26 => ?_) (fun h26 => ?_)
    · refine V_aload_n (k := 0) dX11_lasts_28 rfl rfl ?_
      refine V_iload_n (k := 1) dX11_lasts_29 rfl rfl ?_
      refine V_sipush (v := 2000) dX11_lasts_30 rfl ?_
      refine V_callVv (q := (RX11, TX11, 61)) (cls := 11) (st0 := []) (kc' := 0) (ks' := 0) dX11_lasts_33 lk_X11_391 rfl (by decide) rfl rfl rfl (cX11_tellLasts_ok M23 x1 2000 hI25) rfl rfl (by decide) (by decide) (Nat.le_of_ble_eq_true rfl) (Or.inl rfl) rfl rfl (by decide) (by decide) (fun  M27 e28 hI29 => ?_)
      refine V_iload_n (k := 2) dX11_lasts_36 rfl rfl ?_
      refine V_iconst (v := 2) dX11_lasts_37 rfl ?_
      refine V_icmpge (tgt := 75) dX11_lasts_38 (by decide) (fun h30 => ?_) (fun h30 => ?_)
      · refine V_iconst (v := 0) dX11_lasts_75 rfl ?_
        refine V_istore_n (lv' := [(3, .int 0), (0, .ref 130), (1, .int x1), (2, .int x2)]) dX11_lasts_76 rfl (by decide) rfl ?_
        refine V_iconst (v := 0) dX11_lasts_77 rfl ?_
        refine V_istore (lv' := [(4, .int 0), (3, .int 0), (0, .ref 130), (1, .int x1), (2, .int x2)]) dX11_lasts_78 (by decide) rfl ?_
        refine V_sub [2, 3, 1, 0] rfl ?_
        exact vX11_lasts_80 FU M27 x1 0 0 hI29
      · refine V_iload_n (k := 2) dX11_lasts_41 rfl rfl ?_
        refine V_ifne (tgt := 52) dX11_lasts_42 (by decide) (fun h31 => ?_) (fun h31 => ?_)
        · refine V_aload_n (k := 0) dX11_lasts_52 rfl rfl ?_
          refine V_geti dX11_lasts_53 rfl (by decide) vf_X11_388 (by decide) ?_
          refine V_ifne (tgt := 63) dX11_lasts_56 (by decide) (fun h32 => ?_) (fun h32 => ?_)
          · refine V_aload_n (k := 0) dX11_lasts_63 rfl rfl ?_
            refine V_getr (k := 160) dX11_lasts_64 rfl (by decide) vf_X11_111 (by decide) (v_fin hI29 147 rfl) ?_
            refine V_aload_n (k := 0) dX11_lasts_67 rfl rfl ?_
            refine V_geti dX11_lasts_68 rfl (by decide) vf_X11_388 (by decide) ?_
            refine V_iconst (v := 1) dX11_lasts_71 rfl ?_
            refine V_isub dX11_lasts_72 ?_
            refine V_iald dX11_lasts_73 rfl (by decide) (fun h33 => ?_)
            exact V_ret (fun _ => hI29) (Or.inr (Or.inl ⟨rfl, _, rfl⟩)) dX11_lasts_74 (fun ty x h1 h2 => by cases h1; rfl) rfl
          · refine V_iconst (v := (-1)) dX11_lasts_59 rfl ?_
            refine V_goto (tgt := 74) dX11_lasts_60 (by decide) ?_
            exact V_ret (fun _ => hI29) (Or.inr (Or.inl ⟨rfl, _, rfl⟩)) dX11_lasts_74 (fun ty x h1 h2 => by cases h1; rfl) rfl
        · refine V_aload_n (k := 0) dX11_lasts_45 rfl rfl ?_
          refine V_geti dX11_lasts_46 rfl (by decide) vf_X11_388 (by decide) ?_
          refine V_goto (tgt := 74) dX11_lasts_49 (by decide) ?_
          exact V_ret (fun _ => hI29) (Or.inr (Or.inl ⟨rfl, _, rfl⟩)) dX11_lasts_74 (fun ty x h1 h2 => by cases h1; rfl) rfl
    · refine V_sub [0] rfl ?_
      exact vX11_lasts_22 M23 hI25
def fX11_left_26 (M : vM) : Option (vR × vM) := bi (fX11_fail M 1) fun y3 M4 => rI y3 M4
set_option maxRecDepth 20000 in
set_option maxHeartbeats 2000000 in
theorem vX11_left_26 {l : Launch} {D : va_G} {dA : Nat → ClassId} : ∀ (M : vM), v_WT M.2.2 → V l D dA sX11_left false 175 3 0 0 26 [(0, .ref 130)] [] 175 M (fX11_left_26 M) := by
  intro M hI
  refine V_aload_n (k := 0) dX11_left_26 rfl rfl ?_
  refine V_iconst (v := 1) dX11_left_27 rfl ?_
  refine V_callVi (q := (RX11, TX11, 61)) (cls := 11) (st0 := []) (kc' := 0) (ks' := 0) dX11_left_28 lk_X11_287 rfl (by decide) rfl rfl rfl (cX11_fail_ok M 1 hI) rfl rfl (by decide) (by decide) (Nat.le_of_ble_eq_true rfl) (Or.inl rfl) rfl rfl (by decide) (by decide) (fun y3 M4 e5 hI6 => ?_)
  exact V_ret (fun _ => hI6) (Or.inr (Or.inl ⟨rfl, _, rfl⟩)) dX11_left_31 (fun ty x h1 h2 => by cases h1; rfl) rfl
def fX11_left (M : vM) (x1 : Int32) (x2 : Int32) : Option (vR × vM) := bi (fX11_isWork (v_si M 130 1 0) x1) fun y7 M8 => if y7 = 0 then fX11_left_26 M8 else if x2 < 0 then fX11_left_26 M8 else bi (fX11_leftAt M8 x1 x2) fun y13 M14 => rI y13 M14
set_option maxRecDepth 20000 in
set_option maxHeartbeats 2000000 in
theorem cX11_left_ok {l : Launch} {D : va_G} {dA : Nat → ClassId} (M : vM) (x1 : Int32) (x2 : Int32) (hI : v_WT M.2.2) : Ct l D dA sX11_left false 175 3 0 0 175 [.ref 130, .int x1, .int x2] M (fX11_left M x1 x2) := by
  refine Ct_of (lv := [(0, .ref 130), (1, .int x1), (2, .int x2)]) (by decide +kernel) rfl (Nat.le_of_ble_eq_true rfl) rfl (fun h => by cases h) ?_
  refine V_aload_n (k := 0) dX11_left_0 rfl rfl ?_
  refine V_iconst (v := 0) dX11_left_1 rfl ?_
  refine V_puti dX11_left_2 rfl (by decide) vf_X11_154 (by decide) rfl rfl ?_
  refine V_aload_n (k := 0) dX11_left_5 rfl rfl ?_
  refine V_iload_n (k := 1) dX11_left_6 rfl rfl ?_
  refine V_callVi (q := (RX11, TX11, 61)) (cls := 11) (st0 := []) (kc' := 0) (ks' := 0) dX11_left_7 lk_X11_164 rfl (by decide) rfl rfl rfl (cX11_isWork_ok (v_si M 130 1 0) x1 hI) rfl rfl (by decide) (by decide) (Nat.le_of_ble_eq_true rfl) (Or.inl rfl) rfl rfl (by decide) (by decide) (fun y7 M8 e9 hI10 => ?_)
  refine V_ifeq (tgt := 26) dX11_left_10 (by decide) (fun h11 => ?_) (fun h11 => ?_)
  · refine V_sub [0] rfl ?_
    exact vX11_left_26 M8 hI10
  · refine V_iload_n (k := 2) dX11_left_13 rfl rfl ?_
    refine V_iflt (tgt := 26) dX11_left_14 (by decide) (fun h12 => ?_) (fun h12 => ?_)
    · refine V_sub [0] rfl ?_
      exact vX11_left_26 M8 hI10
    · refine V_aload_n (k := 0) dX11_left_17 rfl rfl ?_
      refine V_iload_n (k := 1) dX11_left_18 rfl rfl ?_
      refine V_iload_n (k := 2) dX11_left_19 rfl rfl ?_
      refine V_callVi (q := (RX11, TX11, 61)) (cls := 11) (st0 := []) (kc' := 0) (ks' := 0) dX11_left_20 lk_X11_378 rfl (by decide) rfl rfl rfl (cX11_leftAt_ok M8 x1 x2 hI10) rfl rfl (by decide) (by decide) (Nat.le_of_ble_eq_true rfl) (Or.inl rfl) rfl rfl (by decide) (by decide) (fun y13 M14 e15 hI16 => ?_)
      refine V_goto (tgt := 31) dX11_left_23 (by decide) ?_
      exact V_ret (fun _ => hI16) (Or.inr (Or.inl ⟨rfl, _, rfl⟩)) dX11_left_31 (fun ty x h1 h2 => by cases h1; rfl) rfl
def fX11_more_31 (M : vM) : Option (vR × vM) := bi (fX11_fail M 1) fun y46 M47 => rI y46 M47
set_option maxRecDepth 20000 in
set_option maxHeartbeats 2000000 in
theorem vX11_more_31 {l : Launch} {D : va_G} {dA : Nat → ClassId} : ∀ (M : vM), v_WT M.2.2 → V l D dA sX11_more false 175 3 0 0 31 [(0, .ref 130)] [] 175 M (fX11_more_31 M) := by
  intro M hI
  refine V_aload_n (k := 0) dX11_more_31 rfl rfl ?_
  refine V_iconst (v := 1) dX11_more_32 rfl ?_
  refine V_callVi (q := (RX11, TX11, 61)) (cls := 11) (st0 := []) (kc' := 0) (ks' := 0) dX11_more_33 lk_X11_287 rfl (by decide) rfl rfl rfl (cX11_fail_ok M 1 hI) rfl rfl (by decide) (by decide) (Nat.le_of_ble_eq_true rfl) (Or.inl rfl) rfl rfl (by decide) (by decide) (fun y46 M47 e48 hI49 => ?_)
  exact V_ret (fun _ => hI49) (Or.inr (Or.inl ⟨rfl, _, rfl⟩)) dX11_more_36 (fun ty x h1 h2 => by cases h1; rfl) rfl
def fX11_more_59 (k39 : vM → Int32 → Int32 → Int32 → Option (vR × vM)) (M : vM) (x1 : Int32) (x2 : Int32) (x3 : Int32) (s1 : Int32) (s2 : Int32) : Option (vR × vM) := if v_in s1 12 = true then if v_in x1 12 = true then if x3 = (((v_si M 164 (Int32.toNatClampNeg s1) s2).1 133 (Int32.toNatClampNeg x1)) - 1) then if v_in x3 12 = true then k39 (v_si (v_si M 164 (Int32.toNatClampNeg s1) s2) 165 (Int32.toNatClampNeg x3) 1) x1 x2 (x3 + 1) else none else if v_in x3 12 = true then k39 (v_si (v_si M 164 (Int32.toNatClampNeg s1) s2) 165 (Int32.toNatClampNeg x3) 0) x1 x2 (x3 + 1) else none else none else none
set_option maxRecDepth 20000 in
set_option maxHeartbeats 2000000 in
theorem vX11_more_59 {l : Launch} {D : va_G} {dA : Nat → ClassId} {k39 : vM → Int32 → Int32 → Int32 → Option (vR × vM)} (hk39 : ∀ (M : vM) (x1 : Int32) (x2 : Int32) (x3 : Int32), v_WT M.2.2 → V l D dA sX11_more false 175 3 0 0 39 [(0, .ref 130), (1, .int x1), (2, .int x2), (3, .int x3)] [] 175 M (k39 M x1 x2 x3)) : ∀ (M : vM) (x1 : Int32) (x2 : Int32) (x3 : Int32) (s1 : Int32) (s2 : Int32), v_WT M.2.2 → V l D dA sX11_more false 175 3 0 0 59 [(0, .ref 130), (1, .int x1), (2, .int x2), (3, .int x3)] [.int s2, .int s1, .ref 164] 175 M (fX11_more_59 k39 M x1 x2 x3 s1 s2) := by
  intro M x1 x2 x3 s1 s2 hI
  refine V_iast dX11_more_59 rfl (by decide) (fun h50 => ?_)
  refine V_aload_n (k := 0) dX11_more_60 rfl rfl ?_
  refine V_getr (k := 165) dX11_more_61 rfl (by decide) vf_X11_127 (by decide) (v_fin hI 152 rfl) ?_
  refine V_iload_n (k := 3) dX11_more_64 rfl rfl ?_
  refine V_iload_n (k := 3) dX11_more_65 rfl rfl ?_
  refine V_aload_n (k := 0) dX11_more_66 rfl rfl ?_
  refine V_getr (k := 133) dX11_more_67 rfl (by decide) vf_X11_25 (by decide) (v_fin hI 120 rfl) ?_
  refine V_iload_n (k := 1) dX11_more_70 rfl rfl ?_
  refine V_iald dX11_more_71 rfl (by decide) (fun h51 => ?_)
  refine V_iconst (v := 1) dX11_more_72 rfl ?_
  refine V_isub dX11_more_73 ?_
  refine V_icmpne (tgt := 81) dX11_more_74 (by decide) (fun h52 => ?_) (fun h52 => ?_)
  · refine V_iconst (v := 0) dX11_more_81 rfl ?_
    refine V_iast dX11_more_82 rfl (by decide) (fun h53 => ?_)
    refine V_iinc (k := 3) (v := x3 + 1) (lv' := [(3, .int (x3 + 1)), (0, .ref 130), (1, .int x1), (2, .int x2)]) dX11_more_83 rfl rfl (by decide) rfl ?_
    refine V_goto (tgt := 39) dX11_more_86 (by decide) ?_
    refine V_sub [1, 2, 3, 0] rfl ?_
    exact hk39 (v_si (v_si M 164 (Int32.toNatClampNeg s1) s2) 165 (Int32.toNatClampNeg x3) 0) x1 x2 (x3 + 1) hI
  · refine V_iconst (v := 1) dX11_more_77 rfl ?_
    refine V_goto (tgt := 82) dX11_more_78 (by decide) ?_
    refine V_iast dX11_more_82 rfl (by decide) (fun h54 => ?_)
    refine V_iinc (k := 3) (v := x3 + 1) (lv' := [(3, .int (x3 + 1)), (0, .ref 130), (1, .int x1), (2, .int x2)]) dX11_more_83 rfl rfl (by decide) rfl ?_
    refine V_goto (tgt := 39) dX11_more_86 (by decide) ?_
    refine V_sub [1, 2, 3, 0] rfl ?_
    exact hk39 (v_si (v_si M 164 (Int32.toNatClampNeg s1) s2) 165 (Int32.toNatClampNeg x3) 1) x1 x2 (x3 + 1) hI
def fX11_more_104 (k91 : vM → Int32 → Int32 → Int32 → Option (vR × vM)) : Nat → vM → Int32 → Int32 → Int32 → Int32 → Option (vR × vM)
  | 0, _, _, _, _, _ => none
  | n9 + 1, M, x1, x2, x3, x4 => if v_in x1 12 = true then if (M.1 136 (Int32.toNatClampNeg x1)) ≤ x4 then k91 M x1 x2 (x3 + 1) else if v_in ((20 * x1) + x4) 240 = true then if (M.1 140 (Int32.toNatClampNeg ((20 * x1) + x4))) = x3 then if v_in x3 12 = true then if v_in ((20 * x1) + x4) 240 = true then if v_in (M.1 139 (Int32.toNatClampNeg ((20 * x1) + x4))) 12 = true then if v_in x3 12 = true then fX11_more_104 k91 n9 (v_si M 164 (Int32.toNatClampNeg x3) ((M.1 164 (Int32.toNatClampNeg x3)) + (M.1 164 (Int32.toNatClampNeg (M.1 139 (Int32.toNatClampNeg ((20 * x1) + x4))))))) x1 x2 x3 (x4 + 1) else none else none else none else none else fX11_more_104 k91 n9 M x1 x2 x3 (x4 + 1) else none else none
set_option maxRecDepth 20000 in
set_option maxHeartbeats 2000000 in
theorem vX11_more_104 {l : Launch} {D : va_G} {dA : Nat → ClassId} {k91 : vM → Int32 → Int32 → Int32 → Option (vR × vM)} (hk91 : ∀ (M : vM) (x1 : Int32) (x2 : Int32) (x3 : Int32), v_WT M.2.2 → V l D dA sX11_more false 175 3 0 0 91 [(0, .ref 130), (1, .int x1), (2, .int x2), (3, .int x3)] [] 175 M (k91 M x1 x2 x3)) : ∀ (n9 : Nat) (M : vM) (x1 : Int32) (x2 : Int32) (x3 : Int32) (x4 : Int32), v_WT M.2.2 → V l D dA sX11_more false 175 3 0 0 104 [(0, .ref 130), (1, .int x1), (2, .int x2), (3, .int x3), (4, .int x4)] [] 175 M (fX11_more_104 k91 n9 M x1 x2 x3 x4) := by
  intro n9
  induction n9 with
  | zero => intros; exact V_none
  | succ n9 ih =>
    intro M x1 x2 x3 x4 hI
    refine V_iload (k := 4) dX11_more_104 rfl ?_
    refine V_aload_n (k := 0) dX11_more_106 rfl rfl ?_
    refine V_getr (k := 136) dX11_more_107 rfl (by decide) vf_X11_34 (by decide) (v_fin hI 123 rfl) ?_
    refine V_iload_n (k := 1) dX11_more_110 rfl rfl ?_
    refine V_iald dX11_more_111 rfl (by decide) (fun h55 => ?_)
    refine V_icmpge (tgt := 163) dX11_more_112 (by decide) (fun h56 => ?_) (fun h56 => ?_)
    · refine V_iinc (k := 3) (v := x3 + 1) (lv' := [(3, .int (x3 + 1)), (0, .ref 130), (1, .int x1), (2, .int x2), (4, .int x4)]) dX11_more_163 rfl rfl (by decide) rfl ?_
      refine V_goto (tgt := 91) dX11_more_166 (by decide) ?_
      refine V_sub [1, 2, 3, 0] rfl ?_
      exact hk91 M x1 x2 (x3 + 1) hI
    · refine V_aload_n (k := 0) dX11_more_115 rfl rfl ?_
      refine V_getr (k := 140) dX11_more_116 rfl (by decide) vf_X11_46 (by decide) (v_fin hI 127 rfl) ?_
      refine V_bipush (v := 20) dX11_more_119 rfl ?_
      refine V_iload_n (k := 1) dX11_more_121 rfl rfl ?_
      refine V_imul dX11_more_122 ?_
      refine V_iload (k := 4) dX11_more_123 rfl ?_
      refine V_iadd dX11_more_125 ?_
      refine V_iald dX11_more_126 rfl (by decide) (fun h57 => ?_)
      refine V_iload_n (k := 3) dX11_more_127 rfl rfl ?_
      refine V_icmpne (tgt := 157) dX11_more_128 (by decide) (fun h58 => ?_) (fun h58 => ?_)
      · refine V_iinc (k := 4) (v := x4 + 1) (lv' := [(4, .int (x4 + 1)), (0, .ref 130), (1, .int x1), (2, .int x2), (3, .int x3)]) dX11_more_157 rfl rfl (by decide) rfl ?_
        refine V_goto (tgt := 104) dX11_more_160 (by decide) ?_
        refine V_sub [1, 2, 3, 4, 0] rfl ?_
        exact ih M x1 x2 x3 (x4 + 1) hI
      · refine V_aload_n (k := 0) dX11_more_131 rfl rfl ?_
        refine V_getr (k := 164) dX11_more_132 rfl (by decide) vf_X11_124 (by decide) (v_fin hI 151 rfl) ?_
        refine V_iload_n (k := 3) dX11_more_135 rfl rfl ?_
        refine V_dup2 dX11_more_136 rfl rfl ?_
        refine V_iald dX11_more_137 rfl (by decide) (fun h59 => ?_)
        refine V_aload_n (k := 0) dX11_more_138 rfl rfl ?_
        refine V_getr (k := 164) dX11_more_139 rfl (by decide) vf_X11_124 (by decide) (v_fin hI 151 rfl) ?_
        refine V_aload_n (k := 0) dX11_more_142 rfl rfl ?_
        refine V_getr (k := 139) dX11_more_143 rfl (by decide) vf_X11_43 (by decide) (v_fin hI 126 rfl) ?_
        refine V_bipush (v := 20) dX11_more_146 rfl ?_
        refine V_iload_n (k := 1) dX11_more_148 rfl rfl ?_
        refine V_imul dX11_more_149 ?_
        refine V_iload (k := 4) dX11_more_150 rfl ?_
        refine V_iadd dX11_more_152 ?_
        refine V_iald dX11_more_153 rfl (by decide) (fun h60 => ?_)
        refine V_iald dX11_more_154 rfl (by decide) (fun h61 => ?_)
        refine V_iadd dX11_more_155 ?_
        refine V_iast dX11_more_156 rfl (by decide) (fun h62 => ?_)
        refine V_iinc (k := 4) (v := x4 + 1) (lv' := [(4, .int (x4 + 1)), (0, .ref 130), (1, .int x1), (2, .int x2), (3, .int x3)]) dX11_more_157 rfl rfl (by decide) rfl ?_
        refine V_goto (tgt := 104) dX11_more_160 (by decide) ?_
        refine V_sub [1, 2, 3, 4, 0] rfl ?_
        exact ih (v_si M 164 (Int32.toNatClampNeg x3) ((M.1 164 (Int32.toNatClampNeg x3)) + (M.1 164 (Int32.toNatClampNeg (M.1 139 (Int32.toNatClampNeg ((20 * x1) + x4))))))) x1 x2 x3 (x4 + 1) hI
def fX11_more_185 (k178 : vM → Int32 → Int32 → Int32 → Option (vR × vM)) : Nat → vM → Int32 → Int32 → Int32 → Int32 → Option (vR × vM)
  | 0, _, _, _, _, _ => none
  | n9 + 1, M, x1, x2, x3, x4 => if v_in x1 12 = true then if (M.1 136 (Int32.toNatClampNeg x1)) ≤ x4 then k178 M x1 x2 (x3 + (-1)) else if v_in ((20 * x1) + x4) 240 = true then if (M.1 139 (Int32.toNatClampNeg ((20 * x1) + x4))) = x3 then if v_in x3 12 = true then if v_in ((20 * x1) + x4) 240 = true then if v_in (M.1 140 (Int32.toNatClampNeg ((20 * x1) + x4))) 12 = true then if v_in x3 12 = true then fX11_more_185 k178 n9 (v_si M 165 (Int32.toNatClampNeg x3) ((M.1 165 (Int32.toNatClampNeg x3)) + (M.1 165 (Int32.toNatClampNeg (M.1 140 (Int32.toNatClampNeg ((20 * x1) + x4))))))) x1 x2 x3 (x4 + 1) else none else none else none else none else fX11_more_185 k178 n9 M x1 x2 x3 (x4 + 1) else none else none
set_option maxRecDepth 20000 in
set_option maxHeartbeats 2000000 in
theorem vX11_more_185 {l : Launch} {D : va_G} {dA : Nat → ClassId} {k178 : vM → Int32 → Int32 → Int32 → Option (vR × vM)} (hk178 : ∀ (M : vM) (x1 : Int32) (x2 : Int32) (x3 : Int32), v_WT M.2.2 → V l D dA sX11_more false 175 3 0 0 178 [(0, .ref 130), (1, .int x1), (2, .int x2), (3, .int x3)] [] 175 M (k178 M x1 x2 x3)) : ∀ (n9 : Nat) (M : vM) (x1 : Int32) (x2 : Int32) (x3 : Int32) (x4 : Int32), v_WT M.2.2 → V l D dA sX11_more false 175 3 0 0 185 [(0, .ref 130), (1, .int x1), (2, .int x2), (3, .int x3), (4, .int x4)] [] 175 M (fX11_more_185 k178 n9 M x1 x2 x3 x4) := by
  intro n9
  induction n9 with
  | zero => intros; exact V_none
  | succ n9 ih =>
    intro M x1 x2 x3 x4 hI
    refine V_iload (k := 4) dX11_more_185 rfl ?_
    refine V_aload_n (k := 0) dX11_more_187 rfl rfl ?_
    refine V_getr (k := 136) dX11_more_188 rfl (by decide) vf_X11_34 (by decide) (v_fin hI 123 rfl) ?_
    refine V_iload_n (k := 1) dX11_more_191 rfl rfl ?_
    refine V_iald dX11_more_192 rfl (by decide) (fun h63 => ?_)
    refine V_icmpge (tgt := 244) dX11_more_193 (by decide) (fun h64 => ?_) (fun h64 => ?_)
    · refine V_iinc (k := 3) (v := x3 + (-1)) (lv' := [(3, .int (x3 + (-1))), (0, .ref 130), (1, .int x1), (2, .int x2), (4, .int x4)]) dX11_more_244 rfl rfl (by decide) rfl ?_
      refine V_goto (tgt := 178) dX11_more_247 (by decide) ?_
      refine V_sub [1, 2, 3, 0] rfl ?_
      exact hk178 M x1 x2 (x3 + (-1)) hI
    · refine V_aload_n (k := 0) dX11_more_196 rfl rfl ?_
      refine V_getr (k := 139) dX11_more_197 rfl (by decide) vf_X11_43 (by decide) (v_fin hI 126 rfl) ?_
      refine V_bipush (v := 20) dX11_more_200 rfl ?_
      refine V_iload_n (k := 1) dX11_more_202 rfl rfl ?_
      refine V_imul dX11_more_203 ?_
      refine V_iload (k := 4) dX11_more_204 rfl ?_
      refine V_iadd dX11_more_206 ?_
      refine V_iald dX11_more_207 rfl (by decide) (fun h65 => ?_)
      refine V_iload_n (k := 3) dX11_more_208 rfl rfl ?_
      refine V_icmpne (tgt := 238) dX11_more_209 (by decide) (fun h66 => ?_) (fun h66 => ?_)
      · refine V_iinc (k := 4) (v := x4 + 1) (lv' := [(4, .int (x4 + 1)), (0, .ref 130), (1, .int x1), (2, .int x2), (3, .int x3)]) dX11_more_238 rfl rfl (by decide) rfl ?_
        refine V_goto (tgt := 185) dX11_more_241 (by decide) ?_
        refine V_sub [1, 2, 3, 4, 0] rfl ?_
        exact ih M x1 x2 x3 (x4 + 1) hI
      · refine V_aload_n (k := 0) dX11_more_212 rfl rfl ?_
        refine V_getr (k := 165) dX11_more_213 rfl (by decide) vf_X11_127 (by decide) (v_fin hI 152 rfl) ?_
        refine V_iload_n (k := 3) dX11_more_216 rfl rfl ?_
        refine V_dup2 dX11_more_217 rfl rfl ?_
        refine V_iald dX11_more_218 rfl (by decide) (fun h67 => ?_)
        refine V_aload_n (k := 0) dX11_more_219 rfl rfl ?_
        refine V_getr (k := 165) dX11_more_220 rfl (by decide) vf_X11_127 (by decide) (v_fin hI 152 rfl) ?_
        refine V_aload_n (k := 0) dX11_more_223 rfl rfl ?_
        refine V_getr (k := 140) dX11_more_224 rfl (by decide) vf_X11_46 (by decide) (v_fin hI 127 rfl) ?_
        refine V_bipush (v := 20) dX11_more_227 rfl ?_
        refine V_iload_n (k := 1) dX11_more_229 rfl rfl ?_
        refine V_imul dX11_more_230 ?_
        refine V_iload (k := 4) dX11_more_231 rfl ?_
        refine V_iadd dX11_more_233 ?_
        refine V_iald dX11_more_234 rfl (by decide) (fun h68 => ?_)
        refine V_iald dX11_more_235 rfl (by decide) (fun h69 => ?_)
        refine V_iadd dX11_more_236 ?_
        refine V_iast dX11_more_237 rfl (by decide) (fun h70 => ?_)
        refine V_iinc (k := 4) (v := x4 + 1) (lv' := [(4, .int (x4 + 1)), (0, .ref 130), (1, .int x1), (2, .int x2), (3, .int x3)]) dX11_more_238 rfl rfl (by decide) rfl ?_
        refine V_goto (tgt := 185) dX11_more_241 (by decide) ?_
        refine V_sub [1, 2, 3, 4, 0] rfl ?_
        exact ih (v_si M 165 (Int32.toNatClampNeg x3) ((M.1 165 (Int32.toNatClampNeg x3)) + (M.1 165 (Int32.toNatClampNeg (M.1 140 (Int32.toNatClampNeg ((20 * x1) + x4))))))) x1 x2 x3 (x4 + 1) hI
def fX11_more_275 (k258 : vM → Int32 → Int32 → Int32 → Int32 → Int32 → Option (vR × vM)) : Nat → vM → Int32 → Int32 → Int32 → Int32 → Int32 → Int32 → Option (vR × vM)
  | 0, _, _, _, _, _, _, _ => none
  | n9 + 1, M, x1, x2, x3, x4, x5, x6 => if v_in x1 12 = true then if (M.1 133 (Int32.toNatClampNeg x1)) ≤ x6 then k258 M x1 x2 x3 x4 (x5 + 1) else if v_in x5 12 = true then if v_in x6 12 = true then if v_in x3 12 = true then if v_in x4 12 = true then if ((M.1 164 (Int32.toNatClampNeg x3)) * (M.1 165 (Int32.toNatClampNeg x4))) < ((M.1 164 (Int32.toNatClampNeg x5)) * (M.1 165 (Int32.toNatClampNeg x6))) then fX11_more_275 k258 n9 M x1 x2 x5 x6 x5 (x6 + 1) else fX11_more_275 k258 n9 M x1 x2 x3 x4 x5 (x6 + 1) else none else none else none else none else none
set_option maxRecDepth 20000 in
set_option maxHeartbeats 2000000 in
theorem vX11_more_275 {l : Launch} {D : va_G} {dA : Nat → ClassId} {k258 : vM → Int32 → Int32 → Int32 → Int32 → Int32 → Option (vR × vM)} (hk258 : ∀ (M : vM) (x1 : Int32) (x2 : Int32) (x3 : Int32) (x4 : Int32) (x5 : Int32), v_WT M.2.2 → V l D dA sX11_more false 175 3 0 0 258 [(0, .ref 130), (1, .int x1), (2, .int x2), (3, .int x3), (4, .int x4), (5, .int x5)] [] 175 M (k258 M x1 x2 x3 x4 x5)) : ∀ (n9 : Nat) (M : vM) (x1 : Int32) (x2 : Int32) (x3 : Int32) (x4 : Int32) (x5 : Int32) (x6 : Int32), v_WT M.2.2 → V l D dA sX11_more false 175 3 0 0 275 [(0, .ref 130), (1, .int x1), (2, .int x2), (3, .int x3), (4, .int x4), (5, .int x5), (6, .int x6)] [] 175 M (fX11_more_275 k258 n9 M x1 x2 x3 x4 x5 x6) := by
  intro n9
  induction n9 with
  | zero => intros; exact V_none
  | succ n9 ih =>
    intro M x1 x2 x3 x4 x5 x6 hI
    refine V_iload (k := 6) dX11_more_275 rfl ?_
    refine V_aload_n (k := 0) dX11_more_277 rfl rfl ?_
    refine V_getr (k := 133) dX11_more_278 rfl (by decide) vf_X11_25 (by decide) (v_fin hI 120 rfl) ?_
    refine V_iload_n (k := 1) dX11_more_281 rfl rfl ?_
    refine V_iald dX11_more_282 rfl (by decide) (fun h71 => ?_)
    refine V_icmpge (tgt := 334) dX11_more_283 (by decide) (fun h72 => ?_) (fun h72 => ?_)
    · refine V_iinc (k := 5) (v := x5 + 1) (lv' := [(5, .int (x5 + 1)), (0, .ref 130), (1, .int x1), (2, .int x2), (3, .int x3), (4, .int x4), (6, .int x6)]) dX11_more_334 rfl rfl (by decide) rfl ?_
      refine V_goto (tgt := 258) dX11_more_337 (by decide) ?_
      refine V_sub [1, 2, 3, 4, 5, 0] rfl ?_
      exact hk258 M x1 x2 x3 x4 (x5 + 1) hI
    · refine V_aload_n (k := 0) dX11_more_286 rfl rfl ?_
      refine V_getr (k := 164) dX11_more_287 rfl (by decide) vf_X11_124 (by decide) (v_fin hI 151 rfl) ?_
      refine V_iload (k := 5) dX11_more_290 rfl ?_
      refine V_iald dX11_more_292 rfl (by decide) (fun h73 => ?_)
      refine V_aload_n (k := 0) dX11_more_293 rfl rfl ?_
      refine V_getr (k := 165) dX11_more_294 rfl (by decide) vf_X11_127 (by decide) (v_fin hI 152 rfl) ?_
      refine V_iload (k := 6) dX11_more_297 rfl ?_
      refine V_iald dX11_more_299 rfl (by decide) (fun h74 => ?_)
      refine V_imul dX11_more_300 ?_
      refine V_aload_n (k := 0) dX11_more_301 rfl rfl ?_
      refine V_getr (k := 164) dX11_more_302 rfl (by decide) vf_X11_124 (by decide) (v_fin hI 151 rfl) ?_
      refine V_iload_n (k := 3) dX11_more_305 rfl rfl ?_
      refine V_iald dX11_more_306 rfl (by decide) (fun h75 => ?_)
      refine V_aload_n (k := 0) dX11_more_307 rfl rfl ?_
      refine V_getr (k := 165) dX11_more_308 rfl (by decide) vf_X11_127 (by decide) (v_fin hI 152 rfl) ?_
      refine V_iload (k := 4) dX11_more_311 rfl ?_
      refine V_iald dX11_more_313 rfl (by decide) (fun h76 => ?_)
      refine V_imul dX11_more_314 ?_
      refine V_icmpgt (tgt := 321) dX11_more_315 (by decide) (fun h77 => ?_) (fun h77 => ?_)
      · refine V_iload (k := 5) dX11_more_321 rfl ?_
        refine V_istore_n (lv' := [(3, .int x5), (0, .ref 130), (1, .int x1), (2, .int x2), (4, .int x4), (5, .int x5), (6, .int x6)]) dX11_more_323 rfl (by decide) rfl ?_
        refine V_iload (k := 6) dX11_more_324 rfl ?_
        refine V_istore (lv' := [(4, .int x6), (3, .int x5), (0, .ref 130), (1, .int x1), (2, .int x2), (5, .int x5), (6, .int x6)]) dX11_more_326 (by decide) rfl ?_
        refine V_iinc (k := 6) (v := x6 + 1) (lv' := [(6, .int (x6 + 1)), (4, .int x6), (3, .int x5), (0, .ref 130), (1, .int x1), (2, .int x2), (5, .int x5)]) dX11_more_328 rfl rfl (by decide) rfl ?_
        refine V_goto (tgt := 275) dX11_more_331 (by decide) ?_
        refine V_sub [3, 4, 5, 2, 1, 6, 0] rfl ?_
        exact ih M x1 x2 x5 x6 x5 (x6 + 1) hI
      · refine V_goto (tgt := 328) dX11_more_318 (by decide) ?_
        refine V_iinc (k := 6) (v := x6 + 1) (lv' := [(6, .int (x6 + 1)), (0, .ref 130), (1, .int x1), (2, .int x2), (3, .int x3), (4, .int x4), (5, .int x5)]) dX11_more_328 rfl rfl (by decide) rfl ?_
        refine V_goto (tgt := 275) dX11_more_331 (by decide) ?_
        refine V_sub [1, 2, 3, 4, 5, 6, 0] rfl ?_
        exact ih M x1 x2 x3 x4 x5 (x6 + 1) hI
def fX11_more_258 : Nat → vM → Int32 → Int32 → Int32 → Int32 → Int32 → Option (vR × vM)
  | 0, _, _, _, _, _, _ => none
  | n9 + 1, M, x1, x2, x3, x4, x5 => if v_in x1 12 = true then if (M.1 133 (Int32.toNatClampNeg x1)) ≤ x5 then if x2 = 0 then rI x3 M else if x2 = 1 then rI x4 M else if v_in x1 6 = true then if v_in x3 12 = true then if v_in x4 12 = true then rI ((M.1 145 (Int32.toNatClampNeg x1)) + ((M.1 164 (Int32.toNatClampNeg x3)) * (M.1 165 (Int32.toNatClampNeg x4)))) M else none else none else none else fX11_more_275 (fX11_more_258 n9) FU M x1 x2 x3 x4 x5 (x5 + 1) else none
set_option maxRecDepth 20000 in
set_option maxHeartbeats 2000000 in
theorem vX11_more_258 {l : Launch} {D : va_G} {dA : Nat → ClassId} : ∀ (n9 : Nat) (M : vM) (x1 : Int32) (x2 : Int32) (x3 : Int32) (x4 : Int32) (x5 : Int32), v_WT M.2.2 → V l D dA sX11_more false 175 3 0 0 258 [(0, .ref 130), (1, .int x1), (2, .int x2), (3, .int x3), (4, .int x4), (5, .int x5)] [] 175 M (fX11_more_258 n9 M x1 x2 x3 x4 x5) := by
  intro n9
  induction n9 with
  | zero => intros; exact V_none
  | succ n9 ih =>
    intro M x1 x2 x3 x4 x5 hI
    refine V_iload (k := 5) dX11_more_258 rfl ?_
    refine V_aload_n (k := 0) dX11_more_260 rfl rfl ?_
    refine V_getr (k := 133) dX11_more_261 rfl (by decide) vf_X11_25 (by decide) (v_fin hI 120 rfl) ?_
    refine V_iload_n (k := 1) dX11_more_264 rfl rfl ?_
    refine V_iald dX11_more_265 rfl (by decide) (fun h78 => ?_)
    refine V_icmpge (tgt := 340) dX11_more_266 (by decide) (fun h79 => ?_) (fun h79 => ?_)
    · refine V_iload_n (k := 2) dX11_more_340 rfl rfl ?_
      refine V_ifne (tgt := 348) dX11_more_341 (by decide) (fun h80 => ?_) (fun h80 => ?_)
      · refine V_iload_n (k := 2) dX11_more_348 rfl rfl ?_
        refine V_iconst (v := 1) dX11_more_349 rfl ?_
        refine V_icmpne (tgt := 358) dX11_more_350 (by decide) (fun h81 => ?_) (fun h81 => ?_)
        · refine V_aload_n (k := 0) dX11_more_358 rfl rfl ?_
          refine V_getr (k := 145) dX11_more_359 rfl (by decide) vf_X11_61 (by decide) (v_fin hI 132 rfl) ?_
          refine V_iload_n (k := 1) dX11_more_362 rfl rfl ?_
          refine V_iald dX11_more_363 rfl (by decide) (fun h82 => ?_)
          refine V_aload_n (k := 0) dX11_more_364 rfl rfl ?_
          refine V_getr (k := 164) dX11_more_365 rfl (by decide) vf_X11_124 (by decide) (v_fin hI 151 rfl) ?_
          refine V_iload_n (k := 3) dX11_more_368 rfl rfl ?_
          refine V_iald dX11_more_369 rfl (by decide) (fun h83 => ?_)
          refine V_aload_n (k := 0) dX11_more_370 rfl rfl ?_
          refine V_getr (k := 165) dX11_more_371 rfl (by decide) vf_X11_127 (by decide) (v_fin hI 152 rfl) ?_
          refine V_iload (k := 4) dX11_more_374 rfl ?_
          refine V_iald dX11_more_376 rfl (by decide) (fun h84 => ?_)
          refine V_imul dX11_more_377 ?_
          refine V_iadd dX11_more_378 ?_
          exact V_ret (fun _ => hI) (Or.inr (Or.inl ⟨rfl, _, rfl⟩)) dX11_more_379 (fun ty x h1 h2 => by cases h1; rfl) rfl
        · refine V_iload (k := 4) dX11_more_353 rfl ?_
          refine V_goto (tgt := 379) dX11_more_355 (by decide) ?_
          exact V_ret (fun _ => hI) (Or.inr (Or.inl ⟨rfl, _, rfl⟩)) dX11_more_379 (fun ty x h1 h2 => by cases h1; rfl) rfl
      · refine V_iload_n (k := 3) dX11_more_344 rfl rfl ?_
        refine V_goto (tgt := 379) dX11_more_345 (by decide) ?_
        exact V_ret (fun _ => hI) (Or.inr (Or.inl ⟨rfl, _, rfl⟩)) dX11_more_379 (fun ty x h1 h2 => by cases h1; rfl) rfl
    · refine V_iload (k := 5) dX11_more_269 rfl ?_
      refine V_iconst (v := 1) dX11_more_271 rfl ?_
      refine V_iadd dX11_more_272 ?_
      refine V_istore (lv' := [(6, .int (x5 + 1)), (0, .ref 130), (1, .int x1), (2, .int x2), (3, .int x3), (4, .int x4), (5, .int x5)]) dX11_more_273 (by decide) rfl ?_
      refine V_sub [1, 2, 3, 4, 5, 6, 0] rfl ?_
      exact vX11_more_275 (ih) FU M x1 x2 x3 x4 x5 (x5 + 1) hI
def fX11_more_178 : Nat → vM → Int32 → Int32 → Int32 → Option (vR × vM)
  | 0, _, _, _, _ => none
  | n9 + 1, M, x1, x2, x3 => if x3 < 0 then fX11_more_258 FU M x1 x2 0 1 0 else fX11_more_185 (fX11_more_178 n9) FU M x1 x2 x3 0
set_option maxRecDepth 20000 in
set_option maxHeartbeats 2000000 in
theorem vX11_more_178 {l : Launch} {D : va_G} {dA : Nat → ClassId} : ∀ (n9 : Nat) (M : vM) (x1 : Int32) (x2 : Int32) (x3 : Int32), v_WT M.2.2 → V l D dA sX11_more false 175 3 0 0 178 [(0, .ref 130), (1, .int x1), (2, .int x2), (3, .int x3)] [] 175 M (fX11_more_178 n9 M x1 x2 x3) := by
  intro n9
  induction n9 with
  | zero => intros; exact V_none
  | succ n9 ih =>
    intro M x1 x2 x3 hI
    refine V_iload_n (k := 3) dX11_more_178 rfl rfl ?_
    refine V_iflt (tgt := 250) dX11_more_179 (by decide) (fun h85 => ?_) (fun h85 => ?_)
    · refine V_iconst (v := 0) dX11_more_250 rfl ?_
      refine V_istore_n (lv' := [(3, .int 0), (0, .ref 130), (1, .int x1), (2, .int x2)]) dX11_more_251 rfl (by decide) rfl ?_
      refine V_iconst (v := 1) dX11_more_252 rfl ?_
      refine V_istore (lv' := [(4, .int 1), (3, .int 0), (0, .ref 130), (1, .int x1), (2, .int x2)]) dX11_more_253 (by decide) rfl ?_
      refine V_iconst (v := 0) dX11_more_255 rfl ?_
      refine V_istore (lv' := [(5, .int 0), (4, .int 1), (3, .int 0), (0, .ref 130), (1, .int x1), (2, .int x2)]) dX11_more_256 (by decide) rfl ?_
      refine V_sub [3, 4, 5, 2, 1, 0] rfl ?_
      exact vX11_more_258 FU M x1 x2 0 1 0 hI
    · refine V_iconst (v := 0) dX11_more_182 rfl ?_
      refine V_istore (lv' := [(4, .int 0), (0, .ref 130), (1, .int x1), (2, .int x2), (3, .int x3)]) dX11_more_183 (by decide) rfl ?_
      refine V_sub [1, 2, 3, 4, 0] rfl ?_
      exact vX11_more_185 (ih) FU M x1 x2 x3 0 hI
def fX11_more_91 : Nat → vM → Int32 → Int32 → Int32 → Option (vR × vM)
  | 0, _, _, _, _ => none
  | n9 + 1, M, x1, x2, x3 => if v_in x1 12 = true then if (M.1 133 (Int32.toNatClampNeg x1)) ≤ x3 then if v_in x1 12 = true then fX11_more_178 FU M x1 x2 ((M.1 133 (Int32.toNatClampNeg x1)) - 2) else none else fX11_more_104 (fX11_more_91 n9) FU M x1 x2 x3 0 else none
set_option maxRecDepth 20000 in
set_option maxHeartbeats 2000000 in
theorem vX11_more_91 {l : Launch} {D : va_G} {dA : Nat → ClassId} : ∀ (n9 : Nat) (M : vM) (x1 : Int32) (x2 : Int32) (x3 : Int32), v_WT M.2.2 → V l D dA sX11_more false 175 3 0 0 91 [(0, .ref 130), (1, .int x1), (2, .int x2), (3, .int x3)] [] 175 M (fX11_more_91 n9 M x1 x2 x3) := by
  intro n9
  induction n9 with
  | zero => intros; exact V_none
  | succ n9 ih =>
    intro M x1 x2 x3 hI
    refine V_iload_n (k := 3) dX11_more_91 rfl rfl ?_
    refine V_aload_n (k := 0) dX11_more_92 rfl rfl ?_
    refine V_getr (k := 133) dX11_more_93 rfl (by decide) vf_X11_25 (by decide) (v_fin hI 120 rfl) ?_
    refine V_iload_n (k := 1) dX11_more_96 rfl rfl ?_
    refine V_iald dX11_more_97 rfl (by decide) (fun h86 => ?_)
    refine V_icmpge (tgt := 169) dX11_more_98 (by decide) (fun h87 => ?_) (fun h87 => ?_)
    · refine V_aload_n (k := 0) dX11_more_169 rfl rfl ?_
      refine V_getr (k := 133) dX11_more_170 rfl (by decide) vf_X11_25 (by decide) (v_fin hI 120 rfl) ?_
      refine V_iload_n (k := 1) dX11_more_173 rfl rfl ?_
      refine V_iald dX11_more_174 rfl (by decide) (fun h88 => ?_)
      refine V_iconst (v := 2) dX11_more_175 rfl ?_
      refine V_isub dX11_more_176 ?_
      refine V_istore_n (lv' := [(3, .int ((M.1 133 (Int32.toNatClampNeg x1)) - 2)), (0, .ref 130), (1, .int x1), (2, .int x2)]) dX11_more_177 rfl (by decide) rfl ?_
      refine V_sub [1, 2, 3, 0] rfl ?_
      exact vX11_more_178 FU M x1 x2 ((M.1 133 (Int32.toNatClampNeg x1)) - 2) hI
    · refine V_iconst (v := 0) dX11_more_101 rfl ?_
      refine V_istore (lv' := [(4, .int 0), (0, .ref 130), (1, .int x1), (2, .int x2), (3, .int x3)]) dX11_more_102 (by decide) rfl ?_
      refine V_sub [1, 2, 3, 4, 0] rfl ?_
      exact vX11_more_104 (ih) FU M x1 x2 x3 0 hI
def fX11_more_39 : Nat → vM → Int32 → Int32 → Int32 → Option (vR × vM)
  | 0, _, _, _, _ => none
  | n9 + 1, M, x1, x2, x3 => if 12 ≤ x3 then fX11_more_91 FU M x1 x2 1 else if x3 = 0 then fX11_more_59 (fX11_more_39 n9) M x1 x2 x3 x3 1 else fX11_more_59 (fX11_more_39 n9) M x1 x2 x3 x3 0
set_option maxRecDepth 20000 in
set_option maxHeartbeats 2000000 in
theorem vX11_more_39 {l : Launch} {D : va_G} {dA : Nat → ClassId} : ∀ (n9 : Nat) (M : vM) (x1 : Int32) (x2 : Int32) (x3 : Int32), v_WT M.2.2 → V l D dA sX11_more false 175 3 0 0 39 [(0, .ref 130), (1, .int x1), (2, .int x2), (3, .int x3)] [] 175 M (fX11_more_39 n9 M x1 x2 x3) := by
  intro n9
  induction n9 with
  | zero => intros; exact V_none
  | succ n9 ih =>
    intro M x1 x2 x3 hI
    refine V_iload_n (k := 3) dX11_more_39 rfl rfl ?_
    refine V_bipush (v := 12) dX11_more_40 rfl ?_
    refine V_icmpge (tgt := 89) dX11_more_42 (by decide) (fun h89 => ?_) (fun h89 => ?_)
    · refine V_iconst (v := 1) dX11_more_89 rfl ?_
      refine V_istore_n (lv' := [(3, .int 1), (0, .ref 130), (1, .int x1), (2, .int x2)]) dX11_more_90 rfl (by decide) rfl ?_
      refine V_sub [1, 2, 3, 0] rfl ?_
      exact vX11_more_91 FU M x1 x2 1 hI
    · refine V_aload_n (k := 0) dX11_more_45 rfl rfl ?_
      refine V_getr (k := 164) dX11_more_46 rfl (by decide) vf_X11_124 (by decide) (v_fin hI 151 rfl) ?_
      refine V_iload_n (k := 3) dX11_more_49 rfl rfl ?_
      refine V_iload_n (k := 3) dX11_more_50 rfl rfl ?_
      refine V_ifne (tgt := 58) dX11_more_51 (by decide) (fun h90 => ?_) (fun h90 => ?_)
      · refine V_iconst (v := 0) dX11_more_58 rfl ?_
        refine V_sub [0, 1, 2, 3] rfl ?_
        exact vX11_more_59 (ih) M x1 x2 x3 x3 0 hI
      · refine V_iconst (v := 1) dX11_more_54 rfl ?_
        refine V_goto (tgt := 59) dX11_more_55 (by decide) ?_
        refine V_sub [0, 1, 2, 3] rfl ?_
        exact vX11_more_59 (ih) M x1 x2 x3 x3 1 hI
def fX11_more (M : vM) (x1 : Int32) (x2 : Int32) : Option (vR × vM) := bi (fX11_isWork (v_si M 130 1 0) x1) fun y91 M92 => if y91 = 0 then fX11_more_31 M92 else if v_in x1 12 = true then if (M92.1 132 (Int32.toNatClampNeg x1)) = 0 then bi (fX11_isIn M92 x2 0 2) fun y98 M99 => if y98 = 0 then fX11_more_31 M99 else fX11_more_39 FU M99 x1 x2 0 else fX11_more_31 M92 else none
set_option maxRecDepth 20000 in
set_option maxHeartbeats 2000000 in
theorem cX11_more_ok {l : Launch} {D : va_G} {dA : Nat → ClassId} (M : vM) (x1 : Int32) (x2 : Int32) (hI : v_WT M.2.2) : Ct l D dA sX11_more false 175 3 0 0 175 [.ref 130, .int x1, .int x2] M (fX11_more M x1 x2) := by
  refine Ct_of (lv := [(0, .ref 130), (1, .int x1), (2, .int x2)]) (by decide +kernel) rfl (Nat.le_of_ble_eq_true rfl) rfl (fun h => by cases h) ?_
  refine V_aload_n (k := 0) dX11_more_0 rfl rfl ?_
  refine V_iconst (v := 0) dX11_more_1 rfl ?_
  refine V_puti dX11_more_2 rfl (by decide) vf_X11_154 (by decide) rfl rfl ?_
  refine V_aload_n (k := 0) dX11_more_5 rfl rfl ?_
  refine V_iload_n (k := 1) dX11_more_6 rfl rfl ?_
  refine V_callVi (q := (RX11, TX11, 61)) (cls := 11) (st0 := []) (kc' := 0) (ks' := 0) dX11_more_7 lk_X11_164 rfl (by decide) rfl rfl rfl (cX11_isWork_ok (v_si M 130 1 0) x1 hI) rfl rfl (by decide) (by decide) (Nat.le_of_ble_eq_true rfl) (Or.inl rfl) rfl rfl (by decide) (by decide) (fun y91 M92 e93 hI94 => ?_)
  refine V_ifeq (tgt := 31) dX11_more_10 (by decide) (fun h95 => ?_) (fun h95 => ?_)
  · refine V_sub [0] rfl ?_
    exact vX11_more_31 M92 hI94
  · refine V_aload_n (k := 0) dX11_more_13 rfl rfl ?_
    refine V_getr (k := 132) dX11_more_14 rfl (by decide) vf_X11_21 (by decide) (v_fin hI94 119 rfl) ?_
    refine V_iload_n (k := 1) dX11_more_17 rfl rfl ?_
    refine V_iald dX11_more_18 rfl (by decide) (fun h96 => ?_)
    refine V_ifne (tgt := 31) dX11_more_19 (by decide) (fun h97 => ?_) (fun h97 => ?_)
    · refine V_sub [0] rfl ?_
      exact vX11_more_31 M92 hI94
    · refine V_iload_n (k := 2) dX11_more_22 rfl rfl ?_
      refine V_iconst (v := 0) dX11_more_23 rfl ?_
      refine V_iconst (v := 2) dX11_more_24 rfl ?_
      refine V_callSi (st0 := []) (kc' := 0) (ks' := 0) dX11_more_25 lk_X11_160 rfl (cX11_isIn_ok M92 x2 0 2 hI94) rfl rfl (by decide) (by decide) (Nat.le_of_ble_eq_true rfl) (Or.inl rfl) rfl rfl (by decide) (by decide) (fun y98 M99 e100 hI101 => ?_)
      refine V_ifne (tgt := 37) dX11_more_28 (by decide) (fun h102 => ?_) (fun h102 => ?_)
      · refine V_iconst (v := 0) dX11_more_37 rfl ?_
        refine V_istore_n (lv' := [(3, .int 0), (0, .ref 130), (1, .int x1), (2, .int x2)]) dX11_more_38 rfl (by decide) rfl ?_
        refine V_sub [1, 2, 3, 0] rfl ?_
        exact vX11_more_39 FU M99 x1 x2 0 hI101
      · refine V_sub [0] rfl ?_
        exact vX11_more_31 M99 hI101
def fX11_near_42 : Nat → vM → Int32 → Int32 → Int32 → Int32 → Int32 → Option (vR × vM)
  | 0, _, _, _, _, _, _ => none
  | n9 + 1, M, x1, x2, x3, x4, x5 => if v_in x1 6 = true then if (M.1 145 (Int32.toNatClampNeg x1)) ≤ x5 then rI x4 M else bi (fX11_markOf M x1 x5) fun y8 M9 => bi (fX11_markOf M9 x1 x2) fun y12 M13 => bi (fX11_bitsOf M13 (y8 ^^^ y12)) fun y16 M17 => if x3 ≤ y16 then fX11_near_42 n9 M17 x1 x2 x3 (x4 + 0) (x5 + 1) else fX11_near_42 n9 M17 x1 x2 x3 (x4 + 1) (x5 + 1) else none
set_option maxRecDepth 20000 in
set_option maxHeartbeats 2000000 in
theorem vX11_near_42 {l : Launch} {D : va_G} {dA : Nat → ClassId} : ∀ (n9 : Nat) (M : vM) (x1 : Int32) (x2 : Int32) (x3 : Int32) (x4 : Int32) (x5 : Int32), v_WT M.2.2 → V l D dA sX11_near false 175 4 0 0 42 [(0, .ref 130), (1, .int x1), (2, .int x2), (3, .int x3), (4, .int x4), (5, .int x5)] [] 175 M (fX11_near_42 n9 M x1 x2 x3 x4 x5) := by
  intro n9
  induction n9 with
  | zero => intros; exact V_none
  | succ n9 ih =>
    intro M x1 x2 x3 x4 x5 hI
    refine V_iload (k := 5) dX11_near_42 rfl ?_
    refine V_aload_n (k := 0) dX11_near_44 rfl rfl ?_
    refine V_getr (k := 145) dX11_near_45 rfl (by decide) vf_X11_61 (by decide) (v_fin hI 132 rfl) ?_
    refine V_iload_n (k := 1) dX11_near_48 rfl rfl ?_
    refine V_iald dX11_near_49 rfl (by decide) (fun h6 => ?_)
    refine V_icmpge (tgt := 90) dX11_near_50 (by decide) (fun h7 => ?_) (fun h7 => ?_)
    · refine V_iload (k := 4) dX11_near_90 rfl ?_
      exact V_ret (fun _ => hI) (Or.inr (Or.inl ⟨rfl, _, rfl⟩)) dX11_near_92 (fun ty x h1 h2 => by cases h1; rfl) rfl
    · refine V_iload (k := 4) dX11_near_53 rfl ?_
      refine V_aload_n (k := 0) dX11_near_55 rfl rfl ?_
      refine V_iload_n (k := 1) dX11_near_56 rfl rfl ?_
      refine V_iload (k := 5) dX11_near_57 rfl ?_
      refine V_callVi (q := (RX11, TX11, 61)) (cls := 11) (st0 := [.int x4]) (kc' := 0) (ks' := 0) dX11_near_59 lk_X11_349 rfl (by decide) rfl rfl rfl (cX11_markOf_ok M x1 x5 hI) rfl rfl (by decide) (by decide) (Nat.le_of_ble_eq_true rfl) (Or.inl rfl) rfl rfl (by decide) (by decide) (fun y8 M9 e10 hI11 => ?_)
      refine V_aload_n (k := 0) dX11_near_62 rfl rfl ?_
      refine V_iload_n (k := 1) dX11_near_63 rfl rfl ?_
      refine V_iload_n (k := 2) dX11_near_64 rfl rfl ?_
      refine V_callVi (q := (RX11, TX11, 61)) (cls := 11) (st0 := [.int y8, .int x4]) (kc' := 0) (ks' := 0) dX11_near_65 lk_X11_349 rfl (by decide) rfl rfl rfl (cX11_markOf_ok M9 x1 x2 hI11) rfl rfl (by decide) (by decide) (Nat.le_of_ble_eq_true rfl) (Or.inl rfl) rfl rfl (by decide) (by decide) (fun y12 M13 e14 hI15 => ?_)
      refine V_ixor dX11_near_68 ?_
      refine V_callSi (st0 := [.int x4]) (kc' := 0) (ks' := 0) dX11_near_69 lk_X11_324 rfl (cX11_bitsOf_ok M13 (y8 ^^^ y12) hI15) rfl rfl (by decide) (by decide) (Nat.le_of_ble_eq_true rfl) (Or.inl rfl) rfl rfl (by decide) (by decide) (fun y16 M17 e18 hI19 => ?_)
      refine V_iload_n (k := 3) dX11_near_72 rfl rfl ?_
      refine V_icmpge (tgt := 80) dX11_near_73 (by decide) (fun h20 => ?_) (fun h20 => ?_)
      · refine V_iconst (v := 0) dX11_near_80 rfl ?_
        refine V_iadd dX11_near_81 ?_
        refine V_istore (lv' := [(4, .int (x4 + 0)), (0, .ref 130), (1, .int x1), (2, .int x2), (3, .int x3), (5, .int x5)]) dX11_near_82 (by decide) rfl ?_
        refine V_iinc (k := 5) (v := x5 + 1) (lv' := [(5, .int (x5 + 1)), (4, .int (x4 + 0)), (0, .ref 130), (1, .int x1), (2, .int x2), (3, .int x3)]) dX11_near_84 rfl rfl (by decide) rfl ?_
        refine V_goto (tgt := 42) dX11_near_87 (by decide) ?_
        refine V_sub [2, 3, 4, 5, 1, 0] rfl ?_
        exact ih M17 x1 x2 x3 (x4 + 0) (x5 + 1) hI19
      · refine V_iconst (v := 1) dX11_near_76 rfl ?_
        refine V_goto (tgt := 81) dX11_near_77 (by decide) ?_
        refine V_iadd dX11_near_81 ?_
        refine V_istore (lv' := [(4, .int (x4 + 1)), (0, .ref 130), (1, .int x1), (2, .int x2), (3, .int x3), (5, .int x5)]) dX11_near_82 (by decide) rfl ?_
        refine V_iinc (k := 5) (v := x5 + 1) (lv' := [(5, .int (x5 + 1)), (4, .int (x4 + 1)), (0, .ref 130), (1, .int x1), (2, .int x2), (3, .int x3)]) dX11_near_84 rfl rfl (by decide) rfl ?_
        refine V_goto (tgt := 42) dX11_near_87 (by decide) ?_
        refine V_sub [2, 3, 4, 5, 1, 0] rfl ?_
        exact ih M17 x1 x2 x3 (x4 + 1) (x5 + 1) hI19
def fX11_near (M : vM) (x1 : Int32) (x2 : Int32) (x3 : Int32) : Option (vR × vM) := bi (fX11_isWay (v_si M 130 1 0) x1 x2) fun y21 M22 => if y21 = 0 then bi (fX11_fail M22 1) fun y35 M36 => rI y35 M36 else bi (fX11_isIn M22 x3 0 30) fun y26 M27 => if y26 = 0 then bi (fX11_fail M27 2) fun y31 M32 => rI y31 M32 else fX11_near_42 FU M27 x1 x2 x3 0 0
set_option maxRecDepth 20000 in
set_option maxHeartbeats 2000000 in
theorem cX11_near_ok {l : Launch} {D : va_G} {dA : Nat → ClassId} (M : vM) (x1 : Int32) (x2 : Int32) (x3 : Int32) (hI : v_WT M.2.2) : Ct l D dA sX11_near false 175 4 0 0 175 [.ref 130, .int x1, .int x2, .int x3] M (fX11_near M x1 x2 x3) := by
  refine Ct_of (lv := [(0, .ref 130), (1, .int x1), (2, .int x2), (3, .int x3)]) (by decide +kernel) rfl (Nat.le_of_ble_eq_true rfl) rfl (fun h => by cases h) ?_
  refine V_aload_n (k := 0) dX11_near_0 rfl rfl ?_
  refine V_iconst (v := 0) dX11_near_1 rfl ?_
  refine V_puti dX11_near_2 rfl (by decide) vf_X11_154 (by decide) rfl rfl ?_
  refine V_aload_n (k := 0) dX11_near_5 rfl rfl ?_
  refine V_iload_n (k := 1) dX11_near_6 rfl rfl ?_
  refine V_iload_n (k := 2) dX11_near_7 rfl rfl ?_
  refine V_callVi (q := (RX11, TX11, 61)) (cls := 11) (st0 := []) (kc' := 0) (ks' := 0) dX11_near_8 lk_X11_362 rfl (by decide) rfl rfl rfl (cX11_isWay_ok (v_si M 130 1 0) x1 x2 hI) rfl rfl (by decide) (by decide) (Nat.le_of_ble_eq_true rfl) (Or.inl rfl) rfl rfl (by decide) (by decide) (fun y21 M22 e23 hI24 => ?_)
  refine V_ifne (tgt := 20) dX11_near_11 (by decide) (fun h25 => ?_) (fun h25 => ?_)
  · refine V_iload_n (k := 3) dX11_near_20 rfl rfl ?_
    refine V_iconst (v := 0) dX11_near_21 rfl ?_
    refine V_bipush (v := 30) dX11_near_22 rfl ?_
    refine V_callSi (st0 := []) (kc' := 0) (ks' := 0) dX11_near_24 lk_X11_160 rfl (cX11_isIn_ok M22 x3 0 30 hI24) rfl rfl (by decide) (by decide) (Nat.le_of_ble_eq_true rfl) (Or.inl rfl) rfl rfl (by decide) (by decide) (fun y26 M27 e28 hI29 => ?_)
    refine V_ifne (tgt := 36) dX11_near_27 (by decide) (fun h30 => ?_) (fun h30 => ?_)
    · refine V_iconst (v := 0) dX11_near_36 rfl ?_
      refine V_istore (lv' := [(4, .int 0), (0, .ref 130), (1, .int x1), (2, .int x2), (3, .int x3)]) dX11_near_37 (by decide) rfl ?_
      refine V_iconst (v := 0) dX11_near_39 rfl ?_
      refine V_istore (lv' := [(5, .int 0), (4, .int 0), (0, .ref 130), (1, .int x1), (2, .int x2), (3, .int x3)]) dX11_near_40 (by decide) rfl ?_
      refine V_sub [2, 3, 4, 5, 1, 0] rfl ?_
      exact vX11_near_42 FU M27 x1 x2 x3 0 0 hI29
    · refine V_aload_n (k := 0) dX11_near_30 rfl rfl ?_
      refine V_iconst (v := 2) dX11_near_31 rfl ?_
      refine V_callVi (q := (RX11, TX11, 61)) (cls := 11) (st0 := []) (kc' := 0) (ks' := 0) dX11_near_32 lk_X11_287 rfl (by decide) rfl rfl rfl (cX11_fail_ok M27 2 hI29) rfl rfl (by decide) (by decide) (Nat.le_of_ble_eq_true rfl) (Or.inl rfl) rfl rfl (by decide) (by decide) (fun y31 M32 e33 hI34 => ?_)
      exact V_ret (fun _ => hI34) (Or.inr (Or.inl ⟨rfl, _, rfl⟩)) dX11_near_35 (fun ty x h1 h2 => by cases h1; rfl) rfl
  · refine V_aload_n (k := 0) dX11_near_14 rfl rfl ?_
    refine V_iconst (v := 1) dX11_near_15 rfl ?_
    refine V_callVi (q := (RX11, TX11, 61)) (cls := 11) (st0 := []) (kc' := 0) (ks' := 0) dX11_near_16 lk_X11_287 rfl (by decide) rfl rfl rfl (cX11_fail_ok M22 1 hI24) rfl rfl (by decide) (by decide) (Nat.le_of_ble_eq_true rfl) (Or.inl rfl) rfl rfl (by decide) (by decide) (fun y35 M36 e37 hI38 => ?_)
    exact V_ret (fun _ => hI38) (Or.inr (Or.inl ⟨rfl, _, rfl⟩)) dX11_near_19 (fun ty x h1 h2 => by cases h1; rfl) rfl
def fX11_numberLeft_22 : Nat → vM → Int32 → Int32 → Int32 → Int32 → Option (vR × vM)
  | 0, _, _, _, _, _ => none
  | n9 + 1, M, x1, x2, x3, x4 => if x2 ≤ x4 then rI x3 M else if v_in ((2000 * x1) + x4) 12000 = true then if (M.1 148 (Int32.toNatClampNeg ((2000 * x1) + x4))) = 0 then fX11_numberLeft_22 n9 M x1 x2 (x3 + 1) (x4 + 1) else fX11_numberLeft_22 n9 M x1 x2 (x3 + 0) (x4 + 1) else none
set_option maxRecDepth 20000 in
set_option maxHeartbeats 2000000 in
theorem vX11_numberLeft_22 {l : Launch} {D : va_G} {dA : Nat → ClassId} : ∀ (n9 : Nat) (M : vM) (x1 : Int32) (x2 : Int32) (x3 : Int32) (x4 : Int32), v_WT M.2.2 → V l D dA sX11_numberLeft false 175 1 0 0 22 [(0, .ref 130), (1, .int x1), (2, .int x2), (3, .int x3), (4, .int x4)] [] 175 M (fX11_numberLeft_22 n9 M x1 x2 x3 x4) := by
  intro n9
  induction n9 with
  | zero => intros; exact V_none
  | succ n9 ih =>
    intro M x1 x2 x3 x4 hI
    refine V_iload (k := 4) dX11_numberLeft_22 rfl ?_
    refine V_iload_n (k := 2) dX11_numberLeft_24 rfl rfl ?_
    refine V_icmpge (tgt := 58) dX11_numberLeft_25 (by decide) (fun h6 => ?_) (fun h6 => ?_)
    · refine V_iload_n (k := 3) dX11_numberLeft_58 rfl rfl ?_
      exact V_ret (fun _ => hI) (Or.inr (Or.inl ⟨rfl, _, rfl⟩)) dX11_numberLeft_59 (fun ty x h1 h2 => by cases h1; rfl) rfl
    · refine V_iload_n (k := 3) dX11_numberLeft_28 rfl rfl ?_
      refine V_aload_n (k := 0) dX11_numberLeft_29 rfl rfl ?_
      refine V_getr (k := 148) dX11_numberLeft_30 rfl (by decide) vf_X11_70 (by decide) (v_fin hI 135 rfl) ?_
      refine V_sipush (v := 2000) dX11_numberLeft_33 rfl ?_
      refine V_iload_n (k := 1) dX11_numberLeft_36 rfl rfl ?_
      refine V_imul dX11_numberLeft_37 ?_
      refine V_iload (k := 4) dX11_numberLeft_38 rfl ?_
      refine V_iadd dX11_numberLeft_40 ?_
      refine V_zald dX11_numberLeft_41 rfl (by decide) (fun h7 => ?_)
      refine V_ifeq (tgt := 49) dX11_numberLeft_42 (by decide) (fun h8 => ?_) (fun h8 => ?_)
      · refine V_iconst (v := 1) dX11_numberLeft_49 rfl ?_
        refine V_iadd dX11_numberLeft_50 ?_
        refine V_istore_n (lv' := [(3, .int (x3 + 1)), (0, .ref 130), (1, .int x1), (2, .int x2), (4, .int x4)]) dX11_numberLeft_51 rfl (by decide) rfl ?_
        refine V_iinc (k := 4) (v := x4 + 1) (lv' := [(4, .int (x4 + 1)), (3, .int (x3 + 1)), (0, .ref 130), (1, .int x1), (2, .int x2)]) dX11_numberLeft_52 rfl rfl (by decide) rfl ?_
        refine V_goto (tgt := 22) dX11_numberLeft_55 (by decide) ?_
        refine V_sub [2, 3, 4, 1, 0] rfl ?_
        exact ih M x1 x2 (x3 + 1) (x4 + 1) hI
      · refine V_iconst (v := 0) dX11_numberLeft_45 rfl ?_
        refine V_goto (tgt := 50) dX11_numberLeft_46 (by decide) ?_
        refine V_iadd dX11_numberLeft_50 ?_
        refine V_istore_n (lv' := [(3, .int (x3 + 0)), (0, .ref 130), (1, .int x1), (2, .int x2), (4, .int x4)]) dX11_numberLeft_51 rfl (by decide) rfl ?_
        refine V_iinc (k := 4) (v := x4 + 1) (lv' := [(4, .int (x4 + 1)), (3, .int (x3 + 0)), (0, .ref 130), (1, .int x1), (2, .int x2)]) dX11_numberLeft_52 rfl rfl (by decide) rfl ?_
        refine V_goto (tgt := 22) dX11_numberLeft_55 (by decide) ?_
        refine V_sub [2, 3, 4, 1, 0] rfl ?_
        exact ih M x1 x2 (x3 + 0) (x4 + 1) hI
def fX11_numberLeft (M : vM) (x1 : Int32) (x2 : Int32) : Option (vR × vM) := if v_in ((2000 * x1) + x2) 12000 = true then if (M.1 148 (Int32.toNatClampNeg ((2000 * x1) + x2))) = 0 then fX11_numberLeft_22 FU M x1 x2 0 0 else rI ((-1)) M else none
set_option maxRecDepth 20000 in
set_option maxHeartbeats 2000000 in
theorem cX11_numberLeft_ok {l : Launch} {D : va_G} {dA : Nat → ClassId} (M : vM) (x1 : Int32) (x2 : Int32) (hI : v_WT M.2.2) : Ct l D dA sX11_numberLeft false 175 1 0 0 175 [.ref 130, .int x1, .int x2] M (fX11_numberLeft M x1 x2) := by
  refine Ct_of (lv := [(0, .ref 130), (1, .int x1), (2, .int x2)]) (by decide +kernel) rfl (Nat.le_of_ble_eq_true rfl) rfl (fun h => by cases h) ?_
  refine V_aload_n (k := 0) dX11_numberLeft_0 rfl rfl ?_
  refine V_getr (k := 148) dX11_numberLeft_1 rfl (by decide) vf_X11_70 (by decide) (v_fin hI 135 rfl) ?_
  refine V_sipush (v := 2000) dX11_numberLeft_4 rfl ?_
  refine V_iload_n (k := 1) dX11_numberLeft_7 rfl rfl ?_
  refine V_imul dX11_numberLeft_8 ?_
  refine V_iload_n (k := 2) dX11_numberLeft_9 rfl rfl ?_
  refine V_iadd dX11_numberLeft_10 ?_
  refine V_zald dX11_numberLeft_11 rfl (by decide) (fun h9 => ?_)
  refine V_ifeq (tgt := 17) dX11_numberLeft_12 (by decide) (fun h10 => ?_) (fun h10 => ?_)
  · refine V_iconst (v := 0) dX11_numberLeft_17 rfl ?_
    refine V_istore_n (lv' := [(3, .int 0), (0, .ref 130), (1, .int x1), (2, .int x2)]) dX11_numberLeft_18 rfl (by decide) rfl ?_
    refine V_iconst (v := 0) dX11_numberLeft_19 rfl ?_
    refine V_istore (lv' := [(4, .int 0), (3, .int 0), (0, .ref 130), (1, .int x1), (2, .int x2)]) dX11_numberLeft_20 (by decide) rfl ?_
    refine V_sub [2, 3, 4, 1, 0] rfl ?_
    exact vX11_numberLeft_22 FU M x1 x2 0 0 hI
  · refine V_iconst (v := (-1)) dX11_numberLeft_15 rfl ?_
    exact V_ret (fun _ => hI) (Or.inr (Or.inl ⟨rfl, _, rfl⟩)) dX11_numberLeft_16 (fun ty x h1 h2 => by cases h1; rfl) rfl
def fX11_stepOn_76 : Nat → vM → Option (vR × vM)
  | 0, _ => none
  | n9 + 1, M => bi (fX11_byteAt M (M.1 130 32)) fun y9 M10 => bi (fX11_isLetter M10 y9) fun y13 M14 => if y13 = 0 then rV (v_si (v_si M14 130 34 1) 130 37 ((v_si M14 130 34 1).1 130 32)) else fX11_stepOn_76 n9 (v_si M14 130 32 ((M14.1 130 32) + 1))
set_option maxRecDepth 20000 in
set_option maxHeartbeats 2000000 in
theorem vX11_stepOn_76 {l : Launch} {D : va_G} {dA : Nat → ClassId} : ∀ (n9 : Nat) (M : vM), v_WT M.2.2 → V l D dA sX11_stepOn false 175 2 0 0 76 [(0, .ref 130)] [] 175 M (fX11_stepOn_76 n9 M) := by
  intro n9
  induction n9 with
  | zero => intros; exact V_none
  | succ n9 ih =>
    intro M hI
    refine V_aload_n (k := 0) dX11_stepOn_76 rfl rfl ?_
    refine V_aload_n (k := 0) dX11_stepOn_77 rfl rfl ?_
    refine V_geti dX11_stepOn_78 rfl (by decide) vf_X11_174 (by decide) ?_
    refine V_callVi (q := (RX11, TX11, 61)) (cls := 11) (st0 := []) (kc' := 0) (ks' := 0) dX11_stepOn_81 lk_X11_177 rfl (by decide) rfl rfl rfl (cX11_byteAt_ok M (M.1 130 32) hI) rfl rfl (by decide) (by decide) (Nat.le_of_ble_eq_true rfl) (Or.inl rfl) rfl rfl (by decide) (by decide) (fun y9 M10 e11 hI12 => ?_)
    refine V_callSi (st0 := []) (kc' := 0) (ks' := 0) dX11_stepOn_84 lk_X11_187 rfl (cX11_isLetter_ok M10 y9 hI12) rfl rfl (by decide) (by decide) (Nat.le_of_ble_eq_true rfl) (Or.inl rfl) rfl rfl (by decide) (by decide) (fun y13 M14 e15 hI16 => ?_)
    refine V_ifeq (tgt := 103) dX11_stepOn_87 (by decide) (fun h17 => ?_) (fun h17 => ?_)
    · refine V_aload_n (k := 0) dX11_stepOn_103 rfl rfl ?_
      refine V_iconst (v := 1) dX11_stepOn_104 rfl ?_
      refine V_puti dX11_stepOn_105 rfl (by decide) vf_X11_184 (by decide) rfl rfl ?_
      refine V_goto (tgt := 211) dX11_stepOn_108 (by decide) ?_
      refine V_aload_n (k := 0) dX11_stepOn_211 rfl rfl ?_
      refine V_aload_n (k := 0) dX11_stepOn_212 rfl rfl ?_
      refine V_geti dX11_stepOn_213 rfl (by decide) vf_X11_174 (by decide) ?_
      refine V_puti dX11_stepOn_216 rfl (by decide) vf_X11_203 (by decide) rfl rfl ?_
      exact V_ret (fun _ => hI16) (Or.inl ⟨rfl, rfl⟩) dX11_stepOn_219 (fun ty x h1 h2 => by cases h1) rfl
    · refine V_aload_n (k := 0) dX11_stepOn_90 rfl rfl ?_
      refine V_dup dX11_stepOn_91 rfl ?_
      refine V_geti dX11_stepOn_92 rfl (by decide) vf_X11_174 (by decide) ?_
      refine V_iconst (v := 1) dX11_stepOn_95 rfl ?_
      refine V_iadd dX11_stepOn_96 ?_
      refine V_puti dX11_stepOn_97 rfl (by decide) vf_X11_174 (by decide) rfl rfl ?_
      refine V_goto (tgt := 76) dX11_stepOn_100 (by decide) ?_
      refine V_sub [0] rfl ?_
      exact ih (v_si M14 130 32 ((M14.1 130 32) + 1)) hI16
def fX11_stepOn_123 : Nat → vM → Option (vR × vM)
  | 0, _ => none
  | n9 + 1, M => bi (fX11_byteAt M (M.1 130 32)) fun y18 M19 => bi (fX11_isDigit M19 y18) fun y22 M23 => if y22 = 0 then rV (v_si (v_si M23 130 34 2) 130 37 ((v_si M23 130 34 2).1 130 32)) else bi (fX11_byteAt M23 (M23.1 130 32)) fun y27 M28 => fX11_stepOn_123 n9 (v_si (v_si M28 130 35 (if ((10 * (M23.1 130 35)) + y27) - 48 < 100000 then ((10 * (M23.1 130 35)) + y27) - 48 else 100000)) 130 32 (((v_si M28 130 35 (if ((10 * (M23.1 130 35)) + y27) - 48 < 100000 then ((10 * (M23.1 130 35)) + y27) - 48 else 100000)).1 130 32) + 1))
set_option maxRecDepth 20000 in
set_option maxHeartbeats 2000000 in
theorem vX11_stepOn_123 {l : Launch} {D : va_G} {dA : Nat → ClassId} : ∀ (n9 : Nat) (M : vM), v_WT M.2.2 → V l D dA sX11_stepOn false 175 2 0 0 123 [(0, .ref 130)] [] 175 M (fX11_stepOn_123 n9 M) := by
  intro n9
  induction n9 with
  | zero => intros; exact V_none
  | succ n9 ih =>
    intro M hI
    refine V_aload_n (k := 0) dX11_stepOn_123 rfl rfl ?_
    refine V_aload_n (k := 0) dX11_stepOn_124 rfl rfl ?_
    refine V_geti dX11_stepOn_125 rfl (by decide) vf_X11_174 (by decide) ?_
    refine V_callVi (q := (RX11, TX11, 61)) (cls := 11) (st0 := []) (kc' := 0) (ks' := 0) dX11_stepOn_128 lk_X11_177 rfl (by decide) rfl rfl rfl (cX11_byteAt_ok M (M.1 130 32) hI) rfl rfl (by decide) (by decide) (Nat.le_of_ble_eq_true rfl) (Or.inl rfl) rfl rfl (by decide) (by decide) (fun y18 M19 e20 hI21 => ?_)
    refine V_callSi (st0 := []) (kc' := 0) (ks' := 0) dX11_stepOn_131 lk_X11_190 rfl (cX11_isDigit_ok M19 y18 hI21) rfl rfl (by decide) (by decide) (Nat.le_of_ble_eq_true rfl) (Or.inl rfl) rfl rfl (by decide) (by decide) (fun y22 M23 e24 hI25 => ?_)
    refine V_ifeq (tgt := 178) dX11_stepOn_134 (by decide) (fun h26 => ?_) (fun h26 => ?_)
    · refine V_aload_n (k := 0) dX11_stepOn_178 rfl rfl ?_
      refine V_iconst (v := 2) dX11_stepOn_179 rfl ?_
      refine V_puti dX11_stepOn_180 rfl (by decide) vf_X11_184 (by decide) rfl rfl ?_
      refine V_goto (tgt := 211) dX11_stepOn_183 (by decide) ?_
      refine V_aload_n (k := 0) dX11_stepOn_211 rfl rfl ?_
      refine V_aload_n (k := 0) dX11_stepOn_212 rfl rfl ?_
      refine V_geti dX11_stepOn_213 rfl (by decide) vf_X11_174 (by decide) ?_
      refine V_puti dX11_stepOn_216 rfl (by decide) vf_X11_203 (by decide) rfl rfl ?_
      exact V_ret (fun _ => hI25) (Or.inl ⟨rfl, rfl⟩) dX11_stepOn_219 (fun ty x h1 h2 => by cases h1) rfl
    · refine V_aload_n (k := 0) dX11_stepOn_137 rfl rfl ?_
      refine V_ldc dX11_stepOn_138 gw1460 ?_
      refine V_bipush (v := 10) dX11_stepOn_140 rfl ?_
      refine V_aload_n (k := 0) dX11_stepOn_142 rfl rfl ?_
      refine V_geti dX11_stepOn_143 rfl (by decide) vf_X11_193 (by decide) ?_
      refine V_imul dX11_stepOn_146 ?_
      refine V_aload_n (k := 0) dX11_stepOn_147 rfl rfl ?_
      refine V_aload_n (k := 0) dX11_stepOn_148 rfl rfl ?_
      refine V_geti dX11_stepOn_149 rfl (by decide) vf_X11_174 (by decide) ?_
      refine V_callVi (q := (RX11, TX11, 61)) (cls := 11) (st0 := [.int (10 * (M23.1 130 35)), .int 100000, .ref 130]) (kc' := 0) (ks' := 0) dX11_stepOn_152 lk_X11_177 rfl (by decide) rfl rfl rfl (cX11_byteAt_ok M23 (M23.1 130 32) hI25) rfl rfl (by decide) (by decide) (Nat.le_of_ble_eq_true rfl) (Or.inl rfl) rfl rfl (by decide) (by decide) (fun y27 M28 e29 hI30 => ?_)
      refine V_iadd dX11_stepOn_155 ?_
      refine V_bipush (v := 48) dX11_stepOn_156 rfl ?_
      refine V_isub dX11_stepOn_158 ?_
      refine V_mmin dX11_stepOn_159 gw1461 gw793 gw101 gw794 (by decide) (Nat.le_of_ble_eq_true rfl) ?_
      refine V_puti dX11_stepOn_162 rfl (by decide) vf_X11_193 (by decide) rfl rfl ?_
      refine V_aload_n (k := 0) dX11_stepOn_165 rfl rfl ?_
      refine V_dup dX11_stepOn_166 rfl ?_
      refine V_geti dX11_stepOn_167 rfl (by decide) vf_X11_174 (by decide) ?_
      refine V_iconst (v := 1) dX11_stepOn_170 rfl ?_
      refine V_iadd dX11_stepOn_171 ?_
      refine V_puti dX11_stepOn_172 rfl (by decide) vf_X11_174 (by decide) rfl rfl ?_
      refine V_goto (tgt := 123) dX11_stepOn_175 (by decide) ?_
      refine V_sub [0] rfl ?_
      exact ih (v_si (v_si M28 130 35 (if ((10 * (M23.1 130 35)) + y27) - 48 < 100000 then ((10 * (M23.1 130 35)) + y27) - 48 else 100000)) 130 32 (((v_si M28 130 35 (if ((10 * (M23.1 130 35)) + y27) - 48 < 100000 then ((10 * (M23.1 130 35)) + y27) - 48 else 100000)).1 130 32) + 1)) hI30
def fX11_stepOn_0 : Nat → vM → Option (vR × vM)
  | 0, _ => none
  | n9 + 1, M => bi (fX11_byteAt M (M.1 130 32)) fun y31 M32 => if y31 = 32 then fX11_stepOn_0 n9 (v_si M32 130 32 ((M32.1 130 32) + 1)) else bi (fX11_byteAt M32 (M32.1 130 32)) fun y36 M37 => if y36 = 10 then fX11_stepOn_0 n9 (v_si M37 130 32 ((M37.1 130 32) + 1)) else bi (fX11_byteAt (v_si M37 130 36 (M37.1 130 32)) ((v_si M37 130 36 (M37.1 130 32)).1 130 32)) fun y41 M42 => if y41 = ((-1)) then rV (v_si (v_si M42 130 34 0) 130 37 ((v_si M42 130 34 0).1 130 32)) else bi (fX11_isLetter M42 y41) fun y46 M47 => if y46 = 0 then bi (fX11_isDigit M47 y41) fun y51 M52 => if y51 = 0 then if y41 = 59 then rV (v_si (v_si (v_si M52 130 32 ((M52.1 130 32) + 1)) 130 34 3) 130 37 ((v_si (v_si M52 130 32 ((M52.1 130 32) + 1)) 130 34 3).1 130 32)) else rV (v_si (v_si (v_si M52 130 32 ((M52.1 130 32) + 1)) 130 34 4) 130 37 ((v_si (v_si M52 130 32 ((M52.1 130 32) + 1)) 130 34 4).1 130 32)) else fX11_stepOn_123 FU (v_si M52 130 35 0) else fX11_stepOn_76 FU M47
set_option maxRecDepth 20000 in
set_option maxHeartbeats 2000000 in
theorem vX11_stepOn_0 {l : Launch} {D : va_G} {dA : Nat → ClassId} : ∀ (n9 : Nat) (M : vM), v_WT M.2.2 → V l D dA sX11_stepOn false 175 2 0 0 0 [(0, .ref 130)] [] 175 M (fX11_stepOn_0 n9 M) := by
  intro n9
  induction n9 with
  | zero => intros; exact V_none
  | succ n9 ih =>
    intro M hI
    refine V_aload_n (k := 0) dX11_stepOn_0 rfl rfl ?_
    refine V_aload_n (k := 0) dX11_stepOn_1 rfl rfl ?_
    refine V_geti dX11_stepOn_2 rfl (by decide) vf_X11_174 (by decide) ?_
    refine V_callVi (q := (RX11, TX11, 61)) (cls := 11) (st0 := []) (kc' := 0) (ks' := 0) dX11_stepOn_5 lk_X11_177 rfl (by decide) rfl rfl rfl (cX11_byteAt_ok M (M.1 130 32) hI) rfl rfl (by decide) (by decide) (Nat.le_of_ble_eq_true rfl) (Or.inl rfl) rfl rfl (by decide) (by decide) (fun y31 M32 e33 hI34 => ?_)
    refine V_bipush (v := 32) dX11_stepOn_8 rfl ?_
    refine V_icmpeq (tgt := 26) dX11_stepOn_10 (by decide) (fun h35 => ?_) (fun h35 => ?_)
    · refine V_aload_n (k := 0) dX11_stepOn_26 rfl rfl ?_
      refine V_dup dX11_stepOn_27 rfl ?_
      refine V_geti dX11_stepOn_28 rfl (by decide) vf_X11_174 (by decide) ?_
      refine V_iconst (v := 1) dX11_stepOn_31 rfl ?_
      refine V_iadd dX11_stepOn_32 ?_
      refine V_puti dX11_stepOn_33 rfl (by decide) vf_X11_174 (by decide) rfl rfl ?_
      refine V_goto (tgt := 0) dX11_stepOn_36 (by decide) ?_
      refine V_sub [0] rfl ?_
      exact ih (v_si M32 130 32 ((M32.1 130 32) + 1)) hI34
    · refine V_aload_n (k := 0) dX11_stepOn_13 rfl rfl ?_
      refine V_aload_n (k := 0) dX11_stepOn_14 rfl rfl ?_
      refine V_geti dX11_stepOn_15 rfl (by decide) vf_X11_174 (by decide) ?_
      refine V_callVi (q := (RX11, TX11, 61)) (cls := 11) (st0 := []) (kc' := 0) (ks' := 0) dX11_stepOn_18 lk_X11_177 rfl (by decide) rfl rfl rfl (cX11_byteAt_ok M32 (M32.1 130 32) hI34) rfl rfl (by decide) (by decide) (Nat.le_of_ble_eq_true rfl) (Or.inl rfl) rfl rfl (by decide) (by decide) (fun y36 M37 e38 hI39 => ?_)
      refine V_bipush (v := 10) dX11_stepOn_21 rfl ?_
      refine V_icmpne (tgt := 39) dX11_stepOn_23 (by decide) (fun h40 => ?_) (fun h40 => ?_)
      · refine V_aload_n (k := 0) dX11_stepOn_39 rfl rfl ?_
        refine V_aload_n (k := 0) dX11_stepOn_40 rfl rfl ?_
        refine V_geti dX11_stepOn_41 rfl (by decide) vf_X11_174 (by decide) ?_
        refine V_puti dX11_stepOn_44 rfl (by decide) vf_X11_181 (by decide) rfl rfl ?_
        refine V_aload_n (k := 0) dX11_stepOn_47 rfl rfl ?_
        refine V_aload_n (k := 0) dX11_stepOn_48 rfl rfl ?_
        refine V_geti dX11_stepOn_49 rfl (by decide) vf_X11_174 (by decide) ?_
        refine V_callVi (q := (RX11, TX11, 61)) (cls := 11) (st0 := []) (kc' := 0) (ks' := 0) dX11_stepOn_52 lk_X11_177 rfl (by decide) rfl rfl rfl (cX11_byteAt_ok (v_si M37 130 36 (M37.1 130 32)) ((v_si M37 130 36 (M37.1 130 32)).1 130 32) hI39) rfl rfl (by decide) (by decide) (Nat.le_of_ble_eq_true rfl) (Or.inl rfl) rfl rfl (by decide) (by decide) (fun y41 M42 e43 hI44 => ?_)
        refine V_istore_n (lv' := [(1, .int y41), (0, .ref 130)]) dX11_stepOn_55 rfl (by decide) rfl ?_
        refine V_iload_n (k := 0) dX11_stepOn_56 rfl rfl ?_
        refine V_iconst (v := (-1)) dX11_stepOn_57 rfl ?_
        refine V_icmpne (tgt := 69) dX11_stepOn_58 (by decide) (fun h45 => ?_) (fun h45 => ?_)
        · refine V_iload_n (k := 0) dX11_stepOn_69 rfl rfl ?_
          refine V_callSi (st0 := []) (kc' := 0) (ks' := 0) dX11_stepOn_70 lk_X11_187 rfl (cX11_isLetter_ok M42 y41 hI44) rfl rfl (by decide) (by decide) (Nat.le_of_ble_eq_true rfl) (Or.inl rfl) rfl rfl (by decide) (by decide) (fun y46 M47 e48 hI49 => ?_)
          refine V_ifeq (tgt := 111) dX11_stepOn_73 (by decide) (fun h50 => ?_) (fun h50 => ?_)
          · refine V_iload_n (k := 0) dX11_stepOn_111 rfl rfl ?_
            refine V_callSi (st0 := []) (kc' := 0) (ks' := 0) dX11_stepOn_112 lk_X11_190 rfl (cX11_isDigit_ok M47 y41 hI49) rfl rfl (by decide) (by decide) (Nat.le_of_ble_eq_true rfl) (Or.inl rfl) rfl rfl (by decide) (by decide) (fun y51 M52 e53 hI54 => ?_)
            refine V_ifeq (tgt := 186) dX11_stepOn_115 (by decide) (fun h55 => ?_) (fun h55 => ?_)
            · refine V_aload_n (k := 1) dX11_stepOn_186 rfl rfl ?_
              refine V_dup dX11_stepOn_187 rfl ?_
              refine V_geti dX11_stepOn_188 rfl (by decide) vf_X11_174 (by decide) ?_
              refine V_iconst (v := 1) dX11_stepOn_191 rfl ?_
              refine V_iadd dX11_stepOn_192 ?_
              refine V_puti dX11_stepOn_193 rfl (by decide) vf_X11_174 (by decide) rfl rfl ?_
              refine V_aload_n (k := 1) dX11_stepOn_196 rfl rfl ?_
              refine V_iload_n (k := 0) dX11_stepOn_197 rfl rfl ?_
              refine V_bipush (v := 59) dX11_stepOn_198 rfl ?_
              refine V_icmpne (tgt := 207) dX11_stepOn_200 (by decide) (fun h56 => ?_) (fun h56 => ?_)
              · refine V_iconst (v := 4) dX11_stepOn_207 rfl ?_
                refine V_puti dX11_stepOn_208 rfl (by decide) vf_X11_184 (by decide) rfl rfl ?_
                refine V_aload_n (k := 1) dX11_stepOn_211 rfl rfl ?_
                refine V_aload_n (k := 1) dX11_stepOn_212 rfl rfl ?_
                refine V_geti dX11_stepOn_213 rfl (by decide) vf_X11_174 (by decide) ?_
                refine V_puti dX11_stepOn_216 rfl (by decide) vf_X11_203 (by decide) rfl rfl ?_
                exact V_ret (fun _ => hI54) (Or.inl ⟨rfl, rfl⟩) dX11_stepOn_219 (fun ty x h1 h2 => by cases h1) rfl
              · refine V_iconst (v := 3) dX11_stepOn_203 rfl ?_
                refine V_goto (tgt := 208) dX11_stepOn_204 (by decide) ?_
                refine V_puti dX11_stepOn_208 rfl (by decide) vf_X11_184 (by decide) rfl rfl ?_
                refine V_aload_n (k := 1) dX11_stepOn_211 rfl rfl ?_
                refine V_aload_n (k := 1) dX11_stepOn_212 rfl rfl ?_
                refine V_geti dX11_stepOn_213 rfl (by decide) vf_X11_174 (by decide) ?_
                refine V_puti dX11_stepOn_216 rfl (by decide) vf_X11_203 (by decide) rfl rfl ?_
                exact V_ret (fun _ => hI54) (Or.inl ⟨rfl, rfl⟩) dX11_stepOn_219 (fun ty x h1 h2 => by cases h1) rfl
            · refine V_aload_n (k := 1) dX11_stepOn_118 rfl rfl ?_
              refine V_iconst (v := 0) dX11_stepOn_119 rfl ?_
              refine V_puti dX11_stepOn_120 rfl (by decide) vf_X11_193 (by decide) rfl rfl ?_
              refine V_sub [1] rfl ?_
              exact vX11_stepOn_123 FU (v_si M52 130 35 0) hI54
          · refine V_sub [1] rfl ?_
            exact vX11_stepOn_76 FU M47 hI49
        · refine V_aload_n (k := 1) dX11_stepOn_61 rfl rfl ?_
          refine V_iconst (v := 0) dX11_stepOn_62 rfl ?_
          refine V_puti dX11_stepOn_63 rfl (by decide) vf_X11_184 (by decide) rfl rfl ?_
          refine V_goto (tgt := 211) dX11_stepOn_66 (by decide) ?_
          refine V_aload_n (k := 1) dX11_stepOn_211 rfl rfl ?_
          refine V_aload_n (k := 1) dX11_stepOn_212 rfl rfl ?_
          refine V_geti dX11_stepOn_213 rfl (by decide) vf_X11_174 (by decide) ?_
          refine V_puti dX11_stepOn_216 rfl (by decide) vf_X11_203 (by decide) rfl rfl ?_
          exact V_ret (fun _ => hI44) (Or.inl ⟨rfl, rfl⟩) dX11_stepOn_219 (fun ty x h1 h2 => by cases h1) rfl
      · refine V_aload_n (k := 0) dX11_stepOn_26 rfl rfl ?_
        refine V_dup dX11_stepOn_27 rfl ?_
        refine V_geti dX11_stepOn_28 rfl (by decide) vf_X11_174 (by decide) ?_
        refine V_iconst (v := 1) dX11_stepOn_31 rfl ?_
        refine V_iadd dX11_stepOn_32 ?_
        refine V_puti dX11_stepOn_33 rfl (by decide) vf_X11_174 (by decide) rfl rfl ?_
        refine V_goto (tgt := 0) dX11_stepOn_36 (by decide) ?_
        refine V_sub [0] rfl ?_
        exact ih (v_si M37 130 32 ((M37.1 130 32) + 1)) hI39
def fX11_stepOn (M : vM) : Option (vR × vM) := fX11_stepOn_0 FU M
set_option maxRecDepth 20000 in
set_option maxHeartbeats 2000000 in
theorem cX11_stepOn_ok {l : Launch} {D : va_G} {dA : Nat → ClassId} (M : vM) (hI : v_WT M.2.2) : Ct l D dA sX11_stepOn false 175 2 0 0 175 [.ref 130] M (fX11_stepOn M) := by
  refine Ct_of (lv := [(0, .ref 130)]) (by decide +kernel) rfl (Nat.le_of_ble_eq_true rfl) rfl (fun h => by cases h) ?_
  refine V_sub [0] rfl ?_
  exact vX11_stepOn_0 FU M hI
