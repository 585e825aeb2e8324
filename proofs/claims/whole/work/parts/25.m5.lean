def fX11_isWay (M : vM) (x1 : Int32) (x2 : Int32) : Option (vR × vM) := bi (fX11_isWork M x1) fun y4 M5 => if y4 = 0 then rI 0 M5 else if v_in x1 6 = true then bi (fX11_isIn M5 x2 0 ((M5.1 145 (Int32.toNatClampNeg x1)) - 1)) fun y10 M11 => if y10 = 0 then rI 0 M11 else rI 1 M11 else none
set_option maxRecDepth 20000 in
set_option maxHeartbeats 2000000 in
theorem cX11_isWay_ok {l : Launch} {D : va_G} {dA : Nat → ClassId} (M : vM) (x1 : Int32) (x2 : Int32) (hI : v_WT M.2.2) : Ct l D dA sX11_isWay false 175 3 0 0 175 [.ref 130, .int x1, .int x2] M (fX11_isWay M x1 x2) := by
  refine Ct_of (lv := [(0, .ref 130), (1, .int x1), (2, .int x2)]) (by decide +kernel) rfl (Nat.le_of_ble_eq_true rfl) rfl (fun h => by cases h) ?_
  refine V_aload_n (k := 0) dX11_isWay_0 rfl rfl ?_
  refine V_iload_n (k := 1) dX11_isWay_1 rfl rfl ?_
  refine V_callVi (q := (RX11, TX11, 61)) (cls := 11) (st0 := []) (kc' := 0) (ks' := 0) dX11_isWay_2 lk_X11_164 rfl (by decide) rfl rfl rfl (cX11_isWork_ok M x1 hI) rfl rfl (by decide) (by decide) (Nat.le_of_ble_eq_true rfl) (Or.inl rfl) rfl rfl (by decide) (by decide) (fun y4 M5 e6 hI7 => ?_)
  refine V_ifeq (tgt := 28) dX11_isWay_5 (by decide) (fun h8 => ?_) (fun h8 => ?_)
  · refine V_iconst (v := 0) dX11_isWay_28 rfl ?_
    exact V_ret (fun _ => hI7) (Or.inr (Or.inr (Or.inl ⟨rfl, _, rfl⟩))) dX11_isWay_29 (fun ty x h1 h2 => by cases h1; cases h2; rfl) rfl
  · refine V_iload_n (k := 2) dX11_isWay_8 rfl rfl ?_
    refine V_iconst (v := 0) dX11_isWay_9 rfl ?_
    refine V_aload_n (k := 0) dX11_isWay_10 rfl rfl ?_
    refine V_getr (k := 145) dX11_isWay_11 rfl (by decide) vf_X11_61 (by decide) (v_fin hI7 132 rfl) ?_
    refine V_iload_n (k := 1) dX11_isWay_14 rfl rfl ?_
    refine V_iald dX11_isWay_15 rfl (by decide) (fun h9 => ?_)
    refine V_iconst (v := 1) dX11_isWay_16 rfl ?_
    refine V_isub dX11_isWay_17 ?_
    refine V_callSi (st0 := []) (kc' := 0) (ks' := 0) dX11_isWay_18 lk_X11_160 rfl (cX11_isIn_ok M5 x2 0 ((M5.1 145 (Int32.toNatClampNeg x1)) - 1) hI7) rfl rfl (by decide) (by decide) (Nat.le_of_ble_eq_true rfl) (Or.inl rfl) rfl rfl (by decide) (by decide) (fun y10 M11 e12 hI13 => ?_)
    refine V_ifeq (tgt := 28) dX11_isWay_21 (by decide) (fun h14 => ?_) (fun h14 => ?_)
    · refine V_iconst (v := 0) dX11_isWay_28 rfl ?_
      exact V_ret (fun _ => hI13) (Or.inr (Or.inr (Or.inl ⟨rfl, _, rfl⟩))) dX11_isWay_29 (fun ty x h1 h2 => by cases h1; cases h2; rfl) rfl
    · refine V_iconst (v := 1) dX11_isWay_24 rfl ?_
      refine V_goto (tgt := 29) dX11_isWay_25 (by decide) ?_
      exact V_ret (fun _ => hI13) (Or.inr (Or.inr (Or.inl ⟨rfl, _, rfl⟩))) dX11_isWay_29 (fun ty x h1 h2 => by cases h1; cases h2; rfl) rfl
def fX11_enter (M : vM) (x1 : Int32) (x2 : Int32) : Option (vR × vM) := if (M.1 130 21) = 400 then rI 0 M else if v_in ((2000 * x1) + x2) 12000 = true then if (M.1 148 (Int32.toNatClampNeg ((2000 * x1) + x2))) = 0 then if v_in (M.1 130 21) 400 = true then if v_in ((v_si M 149 (Int32.toNatClampNeg (M.1 130 21)) x1).1 130 21) 400 = true then bv (fX11_spend (v_si (v_si (v_si M 149 (Int32.toNatClampNeg (M.1 130 21)) x1) 150 (Int32.toNatClampNeg ((v_si M 149 (Int32.toNatClampNeg (M.1 130 21)) x1).1 130 21)) x2) 130 21 (((v_si (v_si M 149 (Int32.toNatClampNeg (M.1 130 21)) x1) 150 (Int32.toNatClampNeg ((v_si M 149 (Int32.toNatClampNeg (M.1 130 21)) x1).1 130 21)) x2).1 130 21) + 1)) x1 x2 148 (2000 * x1)) fun M11 => rI 1 M11 else none else none else rI 0 M else none
set_option maxRecDepth 20000 in
set_option maxHeartbeats 2000000 in
theorem cX11_enter_ok {l : Launch} {D : va_G} {dA : Nat → ClassId} (M : vM) (x1 : Int32) (x2 : Int32) (hI : v_WT M.2.2) : Ct l D dA sX11_enter false 175 4 0 0 175 [.ref 130, .int x1, .int x2] M (fX11_enter M x1 x2) := by
  refine Ct_of (lv := [(0, .ref 130), (1, .int x1), (2, .int x2)]) (by decide +kernel) rfl (Nat.le_of_ble_eq_true rfl) rfl (fun h => by cases h) ?_
  refine V_aload_n (k := 0) dX11_enter_0 rfl rfl ?_
  refine V_geti dX11_enter_1 rfl (by decide) vf_X11_293 (by decide) ?_
  refine V_sipush (v := 400) dX11_enter_4 rfl ?_
  refine V_icmpeq (tgt := 25) dX11_enter_7 (by decide) (fun h6 => ?_) (fun h6 => ?_)
  · refine V_iconst (v := 0) dX11_enter_25 rfl ?_
    exact V_ret (fun _ => hI) (Or.inr (Or.inr (Or.inl ⟨rfl, _, rfl⟩))) dX11_enter_26 (fun ty x h1 h2 => by cases h1; cases h2; rfl) rfl
  · refine V_aload_n (k := 0) dX11_enter_10 rfl rfl ?_
    refine V_getr (k := 148) dX11_enter_11 rfl (by decide) vf_X11_70 (by decide) (v_fin hI 135 rfl) ?_
    refine V_sipush (v := 2000) dX11_enter_14 rfl ?_
    refine V_iload_n (k := 1) dX11_enter_17 rfl rfl ?_
    refine V_imul dX11_enter_18 ?_
    refine V_iload_n (k := 2) dX11_enter_19 rfl rfl ?_
    refine V_iadd dX11_enter_20 ?_
    refine V_zald dX11_enter_21 rfl (by decide) (fun h7 => ?_)
    refine V_ifeq (tgt := 27) dX11_enter_22 (by decide) (fun h8 => ?_) (fun h8 => ?_)
    · refine V_aload_n (k := 0) dX11_enter_27 rfl rfl ?_
      refine V_getr (k := 149) dX11_enter_28 rfl (by decide) vf_X11_74 (by decide) (v_fin hI 136 rfl) ?_
      refine V_aload_n (k := 0) dX11_enter_31 rfl rfl ?_
      refine V_geti dX11_enter_32 rfl (by decide) vf_X11_293 (by decide) ?_
      refine V_iload_n (k := 1) dX11_enter_35 rfl rfl ?_
      refine V_iast dX11_enter_36 rfl (by decide) (fun h9 => ?_)
      refine V_aload_n (k := 0) dX11_enter_37 rfl rfl ?_
      refine V_getr (k := 150) dX11_enter_38 rfl (by decide) vf_X11_77 (by decide) (v_fin hI 137 rfl) ?_
      refine V_aload_n (k := 0) dX11_enter_41 rfl rfl ?_
      refine V_geti dX11_enter_42 rfl (by decide) vf_X11_293 (by decide) ?_
      refine V_iload_n (k := 2) dX11_enter_45 rfl rfl ?_
      refine V_iast dX11_enter_46 rfl (by decide) (fun h10 => ?_)
      refine V_aload_n (k := 0) dX11_enter_47 rfl rfl ?_
      refine V_dup dX11_enter_48 rfl ?_
      refine V_geti dX11_enter_49 rfl (by decide) vf_X11_293 (by decide) ?_
      refine V_iconst (v := 1) dX11_enter_52 rfl ?_
      refine V_iadd dX11_enter_53 ?_
      refine V_puti dX11_enter_54 rfl (by decide) vf_X11_293 (by decide) rfl rfl ?_
      refine V_aload_n (k := 0) dX11_enter_57 rfl rfl ?_
      refine V_iload_n (k := 1) dX11_enter_58 rfl rfl ?_
      refine V_iload_n (k := 2) dX11_enter_59 rfl rfl ?_
      refine V_aload_n (k := 0) dX11_enter_60 rfl rfl ?_
      refine V_getr (k := 148) dX11_enter_61 rfl (by decide) vf_X11_70 (by decide) (v_fin hI 135 rfl) ?_
      refine V_sipush (v := 2000) dX11_enter_64 rfl ?_
      refine V_iload_n (k := 1) dX11_enter_67 rfl rfl ?_
      refine V_imul dX11_enter_68 ?_
      refine V_callVv (q := (RX11, TX11, 61)) (cls := 11) (st0 := []) (kc' := 0) (ks' := 0) dX11_enter_69 lk_X11_352 rfl (by decide) rfl rfl rfl (cX11_spend_ok (v_si (v_si (v_si M 149 (Int32.toNatClampNeg (M.1 130 21)) x1) 150 (Int32.toNatClampNeg ((v_si M 149 (Int32.toNatClampNeg (M.1 130 21)) x1).1 130 21)) x2) 130 21 (((v_si (v_si M 149 (Int32.toNatClampNeg (M.1 130 21)) x1) 150 (Int32.toNatClampNeg ((v_si M 149 (Int32.toNatClampNeg (M.1 130 21)) x1).1 130 21)) x2).1 130 21) + 1)) x1 x2 148 (2000 * x1) (v_isA_of (by decide) rfl) hI) rfl rfl (by decide) (by decide) (Nat.le_of_ble_eq_true rfl) (Or.inl rfl) rfl rfl (by decide) (by decide) (fun  M11 e12 hI13 => ?_)
      refine V_iconst (v := 1) dX11_enter_72 rfl ?_
      exact V_ret (fun _ => hI13) (Or.inr (Or.inr (Or.inl ⟨rfl, _, rfl⟩))) dX11_enter_73 (fun ty x h1 h2 => by cases h1; cases h2; rfl) rfl
    · refine V_iconst (v := 0) dX11_enter_25 rfl ?_
      exact V_ret (fun _ => hI) (Or.inr (Or.inr (Or.inl ⟨rfl, _, rfl⟩))) dX11_enter_26 (fun ty x h1 h2 => by cases h1; cases h2; rfl) rfl
def fX11_done (M : vM) (x1 : Int32) (x2 : Int32) : Option (vR × vM) := bi (fX11_isWay (v_si M 130 1 0) x1 x2) fun y6 M7 => if y6 = 0 then rI 0 (v_si M7 130 1 1) else bi (fX11_enter M7 x1 x2) fun y11 M12 => if v_in 1 4 = true then if y11 = 0 then if v_in 1 4 = true then if v_nz y11 = y11 then rI y11 (v_si M12 156 (Int32.toNatClampNeg 1) ((M12.1 156 (Int32.toNatClampNeg 1)) + 1)) else none else none else if v_in 1 4 = true then if v_nz y11 = y11 then rI y11 (v_si M12 156 (Int32.toNatClampNeg 1) ((M12.1 156 (Int32.toNatClampNeg 1)) + 0)) else none else none else none
set_option maxRecDepth 20000 in
set_option maxHeartbeats 2000000 in
theorem cX11_done_ok {l : Launch} {D : va_G} {dA : Nat → ClassId} (M : vM) (x1 : Int32) (x2 : Int32) (hI : v_WT M.2.2) : Ct l D dA sX11_done false 175 5 0 0 175 [.ref 130, .int x1, .int x2] M (fX11_done M x1 x2) := by
  refine Ct_of (lv := [(0, .ref 130), (1, .int x1), (2, .int x2)]) (by decide +kernel) rfl (Nat.le_of_ble_eq_true rfl) rfl (fun h => by cases h) ?_
  refine V_aload_n (k := 0) dX11_done_0 rfl rfl ?_
  refine V_iconst (v := 0) dX11_done_1 rfl ?_
  refine V_puti dX11_done_2 rfl (by decide) vf_X11_154 (by decide) rfl rfl ?_
  refine V_aload_n (k := 0) dX11_done_5 rfl rfl ?_
  refine V_iload_n (k := 1) dX11_done_6 rfl rfl ?_
  refine V_iload_n (k := 2) dX11_done_7 rfl rfl ?_
  refine V_callVi (q := (RX11, TX11, 61)) (cls := 11) (st0 := []) (kc' := 0) (ks' := 0) dX11_done_8 lk_X11_362 rfl (by decide) rfl rfl rfl (cX11_isWay_ok (v_si M 130 1 0) x1 x2 hI) rfl rfl (by decide) (by decide) (Nat.le_of_ble_eq_true rfl) (Or.inl rfl) rfl rfl (by decide) (by decide) (fun y6 M7 e8 hI9 => ?_)
  refine V_ifne (tgt := 21) dX11_done_11 (by decide) (fun h10 => ?_) (fun h10 => ?_)
  · refine V_aload_n (k := 0) dX11_done_21 rfl rfl ?_
    refine V_iload_n (k := 1) dX11_done_22 rfl rfl ?_
    refine V_iload_n (k := 2) dX11_done_23 rfl rfl ?_
    refine V_callVi (q := (RX11, TX11, 61)) (cls := 11) (st0 := []) (kc' := 0) (ks' := 0) dX11_done_24 lk_X11_375 rfl (by decide) rfl rfl rfl (cX11_enter_ok M7 x1 x2 hI9) rfl rfl (by decide) (by decide) (Nat.le_of_ble_eq_true rfl) (Or.inl rfl) rfl rfl (by decide) (by decide) (fun y11 M12 e13 hI14 => ?_)
    refine V_istore_n (lv' := [(3, .int y11), (0, .ref 130), (1, .int x1), (2, .int x2)]) dX11_done_27 rfl (by decide) rfl ?_
    refine V_aload_n (k := 1) dX11_done_28 rfl rfl ?_
    refine V_getr (k := 156) dX11_done_29 rfl (by decide) vf_X11_95 (by decide) (v_fin hI14 143 rfl) ?_
    refine V_iconst (v := 1) dX11_done_32 rfl ?_
    refine V_dup2 dX11_done_33 rfl rfl ?_
    refine V_iald dX11_done_34 rfl (by decide) (fun h15 => ?_)
    refine V_iload_n (k := 0) dX11_done_35 rfl rfl ?_
    refine V_ifeq (tgt := 43) dX11_done_36 (by decide) (fun h16 => ?_) (fun h16 => ?_)
    · refine V_iconst (v := 1) dX11_done_43 rfl ?_
      refine V_iadd dX11_done_44 ?_
      refine V_iast dX11_done_45 rfl (by decide) (fun h17 => ?_)
      refine V_iload_n (k := 0) dX11_done_46 rfl rfl ?_
      exact V_retz (fun _ => hI14) rfl dX11_done_47
    · refine V_iconst (v := 0) dX11_done_39 rfl ?_
      refine V_goto (tgt := 44) dX11_done_40 (by decide) ?_
      refine V_iadd dX11_done_44 ?_
      refine V_iast dX11_done_45 rfl (by decide) (fun h18 => ?_)
      refine V_iload_n (k := 0) dX11_done_46 rfl rfl ?_
      exact V_retz (fun _ => hI14) rfl dX11_done_47
  · refine V_aload_n (k := 0) dX11_done_14 rfl rfl ?_
    refine V_iconst (v := 1) dX11_done_15 rfl ?_
    refine V_puti dX11_done_16 rfl (by decide) vf_X11_154 (by decide) rfl rfl ?_
    refine V_iconst (v := 0) dX11_done_19 rfl ?_
    exact V_ret (fun _ => hI9) (Or.inr (Or.inr (Or.inl ⟨rfl, _, rfl⟩))) dX11_done_20 (fun ty x h1 h2 => by cases h1; cases h2; rfl) rfl
def fX11_doneOf_4 : Nat → vM → Int32 → Int32 → Int32 → Option (vR × vM)
  | 0, _, _, _, _ => none
  | n9 + 1, M, x1, x2, x3 => if (M.1 130 21) ≤ x3 then rI x2 M else if v_in x3 400 = true then if (M.1 149 (Int32.toNatClampNeg x3)) = x1 then fX11_doneOf_4 n9 M x1 (x2 + 1) (x3 + 1) else fX11_doneOf_4 n9 M x1 (x2 + 0) (x3 + 1) else none
set_option maxRecDepth 20000 in
set_option maxHeartbeats 2000000 in
theorem vX11_doneOf_4 {l : Launch} {D : va_G} {dA : Nat → ClassId} : ∀ (n9 : Nat) (M : vM) (x1 : Int32) (x2 : Int32) (x3 : Int32), v_WT M.2.2 → V l D dA sX11_doneOf false 175 1 0 0 4 [(0, .ref 130), (1, .int x1), (2, .int x2), (3, .int x3)] [] 175 M (fX11_doneOf_4 n9 M x1 x2 x3) := by
  intro n9
  induction n9 with
  | zero => intros; exact V_none
  | succ n9 ih =>
    intro M x1 x2 x3 hI
    refine V_iload_n (k := 3) dX11_doneOf_4 rfl rfl ?_
    refine V_aload_n (k := 0) dX11_doneOf_5 rfl rfl ?_
    refine V_geti dX11_doneOf_6 rfl (by decide) vf_X11_293 (by decide) ?_
    refine V_icmpge (tgt := 36) dX11_doneOf_9 (by decide) (fun h4 => ?_) (fun h4 => ?_)
    · refine V_iload_n (k := 2) dX11_doneOf_36 rfl rfl ?_
      exact V_ret (fun _ => hI) (Or.inr (Or.inl ⟨rfl, _, rfl⟩)) dX11_doneOf_37 (fun ty x h1 h2 => by cases h1; rfl) rfl
    · refine V_iload_n (k := 2) dX11_doneOf_12 rfl rfl ?_
      refine V_aload_n (k := 0) dX11_doneOf_13 rfl rfl ?_
      refine V_getr (k := 149) dX11_doneOf_14 rfl (by decide) vf_X11_74 (by decide) (v_fin hI 136 rfl) ?_
      refine V_iload_n (k := 3) dX11_doneOf_17 rfl rfl ?_
      refine V_iald dX11_doneOf_18 rfl (by decide) (fun h5 => ?_)
      refine V_iload_n (k := 1) dX11_doneOf_19 rfl rfl ?_
      refine V_icmpne (tgt := 27) dX11_doneOf_20 (by decide) (fun h6 => ?_) (fun h6 => ?_)
      · refine V_iconst (v := 0) dX11_doneOf_27 rfl ?_
        refine V_iadd dX11_doneOf_28 ?_
        refine V_istore_n (lv' := [(2, .int (x2 + 0)), (0, .ref 130), (1, .int x1), (3, .int x3)]) dX11_doneOf_29 rfl (by decide) rfl ?_
        refine V_iinc (k := 3) (v := x3 + 1) (lv' := [(3, .int (x3 + 1)), (2, .int (x2 + 0)), (0, .ref 130), (1, .int x1)]) dX11_doneOf_30 rfl rfl (by decide) rfl ?_
        refine V_goto (tgt := 4) dX11_doneOf_33 (by decide) ?_
        refine V_sub [2, 3, 1, 0] rfl ?_
        exact ih M x1 (x2 + 0) (x3 + 1) hI
      · refine V_iconst (v := 1) dX11_doneOf_23 rfl ?_
        refine V_goto (tgt := 28) dX11_doneOf_24 (by decide) ?_
        refine V_iadd dX11_doneOf_28 ?_
        refine V_istore_n (lv' := [(2, .int (x2 + 1)), (0, .ref 130), (1, .int x1), (3, .int x3)]) dX11_doneOf_29 rfl (by decide) rfl ?_
        refine V_iinc (k := 3) (v := x3 + 1) (lv' := [(3, .int (x3 + 1)), (2, .int (x2 + 1)), (0, .ref 130), (1, .int x1)]) dX11_doneOf_30 rfl rfl (by decide) rfl ?_
        refine V_goto (tgt := 4) dX11_doneOf_33 (by decide) ?_
        refine V_sub [2, 3, 1, 0] rfl ?_
        exact ih M x1 (x2 + 1) (x3 + 1) hI
def fX11_doneOf (M : vM) (x1 : Int32) : Option (vR × vM) := fX11_doneOf_4 FU M x1 0 0
set_option maxRecDepth 20000 in
set_option maxHeartbeats 2000000 in
theorem cX11_doneOf_ok {l : Launch} {D : va_G} {dA : Nat → ClassId} (M : vM) (x1 : Int32) (hI : v_WT M.2.2) : Ct l D dA sX11_doneOf false 175 1 0 0 175 [.ref 130, .int x1] M (fX11_doneOf M x1) := by
  refine Ct_of (lv := [(0, .ref 130), (1, .int x1)]) (by decide +kernel) rfl (Nat.le_of_ble_eq_true rfl) rfl (fun h => by cases h) ?_
  refine V_iconst (v := 0) dX11_doneOf_0 rfl ?_
  refine V_istore_n (lv' := [(2, .int 0), (0, .ref 130), (1, .int x1)]) dX11_doneOf_1 rfl (by decide) rfl ?_
  refine V_iconst (v := 0) dX11_doneOf_2 rfl ?_
  refine V_istore_n (lv' := [(3, .int 0), (2, .int 0), (0, .ref 130), (1, .int x1)]) dX11_doneOf_3 rfl (by decide) rfl ?_
  refine V_sub [2, 3, 1, 0] rfl ?_
  exact vX11_doneOf_4 FU M x1 0 0 hI
def fX11_draw (M : vM) (x1 : Int32) : Option (vR × vM) := if x1 = 0 then none else rI (((((v_si M 130 50 (((M.1 130 50) * 1103515245) + 12345)).1 130 50) >>> (16 &&& (31 : Int32))) &&& 32767) - ((((v_si M 130 50 (((M.1 130 50) * 1103515245) + 12345)).1 130 50) >>> (16 &&& (31 : Int32))) &&& 32767) / x1 * x1) (v_si M 130 50 (((M.1 130 50) * 1103515245) + 12345))
set_option maxRecDepth 20000 in
set_option maxHeartbeats 2000000 in
theorem cX11_draw_ok {l : Launch} {D : va_G} {dA : Nat → ClassId} (M : vM) (x1 : Int32) (hI : v_WT M.2.2) : Ct l D dA sX11_draw false 175 1 0 0 175 [.ref 130, .int x1] M (fX11_draw M x1) := by
  refine Ct_of (lv := [(0, .ref 130), (1, .int x1)]) (by decide +kernel) rfl (Nat.le_of_ble_eq_true rfl) rfl (fun h => by cases h) ?_
  refine V_aload_n (k := 0) dX11_draw_0 rfl rfl ?_
  refine V_aload_n (k := 0) dX11_draw_1 rfl rfl ?_
  refine V_geti dX11_draw_2 rfl (by decide) vf_X11_412 (by decide) ?_
  refine V_ldcw dX11_draw_5 gw1758 ?_
  refine V_imul dX11_draw_8 ?_
  refine V_sipush (v := 12345) dX11_draw_9 rfl ?_
  refine V_iadd dX11_draw_12 ?_
  refine V_puti dX11_draw_13 rfl (by decide) vf_X11_412 (by decide) rfl rfl ?_
  refine V_aload_n (k := 0) dX11_draw_16 rfl rfl ?_
  refine V_geti dX11_draw_17 rfl (by decide) vf_X11_412 (by decide) ?_
  refine V_bipush (v := 16) dX11_draw_20 rfl ?_
  refine V_ishr dX11_draw_22 ?_
  refine V_sipush (v := 32767) dX11_draw_23 rfl ?_
  refine V_iand dX11_draw_26 ?_
  refine V_iload_n (k := 1) dX11_draw_27 rfl rfl ?_
  refine V_iremg dX11_draw_28 (fun h2 => ?_)
  exact V_ret (fun _ => hI) (Or.inr (Or.inl ⟨rfl, _, rfl⟩)) dX11_draw_29 (fun ty x h1 h2 => by cases h1; rfl) rfl
def fX11_drawn_42 (M : vM) : Option (vR × vM) := bi (fX11_fail M 2) fun y12 M13 => rI y12 M13
set_option maxRecDepth 20000 in
set_option maxHeartbeats 2000000 in
theorem vX11_drawn_42 {l : Launch} {D : va_G} {dA : Nat → ClassId} : ∀ (M : vM), v_WT M.2.2 → V l D dA sX11_drawn false 175 5 0 0 42 [(0, .ref 130)] [] 175 M (fX11_drawn_42 M) := by
  intro M hI
  refine V_aload_n (k := 0) dX11_drawn_42 rfl rfl ?_
  refine V_iconst (v := 2) dX11_drawn_43 rfl ?_
  refine V_callVi (q := (RX11, TX11, 61)) (cls := 11) (st0 := []) (kc' := 0) (ks' := 0) dX11_drawn_44 lk_X11_287 rfl (by decide) rfl rfl rfl (cX11_fail_ok M 2 hI) rfl rfl (by decide) (by decide) (Nat.le_of_ble_eq_true rfl) (Or.inl rfl) rfl rfl (by decide) (by decide) (fun y12 M13 e14 hI15 => ?_)
  exact V_ret (fun _ => hI15) (Or.inr (Or.inl ⟨rfl, _, rfl⟩)) dX11_drawn_47 (fun ty x h1 h2 => by cases h1; rfl) rfl
def fX11_drawn_74 (k65 : vM → Int32 → Int32 → Int32 → Int32 → Int32 → Int32 → Int32 → Option (vR × vM)) : Nat → vM → Int32 → Int32 → Int32 → Int32 → Int32 → Int32 → Int32 → Int32 → Option (vR × vM)
  | 0, _, _, _, _, _, _, _, _, _ => none
  | n9 + 1, M, x1, x2, x4, x5, x6, x7, x8, x9 => if (M.1 130 2) ≤ x9 then k65 M x1 x2 x4 x5 x6 x7 (x8 + 1) else bi (fX11_draw M 1000) fun y17 M18 => if y17 < x2 then bi (fX11_leftAt M18 x9 0) fun y22 M23 => if y22 = ((-1)) then fX11_drawn_74 k65 n9 M23 x1 x2 x4 x5 x6 (x7 + 1) x8 (x9 + 1) else bi (fX11_enter M23 x9 y22) fun y27 M28 => if y27 = 0 then fX11_drawn_74 k65 n9 M28 x1 x2 x4 x5 x6 (x7 + 1) x8 (x9 + 1) else if v_in ((2000 * x9) + y22) 12000 = true then fX11_drawn_74 k65 n9 M28 x1 x2 x4 (x5 + (M28.1 146 (Int32.toNatClampNeg ((2000 * x9) + y22)))) (x6 + 1) x7 x8 (x9 + 1) else none else fX11_drawn_74 k65 n9 M18 x1 x2 x4 x5 x6 x7 x8 (x9 + 1)
set_option maxRecDepth 20000 in
set_option maxHeartbeats 2000000 in
theorem vX11_drawn_74 {l : Launch} {D : va_G} {dA : Nat → ClassId} {k65 : vM → Int32 → Int32 → Int32 → Int32 → Int32 → Int32 → Int32 → Option (vR × vM)} (hk65 : ∀ (M : vM) (x1 : Int32) (x2 : Int32) (x4 : Int32) (x5 : Int32) (x6 : Int32) (x7 : Int32) (x8 : Int32), v_WT M.2.2 → V l D dA sX11_drawn false 175 5 0 0 65 [(0, .ref 130), (1, .int x1), (2, .int x2), (4, .int x4), (5, .int x5), (6, .int x6), (7, .int x7), (8, .int x8)] [] 175 M (k65 M x1 x2 x4 x5 x6 x7 x8)) : ∀ (n9 : Nat) (M : vM) (x1 : Int32) (x2 : Int32) (x4 : Int32) (x5 : Int32) (x6 : Int32) (x7 : Int32) (x8 : Int32) (x9 : Int32), v_WT M.2.2 → V l D dA sX11_drawn false 175 5 0 0 74 [(0, .ref 130), (1, .int x1), (2, .int x2), (4, .int x4), (5, .int x5), (6, .int x6), (7, .int x7), (8, .int x8), (9, .int x9)] [] 175 M (fX11_drawn_74 k65 n9 M x1 x2 x4 x5 x6 x7 x8 x9) := by
  intro n9
  induction n9 with
  | zero => intros; exact V_none
  | succ n9 ih =>
    intro M x1 x2 x4 x5 x6 x7 x8 x9 hI
    refine V_iload (k := 8) dX11_drawn_74 rfl ?_
    refine V_aload_n (k := 0) dX11_drawn_76 rfl rfl ?_
    refine V_geti dX11_drawn_77 rfl (by decide) vf_X11_157 (by decide) ?_
    refine V_icmpge (tgt := 157) dX11_drawn_80 (by decide) (fun h16 => ?_) (fun h16 => ?_)
    · refine V_iinc (k := 7) (v := x8 + 1) (lv' := [(8, .int (x8 + 1)), (0, .ref 130), (1, .int x1), (2, .int x2), (4, .int x4), (5, .int x5), (6, .int x6), (7, .int x7), (9, .int x9)]) dX11_drawn_157 rfl rfl (by decide) rfl ?_
      refine V_goto (tgt := 65) dX11_drawn_160 (by decide) ?_
      refine V_sub [1, 2, 3, 4, 5, 6, 7, 0] rfl ?_
      exact hk65 M x1 x2 x4 x5 x6 x7 (x8 + 1) hI
    · refine V_aload_n (k := 0) dX11_drawn_83 rfl rfl ?_
      refine V_sipush (v := 1000) dX11_drawn_84 rfl ?_
      refine V_callVi (q := (RX11, TX11, 61)) (cls := 11) (st0 := []) (kc' := 0) (ks' := 0) dX11_drawn_87 lk_X11_416 rfl (by decide) rfl rfl rfl (cX11_draw_ok M 1000 hI) rfl rfl (by decide) (by decide) (Nat.le_of_ble_eq_true rfl) (Or.inl rfl) rfl rfl (by decide) (by decide) (fun y17 M18 e19 hI20 => ?_)
      refine V_iload_n (k := 2) dX11_drawn_90 rfl rfl ?_
      refine V_icmplt (tgt := 97) dX11_drawn_91 (by decide) (fun h21 => ?_) (fun h21 => ?_)
      · refine V_aload_n (k := 0) dX11_drawn_97 rfl rfl ?_
        refine V_iload (k := 8) dX11_drawn_98 rfl ?_
        refine V_iconst (v := 0) dX11_drawn_100 rfl ?_
        refine V_callVi (q := (RX11, TX11, 61)) (cls := 11) (st0 := []) (kc' := 0) (ks' := 0) dX11_drawn_101 lk_X11_378 rfl (by decide) rfl rfl rfl (cX11_leftAt_ok M18 x9 0 hI20) rfl rfl (by decide) (by decide) (Nat.le_of_ble_eq_true rfl) (Or.inl rfl) rfl rfl (by decide) (by decide) (fun y22 M23 e24 hI25 => ?_)
        refine V_istore (lv' := [(10, .int y22), (0, .ref 130), (1, .int x1), (2, .int x2), (4, .int x4), (5, .int x5), (6, .int x6), (7, .int x7), (8, .int x8), (9, .int x9)]) dX11_drawn_104 (by decide) rfl ?_
        refine V_iload (k := 0) dX11_drawn_106 rfl ?_
        refine V_iconst (v := (-1)) dX11_drawn_108 rfl ?_
        refine V_icmpeq (tgt := 148) dX11_drawn_109 (by decide) (fun h26 => ?_) (fun h26 => ?_)
        · refine V_iinc (k := 7) (v := x7 + 1) (lv' := [(7, .int (x7 + 1)), (10, .int y22), (0, .ref 130), (1, .int x1), (2, .int x2), (4, .int x4), (5, .int x5), (6, .int x6), (8, .int x8), (9, .int x9)]) dX11_drawn_148 rfl rfl (by decide) rfl ?_
          refine V_iinc (k := 9) (v := x9 + 1) (lv' := [(9, .int (x9 + 1)), (7, .int (x7 + 1)), (10, .int y22), (0, .ref 130), (1, .int x1), (2, .int x2), (4, .int x4), (5, .int x5), (6, .int x6), (8, .int x8)]) dX11_drawn_151 rfl rfl (by decide) rfl ?_
          refine V_goto (tgt := 74) dX11_drawn_154 (by decide) ?_
          refine V_sub [3, 4, 5, 6, 7, 8, 1, 9, 0] rfl ?_
          exact ih M23 x1 x2 x4 x5 x6 (x7 + 1) x8 (x9 + 1) hI25
        · refine V_aload_n (k := 1) dX11_drawn_112 rfl rfl ?_
          refine V_iload (k := 9) dX11_drawn_113 rfl ?_
          refine V_iload (k := 0) dX11_drawn_115 rfl ?_
          refine V_callVi (q := (RX11, TX11, 61)) (cls := 11) (st0 := []) (kc' := 0) (ks' := 0) dX11_drawn_117 lk_X11_375 rfl (by decide) rfl rfl rfl (cX11_enter_ok M23 x9 y22 hI25) rfl rfl (by decide) (by decide) (Nat.le_of_ble_eq_true rfl) (Or.inl rfl) rfl rfl (by decide) (by decide) (fun y27 M28 e29 hI30 => ?_)
          refine V_ifeq (tgt := 148) dX11_drawn_120 (by decide) (fun h31 => ?_) (fun h31 => ?_)
          · refine V_iinc (k := 7) (v := x7 + 1) (lv' := [(7, .int (x7 + 1)), (10, .int y22), (0, .ref 130), (1, .int x1), (2, .int x2), (4, .int x4), (5, .int x5), (6, .int x6), (8, .int x8), (9, .int x9)]) dX11_drawn_148 rfl rfl (by decide) rfl ?_
            refine V_iinc (k := 9) (v := x9 + 1) (lv' := [(9, .int (x9 + 1)), (7, .int (x7 + 1)), (10, .int y22), (0, .ref 130), (1, .int x1), (2, .int x2), (4, .int x4), (5, .int x5), (6, .int x6), (8, .int x8)]) dX11_drawn_151 rfl rfl (by decide) rfl ?_
            refine V_goto (tgt := 74) dX11_drawn_154 (by decide) ?_
            refine V_sub [3, 4, 5, 6, 7, 8, 1, 9, 0] rfl ?_
            exact ih M28 x1 x2 x4 x5 x6 (x7 + 1) x8 (x9 + 1) hI30
          · refine V_iload (k := 5) dX11_drawn_123 rfl ?_
            refine V_aload_n (k := 1) dX11_drawn_125 rfl rfl ?_
            refine V_getr (k := 146) dX11_drawn_126 rfl (by decide) vf_X11_64 (by decide) (v_fin hI30 133 rfl) ?_
            refine V_sipush (v := 2000) dX11_drawn_129 rfl ?_
            refine V_iload (k := 9) dX11_drawn_132 rfl ?_
            refine V_imul dX11_drawn_134 ?_
            refine V_iload (k := 0) dX11_drawn_135 rfl ?_
            refine V_iadd dX11_drawn_137 ?_
            refine V_iald dX11_drawn_138 rfl (by decide) (fun h32 => ?_)
            refine V_iadd dX11_drawn_139 ?_
            refine V_istore (lv' := [(5, .int (x5 + (M28.1 146 (Int32.toNatClampNeg ((2000 * x9) + y22))))), (10, .int y22), (0, .ref 130), (1, .int x1), (2, .int x2), (4, .int x4), (6, .int x6), (7, .int x7), (8, .int x8), (9, .int x9)]) dX11_drawn_140 (by decide) rfl ?_
            refine V_iinc (k := 6) (v := x6 + 1) (lv' := [(6, .int (x6 + 1)), (5, .int (x5 + (M28.1 146 (Int32.toNatClampNeg ((2000 * x9) + y22))))), (10, .int y22), (0, .ref 130), (1, .int x1), (2, .int x2), (4, .int x4), (7, .int x7), (8, .int x8), (9, .int x9)]) dX11_drawn_142 rfl rfl (by decide) rfl ?_
            refine V_goto (tgt := 151) dX11_drawn_145 (by decide) ?_
            refine V_iinc (k := 9) (v := x9 + 1) (lv' := [(9, .int (x9 + 1)), (6, .int (x6 + 1)), (5, .int (x5 + (M28.1 146 (Int32.toNatClampNeg ((2000 * x9) + y22))))), (10, .int y22), (0, .ref 130), (1, .int x1), (2, .int x2), (4, .int x4), (7, .int x7), (8, .int x8)]) dX11_drawn_151 rfl rfl (by decide) rfl ?_
            refine V_goto (tgt := 74) dX11_drawn_154 (by decide) ?_
            refine V_sub [4, 5, 6, 7, 2, 1, 8, 9, 0] rfl ?_
            exact ih M28 x1 x2 x4 (x5 + (M28.1 146 (Int32.toNatClampNeg ((2000 * x9) + y22)))) (x6 + 1) x7 x8 (x9 + 1) hI30
      · refine V_goto (tgt := 151) dX11_drawn_94 (by decide) ?_
        refine V_iinc (k := 8) (v := x9 + 1) (lv' := [(9, .int (x9 + 1)), (0, .ref 130), (1, .int x1), (2, .int x2), (4, .int x4), (5, .int x5), (6, .int x6), (7, .int x7), (8, .int x8)]) dX11_drawn_151 rfl rfl (by decide) rfl ?_
        refine V_goto (tgt := 74) dX11_drawn_154 (by decide) ?_
        refine V_sub [1, 2, 3, 4, 5, 6, 7, 8, 0] rfl ?_
        exact ih M18 x1 x2 x4 x5 x6 x7 x8 (x9 + 1) hI20
def fX11_drawn_65 : Nat → vM → Int32 → Int32 → Int32 → Int32 → Int32 → Int32 → Int32 → Option (vR × vM)
  | 0, _, _, _, _, _, _, _, _ => none
  | n9 + 1, M, x1, x2, x4, x5, x6, x7, x8 => if x1 ≤ x8 then if x4 = 0 then rI x5 M else if x4 = 1 then rI x6 M else rI x7 M else fX11_drawn_74 (fX11_drawn_65 n9) FU M x1 x2 x4 x5 x6 x7 x8 0
set_option maxRecDepth 20000 in
set_option maxHeartbeats 2000000 in
theorem vX11_drawn_65 {l : Launch} {D : va_G} {dA : Nat → ClassId} : ∀ (n9 : Nat) (M : vM) (x1 : Int32) (x2 : Int32) (x4 : Int32) (x5 : Int32) (x6 : Int32) (x7 : Int32) (x8 : Int32), v_WT M.2.2 → V l D dA sX11_drawn false 175 5 0 0 65 [(0, .ref 130), (1, .int x1), (2, .int x2), (4, .int x4), (5, .int x5), (6, .int x6), (7, .int x7), (8, .int x8)] [] 175 M (fX11_drawn_65 n9 M x1 x2 x4 x5 x6 x7 x8) := by
  intro n9
  induction n9 with
  | zero => intros; exact V_none
  | succ n9 ih =>
    intro M x1 x2 x4 x5 x6 x7 x8 hI
    refine V_iload (k := 7) dX11_drawn_65 rfl ?_
    refine V_iload_n (k := 1) dX11_drawn_67 rfl rfl ?_
    refine V_icmpge (tgt := 163) dX11_drawn_68 (by decide) (fun h33 => ?_) (fun h33 => ?_)
    · refine V_iload (k := 3) dX11_drawn_163 rfl ?_
      refine V_ifne (tgt := 173) dX11_drawn_165 (by decide) (fun h34 => ?_) (fun h34 => ?_)
      · refine V_iload (k := 3) dX11_drawn_173 rfl ?_
        refine V_iconst (v := 1) dX11_drawn_175 rfl ?_
        refine V_icmpne (tgt := 184) dX11_drawn_176 (by decide) (fun h35 => ?_) (fun h35 => ?_)
        · refine V_iload (k := 6) dX11_drawn_184 rfl ?_
          exact V_ret (fun _ => hI) (Or.inr (Or.inl ⟨rfl, _, rfl⟩)) dX11_drawn_186 (fun ty x h1 h2 => by cases h1; rfl) rfl
        · refine V_iload (k := 5) dX11_drawn_179 rfl ?_
          refine V_goto (tgt := 186) dX11_drawn_181 (by decide) ?_
          exact V_ret (fun _ => hI) (Or.inr (Or.inl ⟨rfl, _, rfl⟩)) dX11_drawn_186 (fun ty x h1 h2 => by cases h1; rfl) rfl
      · refine V_iload (k := 4) dX11_drawn_168 rfl ?_
        refine V_goto (tgt := 186) dX11_drawn_170 (by decide) ?_
        exact V_ret (fun _ => hI) (Or.inr (Or.inl ⟨rfl, _, rfl⟩)) dX11_drawn_186 (fun ty x h1 h2 => by cases h1; rfl) rfl
    · refine V_iconst (v := 0) dX11_drawn_71 rfl ?_
      refine V_istore (lv' := [(9, .int 0), (0, .ref 130), (1, .int x1), (2, .int x2), (4, .int x4), (5, .int x5), (6, .int x6), (7, .int x7), (8, .int x8)]) dX11_drawn_72 (by decide) rfl ?_
      refine V_sub [1, 2, 3, 4, 5, 6, 7, 8, 0] rfl ?_
      exact vX11_drawn_74 (ih) FU M x1 x2 x4 x5 x6 x7 x8 0 hI
def fX11_drawn (M : vM) (x1 : Int32) (x2 : Int32) (x3 : Int32) (x4 : Int32) : Option (vR × vM) := bi (fX11_isIn (v_si M 130 1 0) x4 0 2) fun y36 M37 => if y36 = 0 then bi (fX11_fail M37 1) fun y51 M52 => rI y51 M52 else bi (fX11_isIn M37 x1 1 100) fun y41 M42 => if y41 = 0 then fX11_drawn_42 M42 else bi (fX11_isIn M42 x2 0 1000) fun y46 M47 => if y46 = 0 then fX11_drawn_42 M47 else fX11_drawn_65 FU (v_si M47 130 50 x3) x1 x2 x4 0 0 0 0
set_option maxRecDepth 20000 in
set_option maxHeartbeats 2000000 in
theorem cX11_drawn_ok {l : Launch} {D : va_G} {dA : Nat → ClassId} (M : vM) (x1 : Int32) (x2 : Int32) (x3 : Int32) (x4 : Int32) (hI : v_WT M.2.2) : Ct l D dA sX11_drawn false 175 5 0 0 175 [.ref 130, .int x1, .int x2, .int x3, .int x4] M (fX11_drawn M x1 x2 x3 x4) := by
  refine Ct_of (lv := [(0, .ref 130), (1, .int x1), (2, .int x2), (3, .int x3), (4, .int x4)]) (by decide +kernel) rfl (Nat.le_of_ble_eq_true rfl) rfl (fun h => by cases h) ?_
  refine V_aload_n (k := 0) dX11_drawn_0 rfl rfl ?_
  refine V_iconst (v := 0) dX11_drawn_1 rfl ?_
  refine V_puti dX11_drawn_2 rfl (by decide) vf_X11_154 (by decide) rfl rfl ?_
  refine V_iload (k := 4) dX11_drawn_5 rfl ?_
  refine V_iconst (v := 0) dX11_drawn_7 rfl ?_
  refine V_iconst (v := 2) dX11_drawn_8 rfl ?_
  refine V_callSi (st0 := []) (kc' := 0) (ks' := 0) dX11_drawn_9 lk_X11_160 rfl (cX11_isIn_ok (v_si M 130 1 0) x4 0 2 hI) rfl rfl (by decide) (by decide) (Nat.le_of_ble_eq_true rfl) (Or.inl rfl) rfl rfl (by decide) (by decide) (fun y36 M37 e38 hI39 => ?_)
  refine V_ifne (tgt := 21) dX11_drawn_12 (by decide) (fun h40 => ?_) (fun h40 => ?_)
  · refine V_iload_n (k := 1) dX11_drawn_21 rfl rfl ?_
    refine V_iconst (v := 1) dX11_drawn_22 rfl ?_
    refine V_bipush (v := 100) dX11_drawn_23 rfl ?_
    refine V_callSi (st0 := []) (kc' := 0) (ks' := 0) dX11_drawn_25 lk_X11_160 rfl (cX11_isIn_ok M37 x1 1 100 hI39) rfl rfl (by decide) (by decide) (Nat.le_of_ble_eq_true rfl) (Or.inl rfl) rfl rfl (by decide) (by decide) (fun y41 M42 e43 hI44 => ?_)
    refine V_ifeq (tgt := 42) dX11_drawn_28 (by decide) (fun h45 => ?_) (fun h45 => ?_)
    · refine V_sub [0] rfl ?_
      exact vX11_drawn_42 M42 hI44
    · refine V_iload_n (k := 2) dX11_drawn_31 rfl rfl ?_
      refine V_iconst (v := 0) dX11_drawn_32 rfl ?_
      refine V_sipush (v := 1000) dX11_drawn_33 rfl ?_
      refine V_callSi (st0 := []) (kc' := 0) (ks' := 0) dX11_drawn_36 lk_X11_160 rfl (cX11_isIn_ok M42 x2 0 1000 hI44) rfl rfl (by decide) (by decide) (Nat.le_of_ble_eq_true rfl) (Or.inl rfl) rfl rfl (by decide) (by decide) (fun y46 M47 e48 hI49 => ?_)
      refine V_ifne (tgt := 48) dX11_drawn_39 (by decide) (fun h50 => ?_) (fun h50 => ?_)
      · refine V_aload_n (k := 0) dX11_drawn_48 rfl rfl ?_
        refine V_iload_n (k := 3) dX11_drawn_49 rfl rfl ?_
        refine V_puti dX11_drawn_50 rfl (by decide) vf_X11_412 (by decide) rfl rfl ?_
        refine V_iconst (v := 0) dX11_drawn_53 rfl ?_
        refine V_istore (lv' := [(5, .int 0), (0, .ref 130), (1, .int x1), (2, .int x2), (3, .int x3), (4, .int x4)]) dX11_drawn_54 (by decide) rfl ?_
        refine V_iconst (v := 0) dX11_drawn_56 rfl ?_
        refine V_istore (lv' := [(6, .int 0), (5, .int 0), (0, .ref 130), (1, .int x1), (2, .int x2), (3, .int x3), (4, .int x4)]) dX11_drawn_57 (by decide) rfl ?_
        refine V_iconst (v := 0) dX11_drawn_59 rfl ?_
        refine V_istore (lv' := [(7, .int 0), (6, .int 0), (5, .int 0), (0, .ref 130), (1, .int x1), (2, .int x2), (3, .int x3), (4, .int x4)]) dX11_drawn_60 (by decide) rfl ?_
        refine V_iconst (v := 0) dX11_drawn_62 rfl ?_
        refine V_istore (lv' := [(8, .int 0), (7, .int 0), (6, .int 0), (5, .int 0), (0, .ref 130), (1, .int x1), (2, .int x2), (3, .int x3), (4, .int x4)]) dX11_drawn_63 (by decide) rfl ?_
        refine V_sub [4, 5, 6, 8, 3, 2, 1, 0] rfl ?_
        exact vX11_drawn_65 FU (v_si M47 130 50 x3) x1 x2 x4 0 0 0 0 hI49
      · refine V_sub [0] rfl ?_
        exact vX11_drawn_42 M47 hI49
  · refine V_aload_n (k := 0) dX11_drawn_15 rfl rfl ?_
    refine V_iconst (v := 1) dX11_drawn_16 rfl ?_
    refine V_callVi (q := (RX11, TX11, 61)) (cls := 11) (st0 := []) (kc' := 0) (ks' := 0) dX11_drawn_17 lk_X11_287 rfl (by decide) rfl rfl rfl (cX11_fail_ok M37 1 hI39) rfl rfl (by decide) (by decide) (Nat.le_of_ble_eq_true rfl) (Or.inl rfl) rfl rfl (by decide) (by decide) (fun y51 M52 e53 hI54 => ?_)
    exact V_ret (fun _ => hI54) (Or.inr (Or.inl ⟨rfl, _, rfl⟩)) dX11_drawn_20 (fun ty x h1 h2 => by cases h1; rfl) rfl
def fX11_fault (M : vM) : Option (vR × vM) := rI ((v_si M 130 1 0).1 130 40) (v_si M 130 1 0)
set_option maxRecDepth 20000 in
set_option maxHeartbeats 2000000 in
theorem cX11_fault_ok {l : Launch} {D : va_G} {dA : Nat → ClassId} (M : vM) (hI : v_WT M.2.2) : Ct l D dA sX11_fault false 175 1 0 0 175 [.ref 130] M (fX11_fault M) := by
  refine Ct_of (lv := [(0, .ref 130)]) (by decide +kernel) rfl (Nat.le_of_ble_eq_true rfl) rfl (fun h => by cases h) ?_
  refine V_aload_n (k := 0) dX11_fault_0 rfl rfl ?_
  refine V_iconst (v := 0) dX11_fault_1 rfl ?_
  refine V_puti dX11_fault_2 rfl (by decide) vf_X11_154 (by decide) rfl rfl ?_
  refine V_aload_n (k := 0) dX11_fault_5 rfl rfl ?_
  refine V_geti dX11_fault_6 rfl (by decide) vf_X11_101 (by decide) ?_
  exact V_ret (fun _ => hI) (Or.inr (Or.inl ⟨rfl, _, rfl⟩)) dX11_fault_9 (fun ty x h1 h2 => by cases h1; rfl) rfl
def fX11_feed_76 (k23 : vM → Int32 → Int32 → Int32 → Int32 → Int32 → Int32 → Option (vR × vM)) (M : vM) (x1 : Int32) (x2 : Int32) (x3 : Int32) (x4 : Int32) (x5 : Int32) (x6 : Int32) (s0 : Int32) : Option (vR × vM) := if v_in (M.1 130 31) 700 = true then k23 (v_si (v_si M 157 (Int32.toNatClampNeg (M.1 130 31)) ((s0 >>> ((24 - (8 * (x6 - x6 / 4 * 4))) &&& (31 : Int32))) &&& 255)) 130 31 (((v_si M 157 (Int32.toNatClampNeg (M.1 130 31)) ((s0 >>> ((24 - (8 * (x6 - x6 / 4 * 4))) &&& (31 : Int32))) &&& 255)).1 130 31) + 1)) x1 x2 x3 x4 x5 (x6 + 1) else none
set_option maxRecDepth 20000 in
set_option maxHeartbeats 2000000 in
theorem vX11_feed_76 {l : Launch} {D : va_G} {dA : Nat → ClassId} {k23 : vM → Int32 → Int32 → Int32 → Int32 → Int32 → Int32 → Option (vR × vM)} (hk23 : ∀ (M : vM) (x1 : Int32) (x2 : Int32) (x3 : Int32) (x4 : Int32) (x5 : Int32) (x6 : Int32), v_WT M.2.2 → V l D dA sX11_feed false 175 1 0 0 23 [(0, .ref 130), (1, .int x1), (2, .int x2), (3, .int x3), (4, .int x4), (5, .int x5), (6, .int x6)] [] 175 M (k23 M x1 x2 x3 x4 x5 x6)) : ∀ (M : vM) (x1 : Int32) (x2 : Int32) (x3 : Int32) (x4 : Int32) (x5 : Int32) (x6 : Int32) (s0 : Int32), v_WT M.2.2 → V l D dA sX11_feed false 175 1 0 0 76 [(0, .ref 130), (1, .int x1), (2, .int x2), (3, .int x3), (4, .int x4), (5, .int x5), (6, .int x6)] [.int s0] 175 M (fX11_feed_76 k23 M x1 x2 x3 x4 x5 x6 s0) := by
  intro M x1 x2 x3 x4 x5 x6 s0 hI
  refine V_istore (lv' := [(7, .int s0), (0, .ref 130), (1, .int x1), (2, .int x2), (3, .int x3), (4, .int x4), (5, .int x5), (6, .int x6)]) dX11_feed_76 (by decide) rfl ?_
  refine V_aload_n (k := 1) dX11_feed_78 rfl rfl ?_
  refine V_getr (k := 157) dX11_feed_79 rfl (by decide) vf_X11_98 (by decide) (v_fin hI 144 rfl) ?_
  refine V_aload_n (k := 1) dX11_feed_82 rfl rfl ?_
  refine V_geti dX11_feed_83 rfl (by decide) vf_X11_168 (by decide) ?_
  refine V_iload (k := 0) dX11_feed_86 rfl ?_
  refine V_bipush (v := 24) dX11_feed_88 rfl ?_
  refine V_bipush (v := 8) dX11_feed_90 rfl ?_
  refine V_iload (k := 7) dX11_feed_92 rfl ?_
  refine V_iconst (v := 4) dX11_feed_94 rfl ?_
  refine V_irem dX11_feed_95 (by decide) ?_
  refine V_imul dX11_feed_96 ?_
  refine V_isub dX11_feed_97 ?_
  refine V_ishr dX11_feed_98 ?_
  refine V_sipush (v := 255) dX11_feed_99 rfl ?_
  refine V_iand dX11_feed_102 ?_
  refine V_iast dX11_feed_103 rfl (by decide) (fun h8 => ?_)
  refine V_aload_n (k := 1) dX11_feed_104 rfl rfl ?_
  refine V_dup dX11_feed_105 rfl ?_
  refine V_geti dX11_feed_106 rfl (by decide) vf_X11_168 (by decide) ?_
  refine V_iconst (v := 1) dX11_feed_109 rfl ?_
  refine V_iadd dX11_feed_110 ?_
  refine V_puti dX11_feed_111 rfl (by decide) vf_X11_168 (by decide) rfl rfl ?_
  refine V_iinc (k := 7) (v := x6 + 1) (lv' := [(6, .int (x6 + 1)), (7, .int s0), (0, .ref 130), (1, .int x1), (2, .int x2), (3, .int x3), (4, .int x4), (5, .int x5)]) dX11_feed_114 rfl rfl (by decide) rfl ?_
  refine V_goto (tgt := 23) dX11_feed_117 (by decide) ?_
  refine V_sub [2, 3, 4, 5, 6, 7, 0] rfl ?_
  exact hk23 (v_si (v_si M 157 (Int32.toNatClampNeg (M.1 130 31)) ((s0 >>> ((24 - (8 * (x6 - x6 / 4 * 4))) &&& (31 : Int32))) &&& 255)) 130 31 (((v_si M 157 (Int32.toNatClampNeg (M.1 130 31)) ((s0 >>> ((24 - (8 * (x6 - x6 / 4 * 4))) &&& (31 : Int32))) &&& 255)).1 130 31) + 1)) x1 x2 x3 x4 x5 (x6 + 1) hI
def fX11_feed_23 : Nat → vM → Int32 → Int32 → Int32 → Int32 → Int32 → Int32 → Option (vR × vM)
  | 0, _, _, _, _, _, _, _ => none
  | n9 + 1, M, x1, x2, x3, x4, x5, x6 => if 20 ≤ x6 then rI (M.1 130 31) M else if 4 ≤ x6 then if 8 ≤ x6 then if 12 ≤ x6 then if 16 ≤ x6 then fX11_feed_76 (fX11_feed_23 n9) M x1 x2 x3 x4 x5 x6 x5 else fX11_feed_76 (fX11_feed_23 n9) M x1 x2 x3 x4 x5 x6 x4 else fX11_feed_76 (fX11_feed_23 n9) M x1 x2 x3 x4 x5 x6 x3 else fX11_feed_76 (fX11_feed_23 n9) M x1 x2 x3 x4 x5 x6 x2 else fX11_feed_76 (fX11_feed_23 n9) M x1 x2 x3 x4 x5 x6 x1
set_option maxRecDepth 20000 in
set_option maxHeartbeats 2000000 in
theorem vX11_feed_23 {l : Launch} {D : va_G} {dA : Nat → ClassId} : ∀ (n9 : Nat) (M : vM) (x1 : Int32) (x2 : Int32) (x3 : Int32) (x4 : Int32) (x5 : Int32) (x6 : Int32), v_WT M.2.2 → V l D dA sX11_feed false 175 1 0 0 23 [(0, .ref 130), (1, .int x1), (2, .int x2), (3, .int x3), (4, .int x4), (5, .int x5), (6, .int x6)] [] 175 M (fX11_feed_23 n9 M x1 x2 x3 x4 x5 x6) := by
  intro n9
  induction n9 with
  | zero => intros; exact V_none
  | succ n9 ih =>
    intro M x1 x2 x3 x4 x5 x6 hI
    refine V_iload (k := 6) dX11_feed_23 rfl ?_
    refine V_bipush (v := 20) dX11_feed_25 rfl ?_
    refine V_icmpge (tgt := 120) dX11_feed_27 (by decide) (fun h9 => ?_) (fun h9 => ?_)
    · refine V_aload_n (k := 0) dX11_feed_120 rfl rfl ?_
      refine V_geti dX11_feed_121 rfl (by decide) vf_X11_168 (by decide) ?_
      exact V_ret (fun _ => hI) (Or.inr (Or.inl ⟨rfl, _, rfl⟩)) dX11_feed_124 (fun ty x h1 h2 => by cases h1; rfl) rfl
    · refine V_iload (k := 6) dX11_feed_30 rfl ?_
      refine V_iconst (v := 4) dX11_feed_32 rfl ?_
      refine V_icmpge (tgt := 40) dX11_feed_33 (by decide) (fun h10 => ?_) (fun h10 => ?_)
      · refine V_iload (k := 6) dX11_feed_40 rfl ?_
        refine V_bipush (v := 8) dX11_feed_42 rfl ?_
        refine V_icmpge (tgt := 51) dX11_feed_44 (by decide) (fun h11 => ?_) (fun h11 => ?_)
        · refine V_iload (k := 6) dX11_feed_51 rfl ?_
          refine V_bipush (v := 12) dX11_feed_53 rfl ?_
          refine V_icmpge (tgt := 62) dX11_feed_55 (by decide) (fun h12 => ?_) (fun h12 => ?_)
          · refine V_iload (k := 6) dX11_feed_62 rfl ?_
            refine V_bipush (v := 16) dX11_feed_64 rfl ?_
            refine V_icmpge (tgt := 74) dX11_feed_66 (by decide) (fun h13 => ?_) (fun h13 => ?_)
            · refine V_iload (k := 5) dX11_feed_74 rfl ?_
              refine V_sub [0, 1, 2, 3, 4, 5, 6] rfl ?_
              exact vX11_feed_76 (ih) M x1 x2 x3 x4 x5 x6 x5 hI
            · refine V_iload (k := 4) dX11_feed_69 rfl ?_
              refine V_goto (tgt := 76) dX11_feed_71 (by decide) ?_
              refine V_sub [0, 1, 2, 3, 4, 5, 6] rfl ?_
              exact vX11_feed_76 (ih) M x1 x2 x3 x4 x5 x6 x4 hI
          · refine V_iload_n (k := 3) dX11_feed_58 rfl rfl ?_
            refine V_goto (tgt := 76) dX11_feed_59 (by decide) ?_
            refine V_sub [0, 1, 2, 3, 4, 5, 6] rfl ?_
            exact vX11_feed_76 (ih) M x1 x2 x3 x4 x5 x6 x3 hI
        · refine V_iload_n (k := 2) dX11_feed_47 rfl rfl ?_
          refine V_goto (tgt := 76) dX11_feed_48 (by decide) ?_
          refine V_sub [0, 1, 2, 3, 4, 5, 6] rfl ?_
          exact vX11_feed_76 (ih) M x1 x2 x3 x4 x5 x6 x2 hI
      · refine V_iload_n (k := 1) dX11_feed_36 rfl rfl ?_
        refine V_goto (tgt := 76) dX11_feed_37 (by decide) ?_
        refine V_sub [0, 1, 2, 3, 4, 5, 6] rfl ?_
        exact vX11_feed_76 (ih) M x1 x2 x3 x4 x5 x6 x1 hI
def fX11_feed (M : vM) (x1 : Int32) (x2 : Int32) (x3 : Int32) (x4 : Int32) (x5 : Int32) : Option (vR × vM) := if (((v_si M 130 1 0).1 130 31) + 20) ≤ 700 then fX11_feed_23 FU (v_si M 130 1 0) x1 x2 x3 x4 x5 0 else rI ((-1)) (v_si M 130 1 0)
set_option maxRecDepth 20000 in
set_option maxHeartbeats 2000000 in
theorem cX11_feed_ok {l : Launch} {D : va_G} {dA : Nat → ClassId} (M : vM) (x1 : Int32) (x2 : Int32) (x3 : Int32) (x4 : Int32) (x5 : Int32) (hI : v_WT M.2.2) : Ct l D dA sX11_feed false 175 1 0 0 175 [.ref 130, .int x1, .int x2, .int x3, .int x4, .int x5] M (fX11_feed M x1 x2 x3 x4 x5) := by
  refine Ct_of (lv := [(0, .ref 130), (1, .int x1), (2, .int x2), (3, .int x3), (4, .int x4), (5, .int x5)]) (by decide +kernel) rfl (Nat.le_of_ble_eq_true rfl) rfl (fun h => by cases h) ?_
  refine V_aload_n (k := 0) dX11_feed_0 rfl rfl ?_
  refine V_iconst (v := 0) dX11_feed_1 rfl ?_
  refine V_puti dX11_feed_2 rfl (by decide) vf_X11_154 (by decide) rfl rfl ?_
  refine V_aload_n (k := 0) dX11_feed_5 rfl rfl ?_
  refine V_geti dX11_feed_6 rfl (by decide) vf_X11_168 (by decide) ?_
  refine V_bipush (v := 20) dX11_feed_9 rfl ?_
  refine V_iadd dX11_feed_11 ?_
  refine V_sipush (v := 700) dX11_feed_12 rfl ?_
  refine V_icmple (tgt := 20) dX11_feed_15 (by decide) (fun h14 => ?_) (fun h14 => ?_)
  · refine V_iconst (v := 0) dX11_feed_20 rfl ?_
    refine V_istore (lv' := [(6, .int 0), (0, .ref 130), (1, .int x1), (2, .int x2), (3, .int x3), (4, .int x4), (5, .int x5)]) dX11_feed_21 (by decide) rfl ?_
    refine V_sub [1, 2, 3, 4, 5, 6, 0] rfl ?_
    exact vX11_feed_23 FU (v_si M 130 1 0) x1 x2 x3 x4 x5 0 hI
  · refine V_iconst (v := (-1)) dX11_feed_18 rfl ?_
    exact V_ret (fun _ => hI) (Or.inr (Or.inl ⟨rfl, _, rfl⟩)) dX11_feed_19 (fun ty x h1 h2 => by cases h1; rfl) rfl
def fX11_findOf_2 : Nat → vM → Int32 → Int32 → Int32 → Option (vR × vM)
  | 0, _, _, _, _ => none
  | n9 + 1, M, x1, x2, x3 => if v_in x1 6 = true then if (M.1 145 (Int32.toNatClampNeg x1)) ≤ x3 then rI ((-1)) M else bi (fX11_markOf M x1 x3) fun y6 M7 => if y6 = x2 then rI x3 M7 else fX11_findOf_2 n9 M7 x1 x2 (x3 + 1) else none
set_option maxRecDepth 20000 in
set_option maxHeartbeats 2000000 in
theorem vX11_findOf_2 {l : Launch} {D : va_G} {dA : Nat → ClassId} : ∀ (n9 : Nat) (M : vM) (x1 : Int32) (x2 : Int32) (x3 : Int32), v_WT M.2.2 → V l D dA sX11_findOf false 175 2 0 0 2 [(0, .ref 130), (1, .int x1), (2, .int x2), (3, .int x3)] [] 175 M (fX11_findOf_2 n9 M x1 x2 x3) := by
  intro n9
  induction n9 with
  | zero => intros; exact V_none
  | succ n9 ih =>
    intro M x1 x2 x3 hI
    refine V_iload_n (k := 3) dX11_findOf_2 rfl rfl ?_
    refine V_aload_n (k := 0) dX11_findOf_3 rfl rfl ?_
    refine V_getr (k := 145) dX11_findOf_4 rfl (by decide) vf_X11_61 (by decide) (v_fin hI 132 rfl) ?_
    refine V_iload_n (k := 1) dX11_findOf_7 rfl rfl ?_
    refine V_iald dX11_findOf_8 rfl (by decide) (fun h4 => ?_)
    refine V_icmpge (tgt := 30) dX11_findOf_9 (by decide) (fun h5 => ?_) (fun h5 => ?_)
    · refine V_iconst (v := (-1)) dX11_findOf_30 rfl ?_
      exact V_ret (fun _ => hI) (Or.inr (Or.inl ⟨rfl, _, rfl⟩)) dX11_findOf_31 (fun ty x h1 h2 => by cases h1; rfl) rfl
    · refine V_aload_n (k := 0) dX11_findOf_12 rfl rfl ?_
      refine V_iload_n (k := 1) dX11_findOf_13 rfl rfl ?_
      refine V_iload_n (k := 3) dX11_findOf_14 rfl rfl ?_
      refine V_callVi (q := (RX11, TX11, 61)) (cls := 11) (st0 := []) (kc' := 0) (ks' := 0) dX11_findOf_15 lk_X11_349 rfl (by decide) rfl rfl rfl (cX11_markOf_ok M x1 x3 hI) rfl rfl (by decide) (by decide) (Nat.le_of_ble_eq_true rfl) (Or.inl rfl) rfl rfl (by decide) (by decide) (fun y6 M7 e8 hI9 => ?_)
      refine V_iload_n (k := 2) dX11_findOf_18 rfl rfl ?_
      refine V_icmpne (tgt := 24) dX11_findOf_19 (by decide) (fun h10 => ?_) (fun h10 => ?_)
      · refine V_iinc (k := 3) (v := x3 + 1) (lv' := [(3, .int (x3 + 1)), (0, .ref 130), (1, .int x1), (2, .int x2)]) dX11_findOf_24 rfl rfl (by decide) rfl ?_
        refine V_goto (tgt := 2) dX11_findOf_27 (by decide) ?_
        refine V_sub [1, 2, 3, 0] rfl ?_
        exact ih M7 x1 x2 (x3 + 1) hI9
      · refine V_iload_n (k := 3) dX11_findOf_22 rfl rfl ?_
        exact V_ret (fun _ => hI9) (Or.inr (Or.inl ⟨rfl, _, rfl⟩)) dX11_findOf_23 (fun ty x h1 h2 => by cases h1; rfl) rfl
def fX11_findOf (M : vM) (x1 : Int32) (x2 : Int32) : Option (vR × vM) := fX11_findOf_2 FU M x1 x2 0
set_option maxRecDepth 20000 in
set_option maxHeartbeats 2000000 in
theorem cX11_findOf_ok {l : Launch} {D : va_G} {dA : Nat → ClassId} (M : vM) (x1 : Int32) (x2 : Int32) (hI : v_WT M.2.2) : Ct l D dA sX11_findOf false 175 2 0 0 175 [.ref 130, .int x1, .int x2] M (fX11_findOf M x1 x2) := by
  refine Ct_of (lv := [(0, .ref 130), (1, .int x1), (2, .int x2)]) (by decide +kernel) rfl (Nat.le_of_ble_eq_true rfl) rfl (fun h => by cases h) ?_
  refine V_iconst (v := 0) dX11_findOf_0 rfl ?_
  refine V_istore_n (lv' := [(3, .int 0), (0, .ref 130), (1, .int x1), (2, .int x2)]) dX11_findOf_1 rfl (by decide) rfl ?_
  refine V_sub [1, 2, 3, 0] rfl ?_
  exact vX11_findOf_2 FU M x1 x2 0 hI
def fX11_find (M : vM) (x1 : Int32) (x2 : Int32) : Option (vR × vM) := bi (fX11_isWork (v_si M 130 1 0) x1) fun y2 M3 => if y2 = 0 then bi (fX11_fail M3 1) fun y7 M8 => rI y7 M8 else bi (fX11_findOf M3 x1 x2) fun y11 M12 => rI y11 M12
set_option maxRecDepth 20000 in
set_option maxHeartbeats 2000000 in
theorem cX11_find_ok {l : Launch} {D : va_G} {dA : Nat → ClassId} (M : vM) (x1 : Int32) (x2 : Int32) (hI : v_WT M.2.2) : Ct l D dA sX11_find false 175 3 0 0 175 [.ref 130, .int x1, .int x2] M (fX11_find M x1 x2) := by
  refine Ct_of (lv := [(0, .ref 130), (1, .int x1), (2, .int x2)]) (by decide +kernel) rfl (Nat.le_of_ble_eq_true rfl) rfl (fun h => by cases h) ?_
  refine V_aload_n (k := 0) dX11_find_0 rfl rfl ?_
  refine V_iconst (v := 0) dX11_find_1 rfl ?_
  refine V_puti dX11_find_2 rfl (by decide) vf_X11_154 (by decide) rfl rfl ?_
  refine V_aload_n (k := 0) dX11_find_5 rfl rfl ?_
  refine V_iload_n (k := 1) dX11_find_6 rfl rfl ?_
  refine V_callVi (q := (RX11, TX11, 61)) (cls := 11) (st0 := []) (kc' := 0) (ks' := 0) dX11_find_7 lk_X11_164 rfl (by decide) rfl rfl rfl (cX11_isWork_ok (v_si M 130 1 0) x1 hI) rfl rfl (by decide) (by decide) (Nat.le_of_ble_eq_true rfl) (Or.inl rfl) rfl rfl (by decide) (by decide) (fun y2 M3 e4 hI5 => ?_)
  refine V_ifeq (tgt := 22) dX11_find_10 (by decide) (fun h6 => ?_) (fun h6 => ?_)
  · refine V_aload_n (k := 0) dX11_find_22 rfl rfl ?_
    refine V_iconst (v := 1) dX11_find_23 rfl ?_
    refine V_callVi (q := (RX11, TX11, 61)) (cls := 11) (st0 := []) (kc' := 0) (ks' := 0) dX11_find_24 lk_X11_287 rfl (by decide) rfl rfl rfl (cX11_fail_ok M3 1 hI5) rfl rfl (by decide) (by decide) (Nat.le_of_ble_eq_true rfl) (Or.inl rfl) rfl rfl (by decide) (by decide) (fun y7 M8 e9 hI10 => ?_)
    exact V_ret (fun _ => hI10) (Or.inr (Or.inl ⟨rfl, _, rfl⟩)) dX11_find_27 (fun ty x h1 h2 => by cases h1; rfl) rfl
  · refine V_aload_n (k := 0) dX11_find_13 rfl rfl ?_
    refine V_iload_n (k := 1) dX11_find_14 rfl rfl ?_
    refine V_iload_n (k := 2) dX11_find_15 rfl rfl ?_
    refine V_callVi (q := (RX11, TX11, 61)) (cls := 11) (st0 := []) (kc' := 0) (ks' := 0) dX11_find_16 lk_X11_369 rfl (by decide) rfl rfl rfl (cX11_findOf_ok M3 x1 x2 hI5) rfl rfl (by decide) (by decide) (Nat.le_of_ble_eq_true rfl) (Or.inl rfl) rfl rfl (by decide) (by decide) (fun y11 M12 e13 hI14 => ?_)
    refine V_goto (tgt := 27) dX11_find_19 (by decide) ?_
    exact V_ret (fun _ => hI14) (Or.inr (Or.inl ⟨rfl, _, rfl⟩)) dX11_find_27 (fun ty x h1 h2 => by cases h1; rfl) rfl
def fX11_sortPeople_27 (k2 : vM → Int32 → Int32 → Option (vR × vM)) : Nat → vM → Int32 → Int32 → Int32 → Int32 → Option (vR × vM)
  | 0, _, _, _, _, _ => none
  | n9 + 1, M, x1, x2, x3, x4 => if x4 ≤ 0 then if v_in x4 12 = true then k2 (v_si M 163 (Int32.toNatClampNeg x4) x3) x1 (x2 + 1) else none else if v_in (x4 - 1) 12 = true then if x3 ≤ (M.1 163 (Int32.toNatClampNeg (x4 - 1))) then if v_in x4 12 = true then k2 (v_si M 163 (Int32.toNatClampNeg x4) x3) x1 (x2 + 1) else none else if v_in (x4 - 1) 12 = true then if v_in x4 12 = true then fX11_sortPeople_27 k2 n9 (v_si M 163 (Int32.toNatClampNeg x4) (M.1 163 (Int32.toNatClampNeg (x4 - 1)))) x1 x2 x3 (x4 + (-1)) else none else none else none
set_option maxRecDepth 20000 in
set_option maxHeartbeats 2000000 in
theorem vX11_sortPeople_27 {l : Launch} {D : va_G} {dA : Nat → ClassId} {k2 : vM → Int32 → Int32 → Option (vR × vM)} (hk2 : ∀ (M : vM) (x1 : Int32) (x2 : Int32), v_WT M.2.2 → V l D dA sX11_sortPeople false 175 1 0 0 2 [(0, .ref 130), (1, .int x1), (2, .int x2)] [] 175 M (k2 M x1 x2)) : ∀ (n9 : Nat) (M : vM) (x1 : Int32) (x2 : Int32) (x3 : Int32) (x4 : Int32), v_WT M.2.2 → V l D dA sX11_sortPeople false 175 1 0 0 27 [(0, .ref 130), (1, .int x1), (2, .int x2), (3, .int x3), (4, .int x4)] [] 175 M (fX11_sortPeople_27 k2 n9 M x1 x2 x3 x4) := by
  intro n9
  induction n9 with
  | zero => intros; exact V_none
  | succ n9 ih =>
    intro M x1 x2 x3 x4 hI
    refine V_iload (k := 4) dX11_sortPeople_27 rfl ?_
    refine V_ifle (tgt := 67) dX11_sortPeople_29 (by decide) (fun h11 => ?_) (fun h11 => ?_)
    · refine V_aload_n (k := 0) dX11_sortPeople_67 rfl rfl ?_
      refine V_getr (k := 163) dX11_sortPeople_68 rfl (by decide) vf_X11_121 (by decide) (v_fin hI 150 rfl) ?_
      refine V_iload (k := 4) dX11_sortPeople_71 rfl ?_
      refine V_iload_n (k := 3) dX11_sortPeople_73 rfl rfl ?_
      refine V_iast dX11_sortPeople_74 rfl (by decide) (fun h12 => ?_)
      refine V_iinc (k := 2) (v := x2 + 1) (lv' := [(2, .int (x2 + 1)), (0, .ref 130), (1, .int x1), (3, .int x3), (4, .int x4)]) dX11_sortPeople_75 rfl rfl (by decide) rfl ?_
      refine V_goto (tgt := 2) dX11_sortPeople_78 (by decide) ?_
      refine V_sub [1, 2, 0] rfl ?_
      exact hk2 (v_si M 163 (Int32.toNatClampNeg x4) x3) x1 (x2 + 1) hI
    · refine V_aload_n (k := 0) dX11_sortPeople_32 rfl rfl ?_
      refine V_getr (k := 163) dX11_sortPeople_33 rfl (by decide) vf_X11_121 (by decide) (v_fin hI 150 rfl) ?_
      refine V_iload (k := 4) dX11_sortPeople_36 rfl ?_
      refine V_iconst (v := 1) dX11_sortPeople_38 rfl ?_
      refine V_isub dX11_sortPeople_39 ?_
      refine V_iald dX11_sortPeople_40 rfl (by decide) (fun h13 => ?_)
      refine V_iload_n (k := 3) dX11_sortPeople_41 rfl rfl ?_
      refine V_icmpge (tgt := 67) dX11_sortPeople_42 (by decide) (fun h14 => ?_) (fun h14 => ?_)
      · refine V_aload_n (k := 0) dX11_sortPeople_67 rfl rfl ?_
        refine V_getr (k := 163) dX11_sortPeople_68 rfl (by decide) vf_X11_121 (by decide) (v_fin hI 150 rfl) ?_
        refine V_iload (k := 4) dX11_sortPeople_71 rfl ?_
        refine V_iload_n (k := 3) dX11_sortPeople_73 rfl rfl ?_
        refine V_iast dX11_sortPeople_74 rfl (by decide) (fun h15 => ?_)
        refine V_iinc (k := 2) (v := x2 + 1) (lv' := [(2, .int (x2 + 1)), (0, .ref 130), (1, .int x1), (3, .int x3), (4, .int x4)]) dX11_sortPeople_75 rfl rfl (by decide) rfl ?_
        refine V_goto (tgt := 2) dX11_sortPeople_78 (by decide) ?_
        refine V_sub [1, 2, 0] rfl ?_
        exact hk2 (v_si M 163 (Int32.toNatClampNeg x4) x3) x1 (x2 + 1) hI
      · refine V_aload_n (k := 0) dX11_sortPeople_45 rfl rfl ?_
        refine V_getr (k := 163) dX11_sortPeople_46 rfl (by decide) vf_X11_121 (by decide) (v_fin hI 150 rfl) ?_
        refine V_iload (k := 4) dX11_sortPeople_49 rfl ?_
        refine V_aload_n (k := 0) dX11_sortPeople_51 rfl rfl ?_
        refine V_getr (k := 163) dX11_sortPeople_52 rfl (by decide) vf_X11_121 (by decide) (v_fin hI 150 rfl) ?_
        refine V_iload (k := 4) dX11_sortPeople_55 rfl ?_
        refine V_iconst (v := 1) dX11_sortPeople_57 rfl ?_
        refine V_isub dX11_sortPeople_58 ?_
        refine V_iald dX11_sortPeople_59 rfl (by decide) (fun h16 => ?_)
        refine V_iast dX11_sortPeople_60 rfl (by decide) (fun h17 => ?_)
        refine V_iinc (k := 4) (v := x4 + (-1)) (lv' := [(4, .int (x4 + (-1))), (0, .ref 130), (1, .int x1), (2, .int x2), (3, .int x3)]) dX11_sortPeople_61 rfl rfl (by decide) rfl ?_
        refine V_goto (tgt := 27) dX11_sortPeople_64 (by decide) ?_
        refine V_sub [1, 2, 3, 4, 0] rfl ?_
        exact ih (v_si M 163 (Int32.toNatClampNeg x4) (M.1 163 (Int32.toNatClampNeg (x4 - 1)))) x1 x2 x3 (x4 + (-1)) hI
def fX11_sortPeople_2 : Nat → vM → Int32 → Int32 → Option (vR × vM)
  | 0, _, _, _ => none
  | n9 + 1, M, x1, x2 => if v_in x1 6 = true then if (M.1 153 (Int32.toNatClampNeg x1)) ≤ x2 then rV M else if v_in ((12 * x1) + x2) 72 = true then fX11_sortPeople_27 (fX11_sortPeople_2 n9) FU M x1 x2 (M.1 154 (Int32.toNatClampNeg ((12 * x1) + x2))) x2 else none else none
set_option maxRecDepth 20000 in
set_option maxHeartbeats 2000000 in
theorem vX11_sortPeople_2 {l : Launch} {D : va_G} {dA : Nat → ClassId} : ∀ (n9 : Nat) (M : vM) (x1 : Int32) (x2 : Int32), v_WT M.2.2 → V l D dA sX11_sortPeople false 175 1 0 0 2 [(0, .ref 130), (1, .int x1), (2, .int x2)] [] 175 M (fX11_sortPeople_2 n9 M x1 x2) := by
  intro n9
  induction n9 with
  | zero => intros; exact V_none
  | succ n9 ih =>
    intro M x1 x2 hI
    refine V_iload_n (k := 2) dX11_sortPeople_2 rfl rfl ?_
    refine V_aload_n (k := 0) dX11_sortPeople_3 rfl rfl ?_
    refine V_getr (k := 153) dX11_sortPeople_4 rfl (by decide) vf_X11_86 (by decide) (v_fin hI 140 rfl) ?_
    refine V_iload_n (k := 1) dX11_sortPeople_7 rfl rfl ?_
    refine V_iald dX11_sortPeople_8 rfl (by decide) (fun h18 => ?_)
    refine V_icmpge (tgt := 81) dX11_sortPeople_9 (by decide) (fun h19 => ?_) (fun h19 => ?_)
    · exact V_ret (fun _ => hI) (Or.inl ⟨rfl, rfl⟩) dX11_sortPeople_81 (fun ty x h1 h2 => by cases h1) rfl
    · refine V_aload_n (k := 0) dX11_sortPeople_12 rfl rfl ?_
      refine V_getr (k := 154) dX11_sortPeople_13 rfl (by decide) vf_X11_89 (by decide) (v_fin hI 141 rfl) ?_
      refine V_bipush (v := 12) dX11_sortPeople_16 rfl ?_
      refine V_iload_n (k := 1) dX11_sortPeople_18 rfl rfl ?_
      refine V_imul dX11_sortPeople_19 ?_
      refine V_iload_n (k := 2) dX11_sortPeople_20 rfl rfl ?_
      refine V_iadd dX11_sortPeople_21 ?_
      refine V_iald dX11_sortPeople_22 rfl (by decide) (fun h20 => ?_)
      refine V_istore_n (lv' := [(3, .int (M.1 154 (Int32.toNatClampNeg ((12 * x1) + x2)))), (0, .ref 130), (1, .int x1), (2, .int x2)]) dX11_sortPeople_23 rfl (by decide) rfl ?_
      refine V_iload_n (k := 3) dX11_sortPeople_24 rfl rfl ?_
      refine V_istore (lv' := [(4, .int x2), (3, .int (M.1 154 (Int32.toNatClampNeg ((12 * x1) + x2)))), (0, .ref 130), (1, .int x1), (2, .int x2)]) dX11_sortPeople_25 (by decide) rfl ?_
      refine V_sub [2, 3, 4, 1, 0] rfl ?_
      exact vX11_sortPeople_27 (ih) FU M x1 x2 (M.1 154 (Int32.toNatClampNeg ((12 * x1) + x2))) x2 hI
def fX11_sortPeople (M : vM) (x1 : Int32) : Option (vR × vM) := fX11_sortPeople_2 FU M x1 0
set_option maxRecDepth 20000 in
set_option maxHeartbeats 2000000 in
theorem cX11_sortPeople_ok {l : Launch} {D : va_G} {dA : Nat → ClassId} (M : vM) (x1 : Int32) (hI : v_WT M.2.2) : Ct l D dA sX11_sortPeople false 175 1 0 0 175 [.ref 130, .int x1] M (fX11_sortPeople M x1) := by
  refine Ct_of (lv := [(0, .ref 130), (1, .int x1)]) (by decide +kernel) rfl (Nat.le_of_ble_eq_true rfl) rfl (fun h => by cases h) ?_
  refine V_iconst (v := 0) dX11_sortPeople_0 rfl ?_
  refine V_istore_n (lv' := [(2, .int 0), (0, .ref 130), (1, .int x1)]) dX11_sortPeople_1 rfl (by decide) rfl ?_
  refine V_sub [1, 2, 0] rfl ?_
  exact vX11_sortPeople_2 FU M x1 0 hI
def fX11_given_22 (M : vM) : Option (vR × vM) := bi (fX11_fail M 1) fun y19 M20 => rI y19 M20
set_option maxRecDepth 20000 in
set_option maxHeartbeats 2000000 in
theorem vX11_given_22 {l : Launch} {D : va_G} {dA : Nat → ClassId} : ∀ (M : vM), v_WT M.2.2 → V l D dA sX11_given false 175 3 0 0 22 [(0, .ref 130)] [] 175 M (fX11_given_22 M) := by
  intro M hI
  refine V_aload_n (k := 0) dX11_given_22 rfl rfl ?_
  refine V_iconst (v := 1) dX11_given_23 rfl ?_
  refine V_callVi (q := (RX11, TX11, 61)) (cls := 11) (st0 := []) (kc' := 0) (ks' := 0) dX11_given_24 lk_X11_287 rfl (by decide) rfl rfl rfl (cX11_fail_ok M 1 hI) rfl rfl (by decide) (by decide) (Nat.le_of_ble_eq_true rfl) (Or.inl rfl) rfl rfl (by decide) (by decide) (fun y19 M20 e21 hI22 => ?_)
  exact V_ret (fun _ => hI22) (Or.inr (Or.inl ⟨rfl, _, rfl⟩)) dX11_given_27 (fun ty x h1 h2 => by cases h1; rfl) rfl
def fX11_given_197 (M : vM) (x2 : Int32) (x5 : Int32) (x6 : Int32) : Option (vR × vM) := if x2 = 2 then rI x5 M else rI x6 M
set_option maxRecDepth 20000 in
set_option maxHeartbeats 2000000 in
theorem vX11_given_197 {l : Launch} {D : va_G} {dA : Nat → ClassId} : ∀ (M : vM) (x2 : Int32) (x5 : Int32) (x6 : Int32), v_WT M.2.2 → V l D dA sX11_given false 175 3 0 0 197 [(2, .int x2), (5, .int x5), (6, .int x6)] [] 175 M (fX11_given_197 M x2 x5 x6) := by
  intro M x2 x5 x6 hI
  refine V_iload_n (k := 0) dX11_given_197 rfl rfl ?_
  refine V_iconst (v := 2) dX11_given_198 rfl ?_
  refine V_icmpne (tgt := 207) dX11_given_199 (by decide) (fun h23 => ?_) (fun h23 => ?_)
  · refine V_iload (k := 2) dX11_given_207 rfl ?_
    exact V_ret (fun _ => hI) (Or.inr (Or.inl ⟨rfl, _, rfl⟩)) dX11_given_209 (fun ty x h1 h2 => by cases h1; rfl) rfl
  · refine V_iload (k := 1) dX11_given_202 rfl ?_
    refine V_goto (tgt := 209) dX11_given_204 (by decide) ?_
    exact V_ret (fun _ => hI) (Or.inr (Or.inl ⟨rfl, _, rfl⟩)) dX11_given_209 (fun ty x h1 h2 => by cases h1; rfl) rfl
def fX11_given_176 (M : vM) (x2 : Int32) (x3 : Int32) (x5 : Int32) (s0 : Int32) : Option (vR × vM) := if x3 ≤ 0 then fX11_given_197 M x2 x5 s0 else if v_in (x3 - 1) 12 = true then fX11_given_197 M x2 x5 (if M.1 163 (Int32.toNatClampNeg (x3 - 1)) < s0 then M.1 163 (Int32.toNatClampNeg (x3 - 1)) else s0) else none
set_option maxRecDepth 20000 in
set_option maxHeartbeats 2000000 in
theorem vX11_given_176 {l : Launch} {D : va_G} {dA : Nat → ClassId} : ∀ (M : vM) (x2 : Int32) (x3 : Int32) (x5 : Int32) (s0 : Int32), v_WT M.2.2 → V l D dA sX11_given false 175 3 0 0 176 [(0, .ref 130), (2, .int x2), (3, .int x3), (5, .int x5)] [.int s0] 175 M (fX11_given_176 M x2 x3 x5 s0) := by
  intro M x2 x3 x5 s0 hI
  refine V_istore (lv' := [(6, .int s0), (0, .ref 130), (2, .int x2), (3, .int x3), (5, .int x5)]) dX11_given_176 (by decide) rfl ?_
  refine V_iload_n (k := 3) dX11_given_178 rfl rfl ?_
  refine V_ifle (tgt := 197) dX11_given_179 (by decide) (fun h24 => ?_) (fun h24 => ?_)
  · refine V_sub [2, 4, 0] rfl ?_
    exact vX11_given_197 M x2 x5 s0 hI
  · refine V_iload (k := 0) dX11_given_182 rfl ?_
    refine V_aload_n (k := 1) dX11_given_184 rfl rfl ?_
    refine V_getr (k := 163) dX11_given_185 rfl (by decide) vf_X11_121 (by decide) (v_fin hI 150 rfl) ?_
    refine V_iload_n (k := 3) dX11_given_188 rfl rfl ?_
    refine V_iconst (v := 1) dX11_given_189 rfl ?_
    refine V_isub dX11_given_190 ?_
    refine V_iald dX11_given_191 rfl (by decide) (fun h25 => ?_)
    refine V_mmin dX11_given_192 gw1461 gw793 gw101 gw794 (by decide) (Nat.le_of_ble_eq_true rfl) ?_
    refine V_istore (lv' := [(6, .int (if M.1 163 (Int32.toNatClampNeg (x3 - 1)) < s0 then M.1 163 (Int32.toNatClampNeg (x3 - 1)) else s0)), (0, .ref 130), (2, .int x2), (3, .int x3), (5, .int x5)]) dX11_given_195 (by decide) rfl ?_
    refine V_sub [2, 4, 0] rfl ?_
    exact vX11_given_197 M x2 x5 (if M.1 163 (Int32.toNatClampNeg (x3 - 1)) < s0 then M.1 163 (Int32.toNatClampNeg (x3 - 1)) else s0) hI
def fX11_given_154 (M : vM) (x1 : Int32) (x2 : Int32) (x3 : Int32) (x5 : Int32) : Option (vR × vM) := bi (fX11_costLeft M x1 x3) fun y26 M27 => if y26 = ((-1)) then fX11_given_176 M27 x2 x3 x5 9999 else bi (fX11_costLeft M27 x1 x3) fun y31 M32 => fX11_given_176 M32 x2 x3 x5 y31
set_option maxRecDepth 20000 in
set_option maxHeartbeats 2000000 in
theorem vX11_given_154 {l : Launch} {D : va_G} {dA : Nat → ClassId} : ∀ (M : vM) (x1 : Int32) (x2 : Int32) (x3 : Int32) (x5 : Int32), v_WT M.2.2 → V l D dA sX11_given false 175 3 0 0 154 [(0, .ref 130), (1, .int x1), (2, .int x2), (3, .int x3), (5, .int x5)] [] 175 M (fX11_given_154 M x1 x2 x3 x5) := by
  intro M x1 x2 x3 x5 hI
  refine V_aload_n (k := 0) dX11_given_154 rfl rfl ?_
  refine V_iload_n (k := 1) dX11_given_155 rfl rfl ?_
  refine V_iload_n (k := 3) dX11_given_156 rfl rfl ?_
  refine V_callVi (q := (RX11, TX11, 61)) (cls := 11) (st0 := []) (kc' := 0) (ks' := 0) dX11_given_157 lk_X11_409 rfl (by decide) rfl rfl rfl (cX11_costLeft_ok M x1 x3 hI) rfl rfl (by decide) (by decide) (Nat.le_of_ble_eq_true rfl) (Or.inl rfl) rfl rfl (by decide) (by decide) (fun y26 M27 e28 hI29 => ?_)
  refine V_iconst (v := (-1)) dX11_given_160 rfl ?_
  refine V_icmpne (tgt := 170) dX11_given_161 (by decide) (fun h30 => ?_) (fun h30 => ?_)
  · refine V_aload_n (k := 0) dX11_given_170 rfl rfl ?_
    refine V_iload_n (k := 1) dX11_given_171 rfl rfl ?_
    refine V_iload_n (k := 3) dX11_given_172 rfl rfl ?_
    refine V_callVi (q := (RX11, TX11, 61)) (cls := 11) (st0 := []) (kc' := 0) (ks' := 0) dX11_given_173 lk_X11_409 rfl (by decide) rfl rfl rfl (cX11_costLeft_ok M27 x1 x3 hI29) rfl rfl (by decide) (by decide) (Nat.le_of_ble_eq_true rfl) (Or.inl rfl) rfl rfl (by decide) (by decide) (fun y31 M32 e33 hI34 => ?_)
    refine V_sub [0, 2, 3, 4] rfl ?_
    exact vX11_given_176 M32 x2 x3 x5 y31 hI34
  · refine V_sipush (v := 9999) dX11_given_164 rfl ?_
    refine V_goto (tgt := 176) dX11_given_167 (by decide) ?_
    refine V_sub [0, 2, 3, 4] rfl ?_
    exact vX11_given_176 M27 x2 x3 x5 9999 hI29
def fX11_given_133 (M : vM) (x1 : Int32) (x2 : Int32) (x3 : Int32) (s0 : Int32) : Option (vR × vM) := if x3 ≤ 0 then fX11_given_154 M x1 x2 x3 s0 else bi (fX11_costLeft M x1 (x3 - 1)) fun y36 M37 => fX11_given_154 M37 x1 x2 x3 (if s0 < y36 then y36 else s0)
set_option maxRecDepth 20000 in
set_option maxHeartbeats 2000000 in
theorem vX11_given_133 {l : Launch} {D : va_G} {dA : Nat → ClassId} : ∀ (M : vM) (x1 : Int32) (x2 : Int32) (x3 : Int32) (s0 : Int32), v_WT M.2.2 → V l D dA sX11_given false 175 3 0 0 133 [(0, .ref 130), (1, .int x1), (2, .int x2), (3, .int x3)] [.int s0] 175 M (fX11_given_133 M x1 x2 x3 s0) := by
  intro M x1 x2 x3 s0 hI
  refine V_istore (lv' := [(5, .int s0), (0, .ref 130), (1, .int x1), (2, .int x2), (3, .int x3)]) dX11_given_133 (by decide) rfl ?_
  refine V_iload_n (k := 4) dX11_given_135 rfl rfl ?_
  refine V_ifle (tgt := 154) dX11_given_136 (by decide) (fun h35 => ?_) (fun h35 => ?_)
  · refine V_sub [1, 2, 3, 4, 0] rfl ?_
    exact vX11_given_154 M x1 x2 x3 s0 hI
  · refine V_iload (k := 0) dX11_given_139 rfl ?_
    refine V_aload_n (k := 1) dX11_given_141 rfl rfl ?_
    refine V_iload_n (k := 2) dX11_given_142 rfl rfl ?_
    refine V_iload_n (k := 4) dX11_given_143 rfl rfl ?_
    refine V_iconst (v := 1) dX11_given_144 rfl ?_
    refine V_isub dX11_given_145 ?_
    refine V_callVi (q := (RX11, TX11, 61)) (cls := 11) (st0 := [.int s0]) (kc' := 0) (ks' := 0) dX11_given_146 lk_X11_409 rfl (by decide) rfl rfl rfl (cX11_costLeft_ok M x1 (x3 - 1) hI) rfl rfl (by decide) (by decide) (Nat.le_of_ble_eq_true rfl) (Or.inl rfl) rfl rfl (by decide) (by decide) (fun y36 M37 e38 hI39 => ?_)
    refine V_mmax dX11_given_149 gw1721 gw834 gw101 gw835 (by decide) (Nat.le_of_ble_eq_true rfl) ?_
    refine V_istore (lv' := [(5, .int (if s0 < y36 then y36 else s0)), (0, .ref 130), (1, .int x1), (2, .int x2), (3, .int x3)]) dX11_given_152 (by decide) rfl ?_
    refine V_sub [1, 2, 3, 4, 0] rfl ?_
    exact vX11_given_154 M37 x1 x2 x3 (if s0 < y36 then y36 else s0) hI39
def fX11_given_97 (M : vM) (x1 : Int32) (x2 : Int32) (x3 : Int32) (x4 : Int32) : Option (vR × vM) := if 2 ≤ x2 then if v_in x1 6 = true then if (M.1 153 (Int32.toNatClampNeg x1)) ≤ x3 then fX11_given_133 M x1 x2 x3 0 else if v_in x3 12 = true then fX11_given_133 M x1 x2 x3 (M.1 163 (Int32.toNatClampNeg x3)) else none else none else if x2 = 0 then rI x4 M else rI x3 M
set_option maxRecDepth 20000 in
set_option maxHeartbeats 2000000 in
theorem vX11_given_97 {l : Launch} {D : va_G} {dA : Nat → ClassId} : ∀ (M : vM) (x1 : Int32) (x2 : Int32) (x3 : Int32) (x4 : Int32), v_WT M.2.2 → V l D dA sX11_given false 175 3 0 0 97 [(0, .ref 130), (1, .int x1), (2, .int x2), (3, .int x3), (4, .int x4)] [] 175 M (fX11_given_97 M x1 x2 x3 x4) := by
  intro M x1 x2 x3 x4 hI
  refine V_iload_n (k := 2) dX11_given_97 rfl rfl ?_
  refine V_iconst (v := 2) dX11_given_98 rfl ?_
  refine V_icmpge (tgt := 113) dX11_given_99 (by decide) (fun h40 => ?_) (fun h40 => ?_)
  · refine V_iload_n (k := 3) dX11_given_113 rfl rfl ?_
    refine V_aload_n (k := 0) dX11_given_114 rfl rfl ?_
    refine V_getr (k := 153) dX11_given_115 rfl (by decide) vf_X11_86 (by decide) (v_fin hI 140 rfl) ?_
    refine V_iload_n (k := 1) dX11_given_118 rfl rfl ?_
    refine V_iald dX11_given_119 rfl (by decide) (fun h41 => ?_)
    refine V_icmpge (tgt := 132) dX11_given_120 (by decide) (fun h42 => ?_) (fun h42 => ?_)
    · refine V_iconst (v := 0) dX11_given_132 rfl ?_
      refine V_sub [0, 1, 2, 3] rfl ?_
      exact vX11_given_133 M x1 x2 x3 0 hI
    · refine V_aload_n (k := 0) dX11_given_123 rfl rfl ?_
      refine V_getr (k := 163) dX11_given_124 rfl (by decide) vf_X11_121 (by decide) (v_fin hI 150 rfl) ?_
      refine V_iload_n (k := 3) dX11_given_127 rfl rfl ?_
      refine V_iald dX11_given_128 rfl (by decide) (fun h43 => ?_)
      refine V_goto (tgt := 133) dX11_given_129 (by decide) ?_
      refine V_sub [0, 1, 2, 3] rfl ?_
      exact vX11_given_133 M x1 x2 x3 (M.1 163 (Int32.toNatClampNeg x3)) hI
  · refine V_iload_n (k := 2) dX11_given_102 rfl rfl ?_
    refine V_ifne (tgt := 111) dX11_given_103 (by decide) (fun h44 => ?_) (fun h44 => ?_)
    · refine V_iload_n (k := 3) dX11_given_111 rfl rfl ?_
      exact V_ret (fun _ => hI) (Or.inr (Or.inl ⟨rfl, _, rfl⟩)) dX11_given_112 (fun ty x h1 h2 => by cases h1; rfl) rfl
    · refine V_iload (k := 4) dX11_given_106 rfl ?_
      refine V_goto (tgt := 112) dX11_given_108 (by decide) ?_
      exact V_ret (fun _ => hI) (Or.inr (Or.inl ⟨rfl, _, rfl⟩)) dX11_given_112 (fun ty x h1 h2 => by cases h1; rfl) rfl
def fX11_given_38 : Nat → vM → Int32 → Int32 → Int32 → Int32 → Option (vR × vM)
  | 0, _, _, _, _, _ => none
  | n9 + 1, M, x1, x2, x3, x4 => if v_in x1 6 = true then if (M.1 153 (Int32.toNatClampNeg x1)) ≤ x3 then fX11_given_97 M x1 x2 x3 x4 else bi (fX11_costLeft M x1 x3) fun y47 M48 => if y47 = ((-1)) then fX11_given_97 M48 x1 x2 x3 x4 else if v_in x3 12 = true then bi (fX11_costLeft M48 x1 x3) fun y53 M54 => if (M48.1 163 (Int32.toNatClampNeg x3)) ≤ y53 then fX11_given_97 M54 x1 x2 x3 x4 else if v_in x3 12 = true then bi (fX11_costLeft M54 x1 x3) fun y59 M60 => fX11_given_38 n9 M60 x1 x2 (x3 + 1) (x4 + ((M54.1 163 (Int32.toNatClampNeg x3)) - y59)) else none else none else none
set_option maxRecDepth 20000 in
set_option maxHeartbeats 2000000 in
theorem vX11_given_38 {l : Launch} {D : va_G} {dA : Nat → ClassId} : ∀ (n9 : Nat) (M : vM) (x1 : Int32) (x2 : Int32) (x3 : Int32) (x4 : Int32), v_WT M.2.2 → V l D dA sX11_given false 175 3 0 0 38 [(0, .ref 130), (1, .int x1), (2, .int x2), (3, .int x3), (4, .int x4)] [] 175 M (fX11_given_38 n9 M x1 x2 x3 x4) := by
  intro n9
  induction n9 with
  | zero => intros; exact V_none
  | succ n9 ih =>
    intro M x1 x2 x3 x4 hI
    refine V_iload_n (k := 3) dX11_given_38 rfl rfl ?_
    refine V_aload_n (k := 0) dX11_given_39 rfl rfl ?_
    refine V_getr (k := 153) dX11_given_40 rfl (by decide) vf_X11_86 (by decide) (v_fin hI 140 rfl) ?_
    refine V_iload_n (k := 1) dX11_given_43 rfl rfl ?_
    refine V_iald dX11_given_44 rfl (by decide) (fun h45 => ?_)
    refine V_icmpge (tgt := 97) dX11_given_45 (by decide) (fun h46 => ?_) (fun h46 => ?_)
    · refine V_sub [0, 1, 2, 3, 4] rfl ?_
      exact vX11_given_97 M x1 x2 x3 x4 hI
    · refine V_aload_n (k := 0) dX11_given_48 rfl rfl ?_
      refine V_iload_n (k := 1) dX11_given_49 rfl rfl ?_
      refine V_iload_n (k := 3) dX11_given_50 rfl rfl ?_
      refine V_callVi (q := (RX11, TX11, 61)) (cls := 11) (st0 := []) (kc' := 0) (ks' := 0) dX11_given_51 lk_X11_409 rfl (by decide) rfl rfl rfl (cX11_costLeft_ok M x1 x3 hI) rfl rfl (by decide) (by decide) (Nat.le_of_ble_eq_true rfl) (Or.inl rfl) rfl rfl (by decide) (by decide) (fun y47 M48 e49 hI50 => ?_)
      refine V_iconst (v := (-1)) dX11_given_54 rfl ?_
      refine V_icmpeq (tgt := 97) dX11_given_55 (by decide) (fun h51 => ?_) (fun h51 => ?_)
      · refine V_sub [0, 1, 2, 3, 4] rfl ?_
        exact vX11_given_97 M48 x1 x2 x3 x4 hI50
      · refine V_aload_n (k := 0) dX11_given_58 rfl rfl ?_
        refine V_getr (k := 163) dX11_given_59 rfl (by decide) vf_X11_121 (by decide) (v_fin hI50 150 rfl) ?_
        refine V_iload_n (k := 3) dX11_given_62 rfl rfl ?_
        refine V_iald dX11_given_63 rfl (by decide) (fun h52 => ?_)
        refine V_aload_n (k := 0) dX11_given_64 rfl rfl ?_
        refine V_iload_n (k := 1) dX11_given_65 rfl rfl ?_
        refine V_iload_n (k := 3) dX11_given_66 rfl rfl ?_
        refine V_callVi (q := (RX11, TX11, 61)) (cls := 11) (st0 := [.int (M48.1 163 (Int32.toNatClampNeg x3))]) (kc' := 0) (ks' := 0) dX11_given_67 lk_X11_409 rfl (by decide) rfl rfl rfl (cX11_costLeft_ok M48 x1 x3 hI50) rfl rfl (by decide) (by decide) (Nat.le_of_ble_eq_true rfl) (Or.inl rfl) rfl rfl (by decide) (by decide) (fun y53 M54 e55 hI56 => ?_)
        refine V_icmple (tgt := 97) dX11_given_70 (by decide) (fun h57 => ?_) (fun h57 => ?_)
        · refine V_sub [0, 1, 2, 3, 4] rfl ?_
          exact vX11_given_97 M54 x1 x2 x3 x4 hI56
        · refine V_iload (k := 4) dX11_given_73 rfl ?_
          refine V_aload_n (k := 0) dX11_given_75 rfl rfl ?_
          refine V_getr (k := 163) dX11_given_76 rfl (by decide) vf_X11_121 (by decide) (v_fin hI56 150 rfl) ?_
          refine V_iload_n (k := 3) dX11_given_79 rfl rfl ?_
          refine V_iald dX11_given_80 rfl (by decide) (fun h58 => ?_)
          refine V_aload_n (k := 0) dX11_given_81 rfl rfl ?_
          refine V_iload_n (k := 1) dX11_given_82 rfl rfl ?_
          refine V_iload_n (k := 3) dX11_given_83 rfl rfl ?_
          refine V_callVi (q := (RX11, TX11, 61)) (cls := 11) (st0 := [.int (M54.1 163 (Int32.toNatClampNeg x3)), .int x4]) (kc' := 0) (ks' := 0) dX11_given_84 lk_X11_409 rfl (by decide) rfl rfl rfl (cX11_costLeft_ok M54 x1 x3 hI56) rfl rfl (by decide) (by decide) (Nat.le_of_ble_eq_true rfl) (Or.inl rfl) rfl rfl (by decide) (by decide) (fun y59 M60 e61 hI62 => ?_)
          refine V_isub dX11_given_87 ?_
          refine V_iadd dX11_given_88 ?_
          refine V_istore (lv' := [(4, .int (x4 + ((M54.1 163 (Int32.toNatClampNeg x3)) - y59))), (0, .ref 130), (1, .int x1), (2, .int x2), (3, .int x3)]) dX11_given_89 (by decide) rfl ?_
          refine V_iinc (k := 4) (v := x3 + 1) (lv' := [(3, .int (x3 + 1)), (4, .int (x4 + ((M54.1 163 (Int32.toNatClampNeg x3)) - y59))), (0, .ref 130), (1, .int x1), (2, .int x2)]) dX11_given_91 rfl rfl (by decide) rfl ?_
          refine V_goto (tgt := 38) dX11_given_94 (by decide) ?_
          refine V_sub [2, 3, 4, 0, 1] rfl ?_
          exact ih M60 x1 x2 (x3 + 1) (x4 + ((M54.1 163 (Int32.toNatClampNeg x3)) - y59)) hI62
def fX11_given (M : vM) (x1 : Int32) (x2 : Int32) : Option (vR × vM) := bi (fX11_isWork (v_si M 130 1 0) x1) fun y63 M64 => if y63 = 0 then fX11_given_22 M64 else bi (fX11_isIn M64 x2 0 3) fun y68 M69 => if y68 = 0 then fX11_given_22 M69 else bv (fX11_sortPeople M69 x1) fun M73 => fX11_given_38 FU M73 x1 x2 0 0
set_option maxRecDepth 20000 in
set_option maxHeartbeats 2000000 in
theorem cX11_given_ok {l : Launch} {D : va_G} {dA : Nat → ClassId} (M : vM) (x1 : Int32) (x2 : Int32) (hI : v_WT M.2.2) : Ct l D dA sX11_given false 175 3 0 0 175 [.ref 130, .int x1, .int x2] M (fX11_given M x1 x2) := by
  refine Ct_of (lv := [(0, .ref 130), (1, .int x1), (2, .int x2)]) (by decide +kernel) rfl (Nat.le_of_ble_eq_true rfl) rfl (fun h => by cases h) ?_
  refine V_aload_n (k := 0) dX11_given_0 rfl rfl ?_
  refine V_iconst (v := 0) dX11_given_1 rfl ?_
  refine V_puti dX11_given_2 rfl (by decide) vf_X11_154 (by decide) rfl rfl ?_
  refine V_aload_n (k := 0) dX11_given_5 rfl rfl ?_
  refine V_iload_n (k := 1) dX11_given_6 rfl rfl ?_
  refine V_callVi (q := (RX11, TX11, 61)) (cls := 11) (st0 := []) (kc' := 0) (ks' := 0) dX11_given_7 lk_X11_164 rfl (by decide) rfl rfl rfl (cX11_isWork_ok (v_si M 130 1 0) x1 hI) rfl rfl (by decide) (by decide) (Nat.le_of_ble_eq_true rfl) (Or.inl rfl) rfl rfl (by decide) (by decide) (fun y63 M64 e65 hI66 => ?_)
  refine V_ifeq (tgt := 22) dX11_given_10 (by decide) (fun h67 => ?_) (fun h67 => ?_)
  · refine V_sub [0] rfl ?_
    exact vX11_given_22 M64 hI66
  · refine V_iload_n (k := 2) dX11_given_13 rfl rfl ?_
    refine V_iconst (v := 0) dX11_given_14 rfl ?_
    refine V_iconst (v := 3) dX11_given_15 rfl ?_
    refine V_callSi (st0 := []) (kc' := 0) (ks' := 0) dX11_given_16 lk_X11_160 rfl (cX11_isIn_ok M64 x2 0 3 hI66) rfl rfl (by decide) (by decide) (Nat.le_of_ble_eq_true rfl) (Or.inl rfl) rfl rfl (by decide) (by decide) (fun y68 M69 e70 hI71 => ?_)
    refine V_ifne (tgt := 28) dX11_given_19 (by decide) (fun h72 => ?_) (fun h72 => ?_)
    · refine V_aload_n (k := 0) dX11_given_28 rfl rfl ?_
      refine V_iload_n (k := 1) dX11_given_29 rfl rfl ?_
      refine V_callVv (q := (RX11, TX11, 61)) (cls := 11) (st0 := []) (kc' := 0) (ks' := 0) dX11_given_30 lk_X11_406 rfl (by decide) rfl rfl rfl (cX11_sortPeople_ok M69 x1 hI71) rfl rfl (by decide) (by decide) (Nat.le_of_ble_eq_true rfl) (Or.inl rfl) rfl rfl (by decide) (by decide) (fun  M73 e74 hI75 => ?_)
      refine V_iconst (v := 0) dX11_given_33 rfl ?_
      refine V_istore_n (lv' := [(3, .int 0), (0, .ref 130), (1, .int x1), (2, .int x2)]) dX11_given_34 rfl (by decide) rfl ?_
      refine V_iconst (v := 0) dX11_given_35 rfl ?_
      refine V_istore (lv' := [(4, .int 0), (3, .int 0), (0, .ref 130), (1, .int x1), (2, .int x2)]) dX11_given_36 (by decide) rfl ?_
      refine V_sub [2, 3, 4, 1, 0] rfl ?_
      exact vX11_given_38 FU M73 x1 x2 0 0 hI75
    · refine V_sub [0] rfl ?_
      exact vX11_given_22 M69 hI71
def fX11_image (M : vM) : Option (vR × vM) := bv (fX11_be (v_si (v_si (v_si M 130 1 0) 130 51 1) 130 52 ((v_si (v_si M 130 1 0) 130 51 1).1 130 21)) 166 149) fun M1 => bv (fX11_be M1 167 150) fun M4 => bv (fX11_be M4 168 151) fun M7 => bv (fX11_be M7 169 152) fun M10 => bv (fX11_be M10 170 153) fun M13 => bv (fX11_be M13 171 154) fun M16 => bv (fX11_be M16 172 155) fun M19 => bv (fX11_be M19 173 156) fun M22 => rV M22
set_option maxRecDepth 20000 in
set_option maxHeartbeats 2000000 in
theorem cX11_image_ok {l : Launch} {D : va_G} {dA : Nat → ClassId} (M : vM) (hI : v_WT M.2.2) : Ct l D dA sX11_image false 175 2 0 0 175 [.ref 130] M (fX11_image M) := by
  refine Ct_of (lv := [(0, .ref 130)]) (by decide +kernel) rfl (Nat.le_of_ble_eq_true rfl) rfl (fun h => by cases h) ?_
  refine V_aload_n (k := 0) dX11_image_0 rfl rfl ?_
  refine V_iconst (v := 0) dX11_image_1 rfl ?_
  refine V_puti dX11_image_2 rfl (by decide) vf_X11_154 (by decide) rfl rfl ?_
  refine V_aload_n (k := 0) dX11_image_5 rfl rfl ?_
  refine V_iconst (v := 1) dX11_image_6 rfl ?_
  refine V_puti dX11_image_7 rfl (by decide) vf_X11_299 (by decide) rfl rfl ?_
  refine V_aload_n (k := 0) dX11_image_10 rfl rfl ?_
  refine V_aload_n (k := 0) dX11_image_11 rfl rfl ?_
  refine V_geti dX11_image_12 rfl (by decide) vf_X11_293 (by decide) ?_
  refine V_puti dX11_image_15 rfl (by decide) vf_X11_419 (by decide) rfl rfl ?_
  refine V_aload_n (k := 0) dX11_image_18 rfl rfl ?_
  refine V_getr (k := 166) dX11_image_19 rfl (by decide) vf_X11_130 (by decide) (v_fin hI 153 rfl) ?_
  refine V_aload_n (k := 0) dX11_image_22 rfl rfl ?_
  refine V_getr (k := 149) dX11_image_23 rfl (by decide) vf_X11_74 (by decide) (v_fin hI 136 rfl) ?_
  refine V_callSv (st0 := []) (kc' := 0) (ks' := 0) dX11_image_26 lk_X11_422 rfl (cX11_be_ok (v_si (v_si (v_si M 130 1 0) 130 51 1) 130 52 ((v_si (v_si M 130 1 0) 130 51 1).1 130 21)) 166 149 (v_isA_of (by decide) rfl) (v_isA_of (by decide) rfl) hI) rfl rfl (by decide) (by decide) (Nat.le_of_ble_eq_true rfl) (Or.inl rfl) rfl rfl (by decide) (by decide) (fun  M1 e2 hI3 => ?_)
  refine V_aload_n (k := 0) dX11_image_29 rfl rfl ?_
  refine V_getr (k := 167) dX11_image_30 rfl (by decide) vf_X11_133 (by decide) (v_fin hI3 154 rfl) ?_
  refine V_aload_n (k := 0) dX11_image_33 rfl rfl ?_
  refine V_getr (k := 150) dX11_image_34 rfl (by decide) vf_X11_77 (by decide) (v_fin hI3 137 rfl) ?_
  refine V_callSv (st0 := []) (kc' := 0) (ks' := 0) dX11_image_37 lk_X11_422 rfl (cX11_be_ok M1 167 150 (v_isA_of (by decide) rfl) (v_isA_of (by decide) rfl) hI3) rfl rfl (by decide) (by decide) (Nat.le_of_ble_eq_true rfl) (Or.inl rfl) rfl rfl (by decide) (by decide) (fun  M4 e5 hI6 => ?_)
  refine V_aload_n (k := 0) dX11_image_40 rfl rfl ?_
  refine V_getr (k := 168) dX11_image_41 rfl (by decide) vf_X11_136 (by decide) (v_fin hI6 155 rfl) ?_
  refine V_aload_n (k := 0) dX11_image_44 rfl rfl ?_
  refine V_getr (k := 151) dX11_image_45 rfl (by decide) vf_X11_80 (by decide) (v_fin hI6 138 rfl) ?_
  refine V_callSv (st0 := []) (kc' := 0) (ks' := 0) dX11_image_48 lk_X11_422 rfl (cX11_be_ok M4 168 151 (v_isA_of (by decide) rfl) (v_isA_of (by decide) rfl) hI6) rfl rfl (by decide) (by decide) (Nat.le_of_ble_eq_true rfl) (Or.inl rfl) rfl rfl (by decide) (by decide) (fun  M7 e8 hI9 => ?_)
  refine V_aload_n (k := 0) dX11_image_51 rfl rfl ?_
  refine V_getr (k := 169) dX11_image_52 rfl (by decide) vf_X11_139 (by decide) (v_fin hI9 156 rfl) ?_
  refine V_aload_n (k := 0) dX11_image_55 rfl rfl ?_
  refine V_getr (k := 152) dX11_image_56 rfl (by decide) vf_X11_83 (by decide) (v_fin hI9 139 rfl) ?_
  refine V_callSv (st0 := []) (kc' := 0) (ks' := 0) dX11_image_59 lk_X11_422 rfl (cX11_be_ok M7 169 152 (v_isA_of (by decide) rfl) (v_isA_of (by decide) rfl) hI9) rfl rfl (by decide) (by decide) (Nat.le_of_ble_eq_true rfl) (Or.inl rfl) rfl rfl (by decide) (by decide) (fun  M10 e11 hI12 => ?_)
  refine V_aload_n (k := 0) dX11_image_62 rfl rfl ?_
  refine V_getr (k := 170) dX11_image_63 rfl (by decide) vf_X11_142 (by decide) (v_fin hI12 157 rfl) ?_
  refine V_aload_n (k := 0) dX11_image_66 rfl rfl ?_
  refine V_getr (k := 153) dX11_image_67 rfl (by decide) vf_X11_86 (by decide) (v_fin hI12 140 rfl) ?_
  refine V_callSv (st0 := []) (kc' := 0) (ks' := 0) dX11_image_70 lk_X11_422 rfl (cX11_be_ok M10 170 153 (v_isA_of (by decide) rfl) (v_isA_of (by decide) rfl) hI12) rfl rfl (by decide) (by decide) (Nat.le_of_ble_eq_true rfl) (Or.inl rfl) rfl rfl (by decide) (by decide) (fun  M13 e14 hI15 => ?_)
  refine V_aload_n (k := 0) dX11_image_73 rfl rfl ?_
  refine V_getr (k := 171) dX11_image_74 rfl (by decide) vf_X11_145 (by decide) (v_fin hI15 158 rfl) ?_
  refine V_aload_n (k := 0) dX11_image_77 rfl rfl ?_
  refine V_getr (k := 154) dX11_image_78 rfl (by decide) vf_X11_89 (by decide) (v_fin hI15 141 rfl) ?_
  refine V_callSv (st0 := []) (kc' := 0) (ks' := 0) dX11_image_81 lk_X11_422 rfl (cX11_be_ok M13 171 154 (v_isA_of (by decide) rfl) (v_isA_of (by decide) rfl) hI15) rfl rfl (by decide) (by decide) (Nat.le_of_ble_eq_true rfl) (Or.inl rfl) rfl rfl (by decide) (by decide) (fun  M16 e17 hI18 => ?_)
  refine V_aload_n (k := 0) dX11_image_84 rfl rfl ?_
  refine V_getr (k := 172) dX11_image_85 rfl (by decide) vf_X11_148 (by decide) (v_fin hI18 159 rfl) ?_
  refine V_aload_n (k := 0) dX11_image_88 rfl rfl ?_
  refine V_getr (k := 155) dX11_image_89 rfl (by decide) vf_X11_92 (by decide) (v_fin hI18 142 rfl) ?_
  refine V_callSv (st0 := []) (kc' := 0) (ks' := 0) dX11_image_92 lk_X11_422 rfl (cX11_be_ok M16 172 155 (v_isA_of (by decide) rfl) (v_isA_of (by decide) rfl) hI18) rfl rfl (by decide) (by decide) (Nat.le_of_ble_eq_true rfl) (Or.inl rfl) rfl rfl (by decide) (by decide) (fun  M19 e20 hI21 => ?_)
  refine V_aload_n (k := 0) dX11_image_95 rfl rfl ?_
  refine V_getr (k := 173) dX11_image_96 rfl (by decide) vf_X11_151 (by decide) (v_fin hI21 160 rfl) ?_
  refine V_aload_n (k := 0) dX11_image_99 rfl rfl ?_
  refine V_getr (k := 156) dX11_image_100 rfl (by decide) vf_X11_95 (by decide) (v_fin hI21 143 rfl) ?_
  refine V_callSv (st0 := []) (kc' := 0) (ks' := 0) dX11_image_103 lk_X11_422 rfl (cX11_be_ok M19 173 156 (v_isA_of (by decide) rfl) (v_isA_of (by decide) rfl) hI21) rfl rfl (by decide) (by decide) (Nat.le_of_ble_eq_true rfl) (Or.inl rfl) rfl rfl (by decide) (by decide) (fun  M22 e23 hI24 => ?_)
  exact V_ret (fun _ => hI24) (Or.inl ⟨rfl, rfl⟩) dX11_image_106 (fun ty x h1 h2 => by cases h1) rfl
def fX11_isAhead (M : vM) (x1 : Int32) (x2 : Int32) (x3 : Int32) : Option (vR × vM) := if v_in ((2000 * x1) + x2) 12000 = true then if v_in ((2000 * x1) + x3) 12000 = true then if (M.1 146 (Int32.toNatClampNeg ((2000 * x1) + x2))) = (M.1 146 (Int32.toNatClampNeg ((2000 * x1) + x3))) then if v_in ((2000 * x1) + x2) 12000 = true then if v_in ((2000 * x1) + x3) 12000 = true then if (M.1 147 (Int32.toNatClampNeg ((2000 * x1) + x3))) ≤ (M.1 147 (Int32.toNatClampNeg ((2000 * x1) + x2))) then rI 0 M else rI 1 M else none else none else if v_in ((2000 * x1) + x2) 12000 = true then if v_in ((2000 * x1) + x3) 12000 = true then if (M.1 146 (Int32.toNatClampNeg ((2000 * x1) + x3))) ≤ (M.1 146 (Int32.toNatClampNeg ((2000 * x1) + x2))) then rI 0 M else rI 1 M else none else none else none else none
set_option maxRecDepth 20000 in
set_option maxHeartbeats 2000000 in
theorem cX11_isAhead_ok {l : Launch} {D : va_G} {dA : Nat → ClassId} (M : vM) (x1 : Int32) (x2 : Int32) (x3 : Int32) (hI : v_WT M.2.2) : Ct l D dA sX11_isAhead false 175 1 0 0 175 [.ref 130, .int x1, .int x2, .int x3] M (fX11_isAhead M x1 x2 x3) := by
  refine Ct_of (lv := [(0, .ref 130), (1, .int x1), (2, .int x2), (3, .int x3)]) (by decide +kernel) rfl (Nat.le_of_ble_eq_true rfl) rfl (fun h => by cases h) ?_
  refine V_sipush (v := 2000) dX11_isAhead_0 rfl ?_
  refine V_iload_n (k := 1) dX11_isAhead_3 rfl rfl ?_
  refine V_imul dX11_isAhead_4 ?_
  refine V_iload_n (k := 2) dX11_isAhead_5 rfl rfl ?_
  refine V_iadd dX11_isAhead_6 ?_
  refine V_istore (lv' := [(4, .int ((2000 * x1) + x2)), (0, .ref 130), (1, .int x1), (2, .int x2), (3, .int x3)]) dX11_isAhead_7 (by decide) rfl ?_
  refine V_sipush (v := 2000) dX11_isAhead_9 rfl ?_
  refine V_iload_n (k := 2) dX11_isAhead_12 rfl rfl ?_
  refine V_imul dX11_isAhead_13 ?_
  refine V_iload_n (k := 4) dX11_isAhead_14 rfl rfl ?_
  refine V_iadd dX11_isAhead_15 ?_
  refine V_istore (lv' := [(5, .int ((2000 * x1) + x3)), (4, .int ((2000 * x1) + x2)), (0, .ref 130), (1, .int x1), (2, .int x2), (3, .int x3)]) dX11_isAhead_16 (by decide) rfl ?_
  refine V_aload_n (k := 2) dX11_isAhead_18 rfl rfl ?_
  refine V_getr (k := 146) dX11_isAhead_19 rfl (by decide) vf_X11_64 (by decide) (v_fin hI 133 rfl) ?_
  refine V_iload (k := 1) dX11_isAhead_22 rfl ?_
  refine V_iald dX11_isAhead_24 rfl (by decide) (fun h10 => ?_)
  refine V_aload_n (k := 2) dX11_isAhead_25 rfl rfl ?_
  refine V_getr (k := 146) dX11_isAhead_26 rfl (by decide) vf_X11_64 (by decide) (v_fin hI 133 rfl) ?_
  refine V_iload (k := 0) dX11_isAhead_29 rfl ?_
  refine V_iald dX11_isAhead_31 rfl (by decide) (fun h11 => ?_)
  refine V_icmpeq (tgt := 60) dX11_isAhead_32 (by decide) (fun h12 => ?_) (fun h12 => ?_)
  · refine V_aload_n (k := 2) dX11_isAhead_60 rfl rfl ?_
    refine V_getr (k := 147) dX11_isAhead_61 rfl (by decide) vf_X11_67 (by decide) (v_fin hI 134 rfl) ?_
    refine V_iload (k := 1) dX11_isAhead_64 rfl ?_
    refine V_iald dX11_isAhead_66 rfl (by decide) (fun h13 => ?_)
    refine V_aload_n (k := 2) dX11_isAhead_67 rfl rfl ?_
    refine V_getr (k := 147) dX11_isAhead_68 rfl (by decide) vf_X11_67 (by decide) (v_fin hI 134 rfl) ?_
    refine V_iload (k := 0) dX11_isAhead_71 rfl ?_
    refine V_iald dX11_isAhead_73 rfl (by decide) (fun h14 => ?_)
    refine V_icmpge (tgt := 81) dX11_isAhead_74 (by decide) (fun h15 => ?_) (fun h15 => ?_)
    · refine V_iconst (v := 0) dX11_isAhead_81 rfl ?_
      exact V_ret (fun _ => hI) (Or.inr (Or.inr (Or.inl ⟨rfl, _, rfl⟩))) dX11_isAhead_82 (fun ty x h1 h2 => by cases h1; cases h2; rfl) rfl
    · refine V_iconst (v := 1) dX11_isAhead_77 rfl ?_
      refine V_goto (tgt := 82) dX11_isAhead_78 (by decide) ?_
      exact V_ret (fun _ => hI) (Or.inr (Or.inr (Or.inl ⟨rfl, _, rfl⟩))) dX11_isAhead_82 (fun ty x h1 h2 => by cases h1; cases h2; rfl) rfl
  · refine V_aload_n (k := 2) dX11_isAhead_35 rfl rfl ?_
    refine V_getr (k := 146) dX11_isAhead_36 rfl (by decide) vf_X11_64 (by decide) (v_fin hI 133 rfl) ?_
    refine V_iload (k := 1) dX11_isAhead_39 rfl ?_
    refine V_iald dX11_isAhead_41 rfl (by decide) (fun h16 => ?_)
    refine V_aload_n (k := 2) dX11_isAhead_42 rfl rfl ?_
    refine V_getr (k := 146) dX11_isAhead_43 rfl (by decide) vf_X11_64 (by decide) (v_fin hI 133 rfl) ?_
    refine V_iload (k := 0) dX11_isAhead_46 rfl ?_
    refine V_iald dX11_isAhead_48 rfl (by decide) (fun h17 => ?_)
    refine V_icmpge (tgt := 56) dX11_isAhead_49 (by decide) (fun h18 => ?_) (fun h18 => ?_)
    · refine V_iconst (v := 0) dX11_isAhead_56 rfl ?_
      refine V_goto (tgt := 82) dX11_isAhead_57 (by decide) ?_
      exact V_ret (fun _ => hI) (Or.inr (Or.inr (Or.inl ⟨rfl, _, rfl⟩))) dX11_isAhead_82 (fun ty x h1 h2 => by cases h1; cases h2; rfl) rfl
    · refine V_iconst (v := 1) dX11_isAhead_52 rfl ?_
      refine V_goto (tgt := 82) dX11_isAhead_53 (by decide) ?_
      exact V_ret (fun _ => hI) (Or.inr (Or.inr (Or.inl ⟨rfl, _, rfl⟩))) dX11_isAhead_82 (fun ty x h1 h2 => by cases h1; cases h2; rfl) rfl
def fX11_isDigit (M : vM) (x0 : Int32) : Option (vR × vM) := if x0 < 48 then rI 0 M else if 57 < x0 then rI 0 M else rI 1 M
set_option maxRecDepth 20000 in
set_option maxHeartbeats 2000000 in
theorem cX11_isDigit_ok {l : Launch} {D : va_G} {dA : Nat → ClassId} (M : vM) (x0 : Int32) (hI : v_WT M.2.2) : Ct l D dA sX11_isDigit false 175 1 0 0 175 [.int x0] M (fX11_isDigit M x0) := by
  refine Ct_of (lv := [(0, .int x0)]) (by decide +kernel) rfl (Nat.le_of_ble_eq_true rfl) rfl (fun h => by cases h) ?_
  refine V_iload_n (k := 0) dX11_isDigit_0 rfl rfl ?_
  refine V_bipush (v := 48) dX11_isDigit_1 rfl ?_
  refine V_icmplt (tgt := 16) dX11_isDigit_3 (by decide) (fun h3 => ?_) (fun h3 => ?_)
  · refine V_iconst (v := 0) dX11_isDigit_16 rfl ?_
    exact V_ret (fun _ => hI) (Or.inr (Or.inr (Or.inl ⟨rfl, _, rfl⟩))) dX11_isDigit_17 (fun ty x h1 h2 => by cases h1; cases h2; rfl) rfl
  · refine V_iload_n (k := 0) dX11_isDigit_6 rfl rfl ?_
    refine V_bipush (v := 57) dX11_isDigit_7 rfl ?_
    refine V_icmpgt (tgt := 16) dX11_isDigit_9 (by decide) (fun h4 => ?_) (fun h4 => ?_)
    · refine V_iconst (v := 0) dX11_isDigit_16 rfl ?_
      exact V_ret (fun _ => hI) (Or.inr (Or.inr (Or.inl ⟨rfl, _, rfl⟩))) dX11_isDigit_17 (fun ty x h1 h2 => by cases h1; cases h2; rfl) rfl
    · refine V_iconst (v := 1) dX11_isDigit_12 rfl ?_
      refine V_goto (tgt := 17) dX11_isDigit_13 (by decide) ?_
      exact V_ret (fun _ => hI) (Or.inr (Or.inr (Or.inl ⟨rfl, _, rfl⟩))) dX11_isDigit_17 (fun ty x h1 h2 => by cases h1; cases h2; rfl) rfl
def fX11_isLetter (M : vM) (x0 : Int32) : Option (vR × vM) := if x0 < 97 then rI 0 M else if 122 < x0 then rI 0 M else rI 1 M
set_option maxRecDepth 20000 in
set_option maxHeartbeats 2000000 in
theorem cX11_isLetter_ok {l : Launch} {D : va_G} {dA : Nat → ClassId} (M : vM) (x0 : Int32) (hI : v_WT M.2.2) : Ct l D dA sX11_isLetter false 175 1 0 0 175 [.int x0] M (fX11_isLetter M x0) := by
  refine Ct_of (lv := [(0, .int x0)]) (by decide +kernel) rfl (Nat.le_of_ble_eq_true rfl) rfl (fun h => by cases h) ?_
  refine V_iload_n (k := 0) dX11_isLetter_0 rfl rfl ?_
  refine V_bipush (v := 97) dX11_isLetter_1 rfl ?_
  refine V_icmplt (tgt := 16) dX11_isLetter_3 (by decide) (fun h3 => ?_) (fun h3 => ?_)
  · refine V_iconst (v := 0) dX11_isLetter_16 rfl ?_
    exact V_ret (fun _ => hI) (Or.inr (Or.inr (Or.inl ⟨rfl, _, rfl⟩))) dX11_isLetter_17 (fun ty x h1 h2 => by cases h1; cases h2; rfl) rfl
  · refine V_iload_n (k := 0) dX11_isLetter_6 rfl rfl ?_
    refine V_bipush (v := 122) dX11_isLetter_7 rfl ?_
    refine V_icmpgt (tgt := 16) dX11_isLetter_9 (by decide) (fun h4 => ?_) (fun h4 => ?_)
    · refine V_iconst (v := 0) dX11_isLetter_16 rfl ?_
      exact V_ret (fun _ => hI) (Or.inr (Or.inr (Or.inl ⟨rfl, _, rfl⟩))) dX11_isLetter_17 (fun ty x h1 h2 => by cases h1; cases h2; rfl) rfl
    · refine V_iconst (v := 1) dX11_isLetter_12 rfl ?_
      refine V_goto (tgt := 17) dX11_isLetter_13 (by decide) ?_
      exact V_ret (fun _ => hI) (Or.inr (Or.inr (Or.inl ⟨rfl, _, rfl⟩))) dX11_isLetter_17 (fun ty x h1 h2 => by cases h1; cases h2; rfl) rfl
def fX11_jointCost_6 : Nat → vM → Int32 → Int32 → Int32 → Int32 → Int32 → Option (vR × vM)
  | 0, _, _, _, _, _, _ => none
  | n9 + 1, M, x1, x2, x3, x4, x5 => if 12 ≤ x5 then rI x4 M else if v_in ((20 * x1) + x5) 240 = true then if v_in ((20 * x2) + x5) 240 = true then fX11_jointCost_6 n9 M x1 x2 x3 (x4 + (((x3 >>> (x5 &&& (31 : Int32))) &&& 1) * (if M.1 141 (Int32.toNatClampNeg ((20 * x1) + x5)) < M.1 141 (Int32.toNatClampNeg ((20 * x2) + x5)) then M.1 141 (Int32.toNatClampNeg ((20 * x2) + x5)) else M.1 141 (Int32.toNatClampNeg ((20 * x1) + x5))))) (x5 + 1) else none else none
set_option maxRecDepth 20000 in
set_option maxHeartbeats 2000000 in
theorem vX11_jointCost_6 {l : Launch} {D : va_G} {dA : Nat → ClassId} : ∀ (n9 : Nat) (M : vM) (x1 : Int32) (x2 : Int32) (x3 : Int32) (x4 : Int32) (x5 : Int32), v_WT M.2.2 → V l D dA sX11_jointCost false 175 1 0 0 6 [(0, .ref 130), (1, .int x1), (2, .int x2), (3, .int x3), (4, .int x4), (5, .int x5)] [] 175 M (fX11_jointCost_6 n9 M x1 x2 x3 x4 x5) := by
  intro n9
  induction n9 with
  | zero => intros; exact V_none
  | succ n9 ih =>
    intro M x1 x2 x3 x4 x5 hI
    refine V_iload (k := 5) dX11_jointCost_6 rfl ?_
    refine V_bipush (v := 12) dX11_jointCost_8 rfl ?_
    refine V_icmpge (tgt := 58) dX11_jointCost_10 (by decide) (fun h4 => ?_) (fun h4 => ?_)
    · refine V_iload (k := 4) dX11_jointCost_58 rfl ?_
      exact V_ret (fun _ => hI) (Or.inr (Or.inl ⟨rfl, _, rfl⟩)) dX11_jointCost_60 (fun ty x h1 h2 => by cases h1; rfl) rfl
    · refine V_iload (k := 4) dX11_jointCost_13 rfl ?_
      refine V_iload_n (k := 3) dX11_jointCost_15 rfl rfl ?_
      refine V_iload (k := 5) dX11_jointCost_16 rfl ?_
      refine V_ishr dX11_jointCost_18 ?_
      refine V_iconst (v := 1) dX11_jointCost_19 rfl ?_
      refine V_iand dX11_jointCost_20 ?_
      refine V_aload_n (k := 0) dX11_jointCost_21 rfl rfl ?_
      refine V_getr (k := 141) dX11_jointCost_22 rfl (by decide) vf_X11_49 (by decide) (v_fin hI 128 rfl) ?_
      refine V_bipush (v := 20) dX11_jointCost_25 rfl ?_
      refine V_iload_n (k := 1) dX11_jointCost_27 rfl rfl ?_
      refine V_imul dX11_jointCost_28 ?_
      refine V_iload (k := 5) dX11_jointCost_29 rfl ?_
      refine V_iadd dX11_jointCost_31 ?_
      refine V_iald dX11_jointCost_32 rfl (by decide) (fun h5 => ?_)
      refine V_aload_n (k := 0) dX11_jointCost_33 rfl rfl ?_
      refine V_getr (k := 141) dX11_jointCost_34 rfl (by decide) vf_X11_49 (by decide) (v_fin hI 128 rfl) ?_
      refine V_bipush (v := 20) dX11_jointCost_37 rfl ?_
      refine V_iload_n (k := 2) dX11_jointCost_39 rfl rfl ?_
      refine V_imul dX11_jointCost_40 ?_
      refine V_iload (k := 5) dX11_jointCost_41 rfl ?_
      refine V_iadd dX11_jointCost_43 ?_
      refine V_iald dX11_jointCost_44 rfl (by decide) (fun h6 => ?_)
      refine V_mmax dX11_jointCost_45 gw1721 gw834 gw101 gw835 (by decide) (Nat.le_of_ble_eq_true rfl) ?_
      refine V_imul dX11_jointCost_48 ?_
      refine V_iadd dX11_jointCost_49 ?_
      refine V_istore (lv' := [(4, .int (x4 + (((x3 >>> (x5 &&& (31 : Int32))) &&& 1) * (if M.1 141 (Int32.toNatClampNeg ((20 * x1) + x5)) < M.1 141 (Int32.toNatClampNeg ((20 * x2) + x5)) then M.1 141 (Int32.toNatClampNeg ((20 * x2) + x5)) else M.1 141 (Int32.toNatClampNeg ((20 * x1) + x5)))))), (0, .ref 130), (1, .int x1), (2, .int x2), (3, .int x3), (5, .int x5)]) dX11_jointCost_50 (by decide) rfl ?_
      refine V_iinc (k := 5) (v := x5 + 1) (lv' := [(5, .int (x5 + 1)), (4, .int (x4 + (((x3 >>> (x5 &&& (31 : Int32))) &&& 1) * (if M.1 141 (Int32.toNatClampNeg ((20 * x1) + x5)) < M.1 141 (Int32.toNatClampNeg ((20 * x2) + x5)) then M.1 141 (Int32.toNatClampNeg ((20 * x2) + x5)) else M.1 141 (Int32.toNatClampNeg ((20 * x1) + x5)))))), (0, .ref 130), (1, .int x1), (2, .int x2), (3, .int x3)]) dX11_jointCost_52 rfl rfl (by decide) rfl ?_
      refine V_goto (tgt := 6) dX11_jointCost_55 (by decide) ?_
      refine V_sub [2, 3, 4, 5, 1, 0] rfl ?_
      exact ih M x1 x2 x3 (x4 + (((x3 >>> (x5 &&& (31 : Int32))) &&& 1) * (if M.1 141 (Int32.toNatClampNeg ((20 * x1) + x5)) < M.1 141 (Int32.toNatClampNeg ((20 * x2) + x5)) then M.1 141 (Int32.toNatClampNeg ((20 * x2) + x5)) else M.1 141 (Int32.toNatClampNeg ((20 * x1) + x5))))) (x5 + 1) hI
def fX11_jointCost (M : vM) (x1 : Int32) (x2 : Int32) (x3 : Int32) : Option (vR × vM) := fX11_jointCost_6 FU M x1 x2 x3 0 0
set_option maxRecDepth 20000 in
set_option maxHeartbeats 2000000 in
theorem cX11_jointCost_ok {l : Launch} {D : va_G} {dA : Nat → ClassId} (M : vM) (x1 : Int32) (x2 : Int32) (x3 : Int32) (hI : v_WT M.2.2) : Ct l D dA sX11_jointCost false 175 1 0 0 175 [.ref 130, .int x1, .int x2, .int x3] M (fX11_jointCost M x1 x2 x3) := by
  refine Ct_of (lv := [(0, .ref 130), (1, .int x1), (2, .int x2), (3, .int x3)]) (by decide +kernel) rfl (Nat.le_of_ble_eq_true rfl) rfl (fun h => by cases h) ?_
  refine V_iconst (v := 0) dX11_jointCost_0 rfl ?_
  refine V_istore (lv' := [(4, .int 0), (0, .ref 130), (1, .int x1), (2, .int x2), (3, .int x3)]) dX11_jointCost_1 (by decide) rfl ?_
  refine V_iconst (v := 0) dX11_jointCost_3 rfl ?_
  refine V_istore (lv' := [(5, .int 0), (4, .int 0), (0, .ref 130), (1, .int x1), (2, .int x2), (3, .int x3)]) dX11_jointCost_4 (by decide) rfl ?_
  refine V_sub [2, 3, 4, 5, 1, 0] rfl ?_
  exact vX11_jointCost_6 FU M x1 x2 x3 0 0 hI
def fX11_joint_55 (M : vM) : Option (vR × vM) := bi (fX11_fail M 1) fun y26 M27 => rI y26 M27
set_option maxRecDepth 20000 in
set_option maxHeartbeats 2000000 in
theorem vX11_joint_55 {l : Launch} {D : va_G} {dA : Nat → ClassId} : ∀ (M : vM), v_WT M.2.2 → V l D dA sX11_joint false 175 3 0 0 55 [(0, .ref 130)] [] 175 M (fX11_joint_55 M) := by
  intro M hI
  refine V_aload_n (k := 0) dX11_joint_55 rfl rfl ?_
  refine V_iconst (v := 1) dX11_joint_56 rfl ?_
  refine V_callVi (q := (RX11, TX11, 61)) (cls := 11) (st0 := []) (kc' := 0) (ks' := 0) dX11_joint_57 lk_X11_287 rfl (by decide) rfl rfl rfl (cX11_fail_ok M 1 hI) rfl rfl (by decide) (by decide) (Nat.le_of_ble_eq_true rfl) (Or.inl rfl) rfl rfl (by decide) (by decide) (fun y26 M27 e28 hI29 => ?_)
  exact V_ret (fun _ => hI29) (Or.inr (Or.inl ⟨rfl, _, rfl⟩)) dX11_joint_60 (fun ty x h1 h2 => by cases h1; rfl) rfl
def fX11_joint_70 : Nat → vM → Int32 → Int32 → Int32 → Int32 → Int32 → Int32 → Option (vR × vM)
  | 0, _, _, _, _, _, _, _ => none
  | n9 + 1, M, x1, x2, x3, x4, x5, x6 => if v_in x1 6 = true then if (M.1 145 (Int32.toNatClampNeg x1)) ≤ x6 then if x4 = ((-1)) then if x3 = 2 then rI 0 M else rI ((-1)) M else if x3 = 0 then rI x4 M else if x3 = 1 then rI x5 M else bi (fX11_leftAt M x1 0) fun y35 M36 => if v_in ((2000 * x1) + y35) 12000 = true then bi (fX11_leftAt M36 x2 0) fun y40 M41 => if v_in ((2000 * x2) + y40) 12000 = true then rI (((M36.1 146 (Int32.toNatClampNeg ((2000 * x1) + y35))) + (M41.1 146 (Int32.toNatClampNeg ((2000 * x2) + y40)))) - x5) M41 else none else none else bi (fX11_markOf M x1 x6) fun y46 M47 => bi (fX11_findOf M47 x2 y46) fun y50 M51 => if y50 = ((-1)) then fX11_joint_70 n9 M51 x1 x2 x3 x4 x5 (x6 + 1) else if v_in ((2000 * x1) + x6) 12000 = true then if (M51.1 148 (Int32.toNatClampNeg ((2000 * x1) + x6))) = 0 then if v_in ((2000 * x2) + y50) 12000 = true then if (M51.1 148 (Int32.toNatClampNeg ((2000 * x2) + y50))) = 0 then bi (fX11_jointCost M51 x1 x2 y46) fun y59 M60 => if x4 = ((-1)) then fX11_joint_70 n9 M60 x1 x2 x3 y46 y59 (x6 + 1) else if x5 < y59 then fX11_joint_70 n9 M60 x1 x2 x3 x4 x5 (x6 + 1) else if y59 = x5 then if y46 ≤ x4 then fX11_joint_70 n9 M60 x1 x2 x3 y46 y59 (x6 + 1) else fX11_joint_70 n9 M60 x1 x2 x3 x4 x5 (x6 + 1) else fX11_joint_70 n9 M60 x1 x2 x3 y46 y59 (x6 + 1) else fX11_joint_70 n9 M51 x1 x2 x3 x4 x5 (x6 + 1) else none else fX11_joint_70 n9 M51 x1 x2 x3 x4 x5 (x6 + 1) else none else none
set_option maxRecDepth 20000 in
set_option maxHeartbeats 2000000 in
theorem vX11_joint_70 {l : Launch} {D : va_G} {dA : Nat → ClassId} : ∀ (n9 : Nat) (M : vM) (x1 : Int32) (x2 : Int32) (x3 : Int32) (x4 : Int32) (x5 : Int32) (x6 : Int32), v_WT M.2.2 → V l D dA sX11_joint false 175 3 0 0 70 [(0, .ref 130), (1, .int x1), (2, .int x2), (3, .int x3), (4, .int x4), (5, .int x5), (6, .int x6)] [] 175 M (fX11_joint_70 n9 M x1 x2 x3 x4 x5 x6) := by
  intro n9
  induction n9 with
  | zero => intros; exact V_none
  | succ n9 ih =>
    intro M x1 x2 x3 x4 x5 x6 hI
    refine V_iload (k := 6) dX11_joint_70 rfl ?_
    refine V_aload_n (k := 0) dX11_joint_72 rfl rfl ?_
    refine V_getr (k := 145) dX11_joint_73 rfl (by decide) vf_X11_61 (by decide) (v_fin hI 132 rfl) ?_
    refine V_iload_n (k := 1) dX11_joint_76 rfl rfl ?_
    refine V_iald dX11_joint_77 rfl (by decide) (fun h30 => ?_)
    refine V_icmpge (tgt := 194) dX11_joint_78 (by decide) (fun h31 => ?_) (fun h31 => ?_)
    · refine V_iload (k := 4) dX11_joint_194 rfl ?_
      refine V_iconst (v := (-1)) dX11_joint_196 rfl ?_
      refine V_icmpne (tgt := 211) dX11_joint_197 (by decide) (fun h32 => ?_) (fun h32 => ?_)
      · refine V_iload_n (k := 3) dX11_joint_211 rfl rfl ?_
        refine V_ifne (tgt := 220) dX11_joint_212 (by decide) (fun h33 => ?_) (fun h33 => ?_)
        · refine V_iload_n (k := 3) dX11_joint_220 rfl rfl ?_
          refine V_iconst (v := 1) dX11_joint_221 rfl ?_
          refine V_icmpne (tgt := 230) dX11_joint_222 (by decide) (fun h34 => ?_) (fun h34 => ?_)
          · refine V_aload_n (k := 0) dX11_joint_230 rfl rfl ?_
            refine V_getr (k := 146) dX11_joint_231 rfl (by decide) vf_X11_64 (by decide) (v_fin hI 133 rfl) ?_
            refine V_sipush (v := 2000) dX11_joint_234 rfl ?_
            refine V_iload_n (k := 1) dX11_joint_237 rfl rfl ?_
            refine V_imul dX11_joint_238 ?_
            refine V_aload_n (k := 0) dX11_joint_239 rfl rfl ?_
            refine V_iload_n (k := 1) dX11_joint_240 rfl rfl ?_
            refine V_iconst (v := 0) dX11_joint_241 rfl ?_
            refine V_callVi (q := (RX11, TX11, 61)) (cls := 11) (st0 := [.int (2000 * x1), .ref 146]) (kc' := 0) (ks' := 0) dX11_joint_242 lk_X11_378 rfl (by decide) rfl rfl rfl (cX11_leftAt_ok M x1 0 hI) rfl rfl (by decide) (by decide) (Nat.le_of_ble_eq_true rfl) (Or.inl rfl) rfl rfl (by decide) (by decide) (fun y35 M36 e37 hI38 => ?_)
            refine V_iadd dX11_joint_245 ?_
            refine V_iald dX11_joint_246 rfl (by decide) (fun h39 => ?_)
            refine V_aload_n (k := 0) dX11_joint_247 rfl rfl ?_
            refine V_getr (k := 146) dX11_joint_248 rfl (by decide) vf_X11_64 (by decide) (v_fin hI38 133 rfl) ?_
            refine V_sipush (v := 2000) dX11_joint_251 rfl ?_
            refine V_iload_n (k := 2) dX11_joint_254 rfl rfl ?_
            refine V_imul dX11_joint_255 ?_
            refine V_aload_n (k := 0) dX11_joint_256 rfl rfl ?_
            refine V_iload_n (k := 2) dX11_joint_257 rfl rfl ?_
            refine V_iconst (v := 0) dX11_joint_258 rfl ?_
            refine V_callVi (q := (RX11, TX11, 61)) (cls := 11) (st0 := [.int (2000 * x2), .ref 146, .int (M36.1 146 (Int32.toNatClampNeg ((2000 * x1) + y35)))]) (kc' := 0) (ks' := 0) dX11_joint_259 lk_X11_378 rfl (by decide) rfl rfl rfl (cX11_leftAt_ok M36 x2 0 hI38) rfl rfl (by decide) (by decide) (Nat.le_of_ble_eq_true rfl) (Or.inl rfl) rfl rfl (by decide) (by decide) (fun y40 M41 e42 hI43 => ?_)
            refine V_iadd dX11_joint_262 ?_
            refine V_iald dX11_joint_263 rfl (by decide) (fun h44 => ?_)
            refine V_iadd dX11_joint_264 ?_
            refine V_iload (k := 5) dX11_joint_265 rfl ?_
            refine V_isub dX11_joint_267 ?_
            exact V_ret (fun _ => hI43) (Or.inr (Or.inl ⟨rfl, _, rfl⟩)) dX11_joint_268 (fun ty x h1 h2 => by cases h1; rfl) rfl
          · refine V_iload (k := 5) dX11_joint_225 rfl ?_
            refine V_goto (tgt := 268) dX11_joint_227 (by decide) ?_
            exact V_ret (fun _ => hI) (Or.inr (Or.inl ⟨rfl, _, rfl⟩)) dX11_joint_268 (fun ty x h1 h2 => by cases h1; rfl) rfl
        · refine V_iload (k := 4) dX11_joint_215 rfl ?_
          refine V_goto (tgt := 268) dX11_joint_217 (by decide) ?_
          exact V_ret (fun _ => hI) (Or.inr (Or.inl ⟨rfl, _, rfl⟩)) dX11_joint_268 (fun ty x h1 h2 => by cases h1; rfl) rfl
      · refine V_iload_n (k := 3) dX11_joint_200 rfl rfl ?_
        refine V_iconst (v := 2) dX11_joint_201 rfl ?_
        refine V_icmpne (tgt := 209) dX11_joint_202 (by decide) (fun h45 => ?_) (fun h45 => ?_)
        · refine V_iconst (v := (-1)) dX11_joint_209 rfl ?_
          exact V_ret (fun _ => hI) (Or.inr (Or.inl ⟨rfl, _, rfl⟩)) dX11_joint_210 (fun ty x h1 h2 => by cases h1; rfl) rfl
        · refine V_iconst (v := 0) dX11_joint_205 rfl ?_
          refine V_goto (tgt := 210) dX11_joint_206 (by decide) ?_
          exact V_ret (fun _ => hI) (Or.inr (Or.inl ⟨rfl, _, rfl⟩)) dX11_joint_210 (fun ty x h1 h2 => by cases h1; rfl) rfl
    · refine V_aload_n (k := 0) dX11_joint_81 rfl rfl ?_
      refine V_iload_n (k := 1) dX11_joint_82 rfl rfl ?_
      refine V_iload (k := 6) dX11_joint_83 rfl ?_
      refine V_callVi (q := (RX11, TX11, 61)) (cls := 11) (st0 := []) (kc' := 0) (ks' := 0) dX11_joint_85 lk_X11_349 rfl (by decide) rfl rfl rfl (cX11_markOf_ok M x1 x6 hI) rfl rfl (by decide) (by decide) (Nat.le_of_ble_eq_true rfl) (Or.inl rfl) rfl rfl (by decide) (by decide) (fun y46 M47 e48 hI49 => ?_)
      refine V_istore (lv' := [(7, .int y46), (0, .ref 130), (1, .int x1), (2, .int x2), (3, .int x3), (4, .int x4), (5, .int x5), (6, .int x6)]) dX11_joint_88 (by decide) rfl ?_
      refine V_aload_n (k := 1) dX11_joint_90 rfl rfl ?_
      refine V_iload_n (k := 3) dX11_joint_91 rfl rfl ?_
      refine V_iload (k := 0) dX11_joint_92 rfl ?_
      refine V_callVi (q := (RX11, TX11, 61)) (cls := 11) (st0 := []) (kc' := 0) (ks' := 0) dX11_joint_94 lk_X11_369 rfl (by decide) rfl rfl rfl (cX11_findOf_ok M47 x2 y46 hI49) rfl rfl (by decide) (by decide) (Nat.le_of_ble_eq_true rfl) (Or.inl rfl) rfl rfl (by decide) (by decide) (fun y50 M51 e52 hI53 => ?_)
      refine V_istore (lv' := [(8, .int y50), (7, .int y46), (0, .ref 130), (1, .int x1), (2, .int x2), (3, .int x3), (4, .int x4), (5, .int x5), (6, .int x6)]) dX11_joint_97 (by decide) rfl ?_
      refine V_iload (k := 0) dX11_joint_99 rfl ?_
      refine V_iconst (v := (-1)) dX11_joint_101 rfl ?_
      refine V_icmpeq (tgt := 188) dX11_joint_102 (by decide) (fun h54 => ?_) (fun h54 => ?_)
      · refine V_iinc (k := 8) (v := x6 + 1) (lv' := [(6, .int (x6 + 1)), (8, .int y50), (7, .int y46), (0, .ref 130), (1, .int x1), (2, .int x2), (3, .int x3), (4, .int x4), (5, .int x5)]) dX11_joint_188 rfl rfl (by decide) rfl ?_
        refine V_goto (tgt := 70) dX11_joint_191 (by decide) ?_
        refine V_sub [3, 4, 5, 6, 7, 8, 0] rfl ?_
        exact ih M51 x1 x2 x3 x4 x5 (x6 + 1) hI53
      · refine V_aload_n (k := 2) dX11_joint_105 rfl rfl ?_
        refine V_getr (k := 148) dX11_joint_106 rfl (by decide) vf_X11_70 (by decide) (v_fin hI53 135 rfl) ?_
        refine V_sipush (v := 2000) dX11_joint_109 rfl ?_
        refine V_iload_n (k := 3) dX11_joint_112 rfl rfl ?_
        refine V_imul dX11_joint_113 ?_
        refine V_iload (k := 8) dX11_joint_114 rfl ?_
        refine V_iadd dX11_joint_116 ?_
        refine V_zald dX11_joint_117 rfl (by decide) (fun h55 => ?_)
        refine V_ifne (tgt := 188) dX11_joint_118 (by decide) (fun h56 => ?_) (fun h56 => ?_)
        · refine V_iinc (k := 8) (v := x6 + 1) (lv' := [(6, .int (x6 + 1)), (8, .int y50), (7, .int y46), (0, .ref 130), (1, .int x1), (2, .int x2), (3, .int x3), (4, .int x4), (5, .int x5)]) dX11_joint_188 rfl rfl (by decide) rfl ?_
          refine V_goto (tgt := 70) dX11_joint_191 (by decide) ?_
          refine V_sub [3, 4, 5, 6, 7, 8, 0] rfl ?_
          exact ih M51 x1 x2 x3 x4 x5 (x6 + 1) hI53
        · refine V_aload_n (k := 2) dX11_joint_121 rfl rfl ?_
          refine V_getr (k := 148) dX11_joint_122 rfl (by decide) vf_X11_70 (by decide) (v_fin hI53 135 rfl) ?_
          refine V_sipush (v := 2000) dX11_joint_125 rfl ?_
          refine V_iload_n (k := 4) dX11_joint_128 rfl rfl ?_
          refine V_imul dX11_joint_129 ?_
          refine V_iload (k := 0) dX11_joint_130 rfl ?_
          refine V_iadd dX11_joint_132 ?_
          refine V_zald dX11_joint_133 rfl (by decide) (fun h57 => ?_)
          refine V_ifeq (tgt := 140) dX11_joint_134 (by decide) (fun h58 => ?_) (fun h58 => ?_)
          · refine V_aload_n (k := 2) dX11_joint_140 rfl rfl ?_
            refine V_iload_n (k := 3) dX11_joint_141 rfl rfl ?_
            refine V_iload_n (k := 4) dX11_joint_142 rfl rfl ?_
            refine V_iload (k := 1) dX11_joint_143 rfl ?_
            refine V_callVi (q := (RX11, TX11, 61)) (cls := 11) (st0 := []) (kc' := 0) (ks' := 0) dX11_joint_145 lk_X11_403 rfl (by decide) rfl rfl rfl (cX11_jointCost_ok M51 x1 x2 y46 hI53) rfl rfl (by decide) (by decide) (Nat.le_of_ble_eq_true rfl) (Or.inl rfl) rfl rfl (by decide) (by decide) (fun y59 M60 e61 hI62 => ?_)
            refine V_istore (lv' := [(9, .int y59), (8, .int y50), (7, .int y46), (0, .ref 130), (1, .int x1), (2, .int x2), (3, .int x3), (4, .int x4), (5, .int x5), (6, .int x6)]) dX11_joint_148 (by decide) rfl ?_
            refine V_iload (k := 7) dX11_joint_150 rfl ?_
            refine V_iconst (v := (-1)) dX11_joint_152 rfl ?_
            refine V_icmpeq (tgt := 180) dX11_joint_153 (by decide) (fun h63 => ?_) (fun h63 => ?_)
            · refine V_iload (k := 2) dX11_joint_180 rfl ?_
              refine V_istore (lv' := [(4, .int y46), (9, .int y59), (8, .int y50), (7, .int y46), (0, .ref 130), (1, .int x1), (2, .int x2), (3, .int x3), (5, .int x5), (6, .int x6)]) dX11_joint_182 (by decide) rfl ?_
              refine V_iload (k := 1) dX11_joint_184 rfl ?_
              refine V_istore (lv' := [(5, .int y59), (4, .int y46), (9, .int y59), (8, .int y50), (7, .int y46), (0, .ref 130), (1, .int x1), (2, .int x2), (3, .int x3), (6, .int x6)]) dX11_joint_186 (by decide) rfl ?_
              refine V_iinc (k := 9) (v := x6 + 1) (lv' := [(6, .int (x6 + 1)), (5, .int y59), (4, .int y46), (9, .int y59), (8, .int y50), (7, .int y46), (0, .ref 130), (1, .int x1), (2, .int x2), (3, .int x3)]) dX11_joint_188 rfl rfl (by decide) rfl ?_
              refine V_goto (tgt := 70) dX11_joint_191 (by decide) ?_
              refine V_sub [6, 7, 8, 9, 2, 1, 0] rfl ?_
              exact ih M60 x1 x2 x3 y46 y59 (x6 + 1) hI62
            · refine V_iload (k := 0) dX11_joint_156 rfl ?_
              refine V_iload (k := 8) dX11_joint_158 rfl ?_
              refine V_icmpgt (tgt := 188) dX11_joint_160 (by decide) (fun h64 => ?_) (fun h64 => ?_)
              · refine V_iinc (k := 9) (v := x6 + 1) (lv' := [(6, .int (x6 + 1)), (9, .int y59), (8, .int y50), (7, .int y46), (0, .ref 130), (1, .int x1), (2, .int x2), (3, .int x3), (4, .int x4), (5, .int x5)]) dX11_joint_188 rfl rfl (by decide) rfl ?_
                refine V_goto (tgt := 70) dX11_joint_191 (by decide) ?_
                refine V_sub [4, 5, 6, 7, 8, 9, 0] rfl ?_
                exact ih M60 x1 x2 x3 x4 x5 (x6 + 1) hI62
              · refine V_iload (k := 0) dX11_joint_163 rfl ?_
                refine V_iload (k := 8) dX11_joint_165 rfl ?_
                refine V_icmpne (tgt := 180) dX11_joint_167 (by decide) (fun h65 => ?_) (fun h65 => ?_)
                · refine V_iload (k := 2) dX11_joint_180 rfl ?_
                  refine V_istore (lv' := [(4, .int y46), (9, .int y59), (8, .int y50), (7, .int y46), (0, .ref 130), (1, .int x1), (2, .int x2), (3, .int x3), (5, .int x5), (6, .int x6)]) dX11_joint_182 (by decide) rfl ?_
                  refine V_iload (k := 1) dX11_joint_184 rfl ?_
                  refine V_istore (lv' := [(5, .int y59), (4, .int y46), (9, .int y59), (8, .int y50), (7, .int y46), (0, .ref 130), (1, .int x1), (2, .int x2), (3, .int x3), (6, .int x6)]) dX11_joint_186 (by decide) rfl ?_
                  refine V_iinc (k := 9) (v := x6 + 1) (lv' := [(6, .int (x6 + 1)), (5, .int y59), (4, .int y46), (9, .int y59), (8, .int y50), (7, .int y46), (0, .ref 130), (1, .int x1), (2, .int x2), (3, .int x3)]) dX11_joint_188 rfl rfl (by decide) rfl ?_
                  refine V_goto (tgt := 70) dX11_joint_191 (by decide) ?_
                  refine V_sub [6, 7, 8, 9, 2, 1, 0] rfl ?_
                  exact ih M60 x1 x2 x3 y46 y59 (x6 + 1) hI62
                · refine V_iload (k := 2) dX11_joint_170 rfl ?_
                  refine V_iload (k := 7) dX11_joint_172 rfl ?_
                  refine V_icmple (tgt := 180) dX11_joint_174 (by decide) (fun h66 => ?_) (fun h66 => ?_)
                  · refine V_iload (k := 2) dX11_joint_180 rfl ?_
                    refine V_istore (lv' := [(4, .int y46), (9, .int y59), (8, .int y50), (7, .int y46), (0, .ref 130), (1, .int x1), (2, .int x2), (3, .int x3), (5, .int x5), (6, .int x6)]) dX11_joint_182 (by decide) rfl ?_
                    refine V_iload (k := 1) dX11_joint_184 rfl ?_
                    refine V_istore (lv' := [(5, .int y59), (4, .int y46), (9, .int y59), (8, .int y50), (7, .int y46), (0, .ref 130), (1, .int x1), (2, .int x2), (3, .int x3), (6, .int x6)]) dX11_joint_186 (by decide) rfl ?_
                    refine V_iinc (k := 9) (v := x6 + 1) (lv' := [(6, .int (x6 + 1)), (5, .int y59), (4, .int y46), (9, .int y59), (8, .int y50), (7, .int y46), (0, .ref 130), (1, .int x1), (2, .int x2), (3, .int x3)]) dX11_joint_188 rfl rfl (by decide) rfl ?_
                    refine V_goto (tgt := 70) dX11_joint_191 (by decide) ?_
                    refine V_sub [6, 7, 8, 9, 2, 1, 0] rfl ?_
                    exact ih M60 x1 x2 x3 y46 y59 (x6 + 1) hI62
                  · refine V_goto (tgt := 188) dX11_joint_177 (by decide) ?_
                    refine V_iinc (k := 9) (v := x6 + 1) (lv' := [(6, .int (x6 + 1)), (9, .int y59), (8, .int y50), (7, .int y46), (0, .ref 130), (1, .int x1), (2, .int x2), (3, .int x3), (4, .int x4), (5, .int x5)]) dX11_joint_188 rfl rfl (by decide) rfl ?_
                    refine V_goto (tgt := 70) dX11_joint_191 (by decide) ?_
                    refine V_sub [4, 5, 6, 7, 8, 9, 0] rfl ?_
                    exact ih M60 x1 x2 x3 x4 x5 (x6 + 1) hI62
          · refine V_goto (tgt := 188) dX11_joint_137 (by decide) ?_
            refine V_iinc (k := 8) (v := x6 + 1) (lv' := [(6, .int (x6 + 1)), (8, .int y50), (7, .int y46), (0, .ref 130), (1, .int x1), (2, .int x2), (3, .int x3), (4, .int x4), (5, .int x5)]) dX11_joint_188 rfl rfl (by decide) rfl ?_
            refine V_goto (tgt := 70) dX11_joint_191 (by decide) ?_
            refine V_sub [3, 4, 5, 6, 7, 8, 0] rfl ?_
            exact ih M51 x1 x2 x3 x4 x5 (x6 + 1) hI53
def fX11_joint (M : vM) (x1 : Int32) (x2 : Int32) (x3 : Int32) : Option (vR × vM) := bi (fX11_isWork (v_si M 130 1 0) x1) fun y67 M68 => if y67 = 0 then fX11_joint_55 M68 else bi (fX11_isWork M68 x2) fun y72 M73 => if y72 = 0 then fX11_joint_55 M73 else if x1 = x2 then fX11_joint_55 M73 else if v_in x1 12 = true then if (M73.1 132 (Int32.toNatClampNeg x1)) = 1 then if v_in x2 12 = true then if (M73.1 132 (Int32.toNatClampNeg x2)) = 1 then bi (fX11_isIn M73 x3 0 2) fun y82 M83 => if y82 = 0 then fX11_joint_55 M83 else fX11_joint_70 FU M83 x1 x2 x3 ((-1)) 0 0 else fX11_joint_55 M73 else none else fX11_joint_55 M73 else none
set_option maxRecDepth 20000 in
set_option maxHeartbeats 2000000 in
theorem cX11_joint_ok {l : Launch} {D : va_G} {dA : Nat → ClassId} (M : vM) (x1 : Int32) (x2 : Int32) (x3 : Int32) (hI : v_WT M.2.2) : Ct l D dA sX11_joint false 175 3 0 0 175 [.ref 130, .int x1, .int x2, .int x3] M (fX11_joint M x1 x2 x3) := by
  refine Ct_of (lv := [(0, .ref 130), (1, .int x1), (2, .int x2), (3, .int x3)]) (by decide +kernel) rfl (Nat.le_of_ble_eq_true rfl) rfl (fun h => by cases h) ?_
  refine V_aload_n (k := 0) dX11_joint_0 rfl rfl ?_
  refine V_iconst (v := 0) dX11_joint_1 rfl ?_
  refine V_puti dX11_joint_2 rfl (by decide) vf_X11_154 (by decide) rfl rfl ?_
  refine V_aload_n (k := 0) dX11_joint_5 rfl rfl ?_
  refine V_iload_n (k := 1) dX11_joint_6 rfl rfl ?_
  refine V_callVi (q := (RX11, TX11, 61)) (cls := 11) (st0 := []) (kc' := 0) (ks' := 0) dX11_joint_7 lk_X11_164 rfl (by decide) rfl rfl rfl (cX11_isWork_ok (v_si M 130 1 0) x1 hI) rfl rfl (by decide) (by decide) (Nat.le_of_ble_eq_true rfl) (Or.inl rfl) rfl rfl (by decide) (by decide) (fun y67 M68 e69 hI70 => ?_)
  refine V_ifeq (tgt := 55) dX11_joint_10 (by decide) (fun h71 => ?_) (fun h71 => ?_)
  · refine V_sub [0] rfl ?_
    exact vX11_joint_55 M68 hI70
  · refine V_aload_n (k := 0) dX11_joint_13 rfl rfl ?_
    refine V_iload_n (k := 2) dX11_joint_14 rfl rfl ?_
    refine V_callVi (q := (RX11, TX11, 61)) (cls := 11) (st0 := []) (kc' := 0) (ks' := 0) dX11_joint_15 lk_X11_164 rfl (by decide) rfl rfl rfl (cX11_isWork_ok M68 x2 hI70) rfl rfl (by decide) (by decide) (Nat.le_of_ble_eq_true rfl) (Or.inl rfl) rfl rfl (by decide) (by decide) (fun y72 M73 e74 hI75 => ?_)
    refine V_ifeq (tgt := 55) dX11_joint_18 (by decide) (fun h76 => ?_) (fun h76 => ?_)
    · refine V_sub [0] rfl ?_
      exact vX11_joint_55 M73 hI75
    · refine V_iload_n (k := 1) dX11_joint_21 rfl rfl ?_
      refine V_iload_n (k := 2) dX11_joint_22 rfl rfl ?_
      refine V_icmpeq (tgt := 55) dX11_joint_23 (by decide) (fun h77 => ?_) (fun h77 => ?_)
      · refine V_sub [0] rfl ?_
        exact vX11_joint_55 M73 hI75
      · refine V_aload_n (k := 0) dX11_joint_26 rfl rfl ?_
        refine V_getr (k := 132) dX11_joint_27 rfl (by decide) vf_X11_21 (by decide) (v_fin hI75 119 rfl) ?_
        refine V_iload_n (k := 1) dX11_joint_30 rfl rfl ?_
        refine V_iald dX11_joint_31 rfl (by decide) (fun h78 => ?_)
        refine V_iconst (v := 1) dX11_joint_32 rfl ?_
        refine V_icmpne (tgt := 55) dX11_joint_33 (by decide) (fun h79 => ?_) (fun h79 => ?_)
        · refine V_sub [0] rfl ?_
          exact vX11_joint_55 M73 hI75
        · refine V_aload_n (k := 0) dX11_joint_36 rfl rfl ?_
          refine V_getr (k := 132) dX11_joint_37 rfl (by decide) vf_X11_21 (by decide) (v_fin hI75 119 rfl) ?_
          refine V_iload_n (k := 2) dX11_joint_40 rfl rfl ?_
          refine V_iald dX11_joint_41 rfl (by decide) (fun h80 => ?_)
          refine V_iconst (v := 1) dX11_joint_42 rfl ?_
          refine V_icmpne (tgt := 55) dX11_joint_43 (by decide) (fun h81 => ?_) (fun h81 => ?_)
          · refine V_sub [0] rfl ?_
            exact vX11_joint_55 M73 hI75
          · refine V_iload_n (k := 3) dX11_joint_46 rfl rfl ?_
            refine V_iconst (v := 0) dX11_joint_47 rfl ?_
            refine V_iconst (v := 2) dX11_joint_48 rfl ?_
            refine V_callSi (st0 := []) (kc' := 0) (ks' := 0) dX11_joint_49 lk_X11_160 rfl (cX11_isIn_ok M73 x3 0 2 hI75) rfl rfl (by decide) (by decide) (Nat.le_of_ble_eq_true rfl) (Or.inl rfl) rfl rfl (by decide) (by decide) (fun y82 M83 e84 hI85 => ?_)
            refine V_ifne (tgt := 61) dX11_joint_52 (by decide) (fun h86 => ?_) (fun h86 => ?_)
            · refine V_iconst (v := (-1)) dX11_joint_61 rfl ?_
              refine V_istore (lv' := [(4, .int ((-1))), (0, .ref 130), (1, .int x1), (2, .int x2), (3, .int x3)]) dX11_joint_62 (by decide) rfl ?_
              refine V_iconst (v := 0) dX11_joint_64 rfl ?_
              refine V_istore (lv' := [(5, .int 0), (4, .int ((-1))), (0, .ref 130), (1, .int x1), (2, .int x2), (3, .int x3)]) dX11_joint_65 (by decide) rfl ?_
              refine V_iconst (v := 0) dX11_joint_67 rfl ?_
              refine V_istore (lv' := [(6, .int 0), (5, .int 0), (4, .int ((-1))), (0, .ref 130), (1, .int x1), (2, .int x2), (3, .int x3)]) dX11_joint_68 (by decide) rfl ?_
              refine V_sub [3, 4, 5, 6, 2, 1, 0] rfl ?_
              exact vX11_joint_70 FU M83 x1 x2 x3 ((-1)) 0 0 hI85
            · refine V_sub [0] rfl ?_
              exact vX11_joint_55 M83 hI85
def fX11_judge_22 (M : vM) : Option (vR × vM) := bi (fX11_fail M 1) fun y13 M14 => rI y13 M14
set_option maxRecDepth 20000 in
set_option maxHeartbeats 2000000 in
theorem vX11_judge_22 {l : Launch} {D : va_G} {dA : Nat → ClassId} : ∀ (M : vM), v_WT M.2.2 → V l D dA sX11_judge false 175 4 0 0 22 [(0, .ref 130)] [] 175 M (fX11_judge_22 M) := by
  intro M hI
  refine V_aload_n (k := 0) dX11_judge_22 rfl rfl ?_
  refine V_iconst (v := 1) dX11_judge_23 rfl ?_
  refine V_callVi (q := (RX11, TX11, 61)) (cls := 11) (st0 := []) (kc' := 0) (ks' := 0) dX11_judge_24 lk_X11_287 rfl (by decide) rfl rfl rfl (cX11_fail_ok M 1 hI) rfl rfl (by decide) (by decide) (Nat.le_of_ble_eq_true rfl) (Or.inl rfl) rfl rfl (by decide) (by decide) (fun y13 M14 e15 hI16 => ?_)
  exact V_ret (fun _ => hI16) (Or.inr (Or.inl ⟨rfl, _, rfl⟩)) dX11_judge_27 (fun ty x h1 h2 => by cases h1; rfl) rfl
def fX11_judge_77 (k30 : vM → Int32 → Int32 → Int32 → Option (vR × vM)) : Nat → vM → Int32 → Int32 → Int32 → Int32 → Int32 → Option (vR × vM)
  | 0, _, _, _, _, _, _ => none
  | n9 + 1, M, x1, x2, x3, x4, x5 => if x3 ≤ x5 then k30 M x1 x2 (x3 + 1) else if v_in ((100 * x1) + x5) 600 = true then bi (fX11_alike M x1 x4 (M.1 152 (Int32.toNatClampNeg ((100 * x1) + x5)))) fun y19 M20 => if y19 = 0 then fX11_judge_77 k30 n9 M20 x1 x2 x3 x4 (x5 + 1) else if x2 = 0 then rI x3 M20 else rI x5 M20 else none
set_option maxRecDepth 20000 in
set_option maxHeartbeats 2000000 in
theorem vX11_judge_77 {l : Launch} {D : va_G} {dA : Nat → ClassId} {k30 : vM → Int32 → Int32 → Int32 → Option (vR × vM)} (hk30 : ∀ (M : vM) (x1 : Int32) (x2 : Int32) (x3 : Int32), v_WT M.2.2 → V l D dA sX11_judge false 175 4 0 0 30 [(0, .ref 130), (1, .int x1), (2, .int x2), (3, .int x3)] [] 175 M (k30 M x1 x2 x3)) : ∀ (n9 : Nat) (M : vM) (x1 : Int32) (x2 : Int32) (x3 : Int32) (x4 : Int32) (x5 : Int32), v_WT M.2.2 → V l D dA sX11_judge false 175 4 0 0 77 [(0, .ref 130), (1, .int x1), (2, .int x2), (3, .int x3), (4, .int x4), (5, .int x5)] [] 175 M (fX11_judge_77 k30 n9 M x1 x2 x3 x4 x5) := by
  intro n9
  induction n9 with
  | zero => intros; exact V_none
  | succ n9 ih =>
    intro M x1 x2 x3 x4 x5 hI
    refine V_iload (k := 5) dX11_judge_77 rfl ?_
    refine V_iload_n (k := 3) dX11_judge_79 rfl rfl ?_
    refine V_icmpge (tgt := 122) dX11_judge_80 (by decide) (fun h17 => ?_) (fun h17 => ?_)
    · refine V_iinc (k := 3) (v := x3 + 1) (lv' := [(3, .int (x3 + 1)), (0, .ref 130), (1, .int x1), (2, .int x2), (4, .int x4), (5, .int x5)]) dX11_judge_122 rfl rfl (by decide) rfl ?_
      refine V_goto (tgt := 30) dX11_judge_125 (by decide) ?_
      refine V_sub [1, 2, 3, 0] rfl ?_
      exact hk30 M x1 x2 (x3 + 1) hI
    · refine V_aload_n (k := 0) dX11_judge_83 rfl rfl ?_
      refine V_iload_n (k := 1) dX11_judge_84 rfl rfl ?_
      refine V_iload (k := 4) dX11_judge_85 rfl ?_
      refine V_aload_n (k := 0) dX11_judge_87 rfl rfl ?_
      refine V_getr (k := 152) dX11_judge_88 rfl (by decide) vf_X11_83 (by decide) (v_fin hI 139 rfl) ?_
      refine V_bipush (v := 100) dX11_judge_91 rfl ?_
      refine V_iload_n (k := 1) dX11_judge_93 rfl rfl ?_
      refine V_imul dX11_judge_94 ?_
      refine V_iload (k := 5) dX11_judge_95 rfl ?_
      refine V_iadd dX11_judge_97 ?_
      refine V_iald dX11_judge_98 rfl (by decide) (fun h18 => ?_)
      refine V_callVi (q := (RX11, TX11, 61)) (cls := 11) (st0 := []) (kc' := 0) (ks' := 0) dX11_judge_99 lk_X11_372 rfl (by decide) rfl rfl rfl (cX11_alike_ok M x1 x4 (M.1 152 (Int32.toNatClampNeg ((100 * x1) + x5))) hI) rfl rfl (by decide) (by decide) (Nat.le_of_ble_eq_true rfl) (Or.inl rfl) rfl rfl (by decide) (by decide) (fun y19 M20 e21 hI22 => ?_)
      refine V_ifeq (tgt := 116) dX11_judge_102 (by decide) (fun h23 => ?_) (fun h23 => ?_)
      · refine V_iinc (k := 5) (v := x5 + 1) (lv' := [(5, .int (x5 + 1)), (0, .ref 130), (1, .int x1), (2, .int x2), (3, .int x3), (4, .int x4)]) dX11_judge_116 rfl rfl (by decide) rfl ?_
        refine V_goto (tgt := 77) dX11_judge_119 (by decide) ?_
        refine V_sub [1, 2, 3, 4, 5, 0] rfl ?_
        exact ih M20 x1 x2 x3 x4 (x5 + 1) hI22
      · refine V_iload_n (k := 2) dX11_judge_105 rfl rfl ?_
        refine V_ifne (tgt := 113) dX11_judge_106 (by decide) (fun h24 => ?_) (fun h24 => ?_)
        · refine V_iload (k := 5) dX11_judge_113 rfl ?_
          exact V_ret (fun _ => hI22) (Or.inr (Or.inl ⟨rfl, _, rfl⟩)) dX11_judge_115 (fun ty x h1 h2 => by cases h1; rfl) rfl
        · refine V_iload_n (k := 3) dX11_judge_109 rfl rfl ?_
          refine V_goto (tgt := 115) dX11_judge_110 (by decide) ?_
          exact V_ret (fun _ => hI22) (Or.inr (Or.inl ⟨rfl, _, rfl⟩)) dX11_judge_115 (fun ty x h1 h2 => by cases h1; rfl) rfl
def fX11_judge_30 : Nat → vM → Int32 → Int32 → Int32 → Option (vR × vM)
  | 0, _, _, _, _ => none
  | n9 + 1, M, x1, x2, x3 => if v_in x1 6 = true then if (M.1 151 (Int32.toNatClampNeg x1)) ≤ x3 then rI ((-1)) M else if v_in ((100 * x1) + x3) 600 = true then bi (fX11_findOf M x1 (M.1 152 (Int32.toNatClampNeg ((100 * x1) + x3)))) fun y28 M29 => if y28 = ((-1)) then if x2 = 0 then rI x3 M29 else rI ((-1)) M29 else fX11_judge_77 (fX11_judge_30 n9) FU M29 x1 x2 x3 (M.1 152 (Int32.toNatClampNeg ((100 * x1) + x3))) 0 else none else none
set_option maxRecDepth 20000 in
set_option maxHeartbeats 2000000 in
theorem vX11_judge_30 {l : Launch} {D : va_G} {dA : Nat → ClassId} : ∀ (n9 : Nat) (M : vM) (x1 : Int32) (x2 : Int32) (x3 : Int32), v_WT M.2.2 → V l D dA sX11_judge false 175 4 0 0 30 [(0, .ref 130), (1, .int x1), (2, .int x2), (3, .int x3)] [] 175 M (fX11_judge_30 n9 M x1 x2 x3) := by
  intro n9
  induction n9 with
  | zero => intros; exact V_none
  | succ n9 ih =>
    intro M x1 x2 x3 hI
    refine V_iload_n (k := 3) dX11_judge_30 rfl rfl ?_
    refine V_aload_n (k := 0) dX11_judge_31 rfl rfl ?_
    refine V_getr (k := 151) dX11_judge_32 rfl (by decide) vf_X11_80 (by decide) (v_fin hI 138 rfl) ?_
    refine V_iload_n (k := 1) dX11_judge_35 rfl rfl ?_
    refine V_iald dX11_judge_36 rfl (by decide) (fun h25 => ?_)
    refine V_icmpge (tgt := 128) dX11_judge_37 (by decide) (fun h26 => ?_) (fun h26 => ?_)
    · refine V_iconst (v := (-1)) dX11_judge_128 rfl ?_
      exact V_ret (fun _ => hI) (Or.inr (Or.inl ⟨rfl, _, rfl⟩)) dX11_judge_129 (fun ty x h1 h2 => by cases h1; rfl) rfl
    · refine V_aload_n (k := 0) dX11_judge_40 rfl rfl ?_
      refine V_getr (k := 152) dX11_judge_41 rfl (by decide) vf_X11_83 (by decide) (v_fin hI 139 rfl) ?_
      refine V_bipush (v := 100) dX11_judge_44 rfl ?_
      refine V_iload_n (k := 1) dX11_judge_46 rfl rfl ?_
      refine V_imul dX11_judge_47 ?_
      refine V_iload_n (k := 3) dX11_judge_48 rfl rfl ?_
      refine V_iadd dX11_judge_49 ?_
      refine V_iald dX11_judge_50 rfl (by decide) (fun h27 => ?_)
      refine V_istore (lv' := [(4, .int (M.1 152 (Int32.toNatClampNeg ((100 * x1) + x3)))), (0, .ref 130), (1, .int x1), (2, .int x2), (3, .int x3)]) dX11_judge_51 (by decide) rfl ?_
      refine V_aload_n (k := 1) dX11_judge_53 rfl rfl ?_
      refine V_iload_n (k := 2) dX11_judge_54 rfl rfl ?_
      refine V_iload (k := 0) dX11_judge_55 rfl ?_
      refine V_callVi (q := (RX11, TX11, 61)) (cls := 11) (st0 := []) (kc' := 0) (ks' := 0) dX11_judge_57 lk_X11_369 rfl (by decide) rfl rfl rfl (cX11_findOf_ok M x1 (M.1 152 (Int32.toNatClampNeg ((100 * x1) + x3))) hI) rfl rfl (by decide) (by decide) (Nat.le_of_ble_eq_true rfl) (Or.inl rfl) rfl rfl (by decide) (by decide) (fun y28 M29 e30 hI31 => ?_)
      refine V_iconst (v := (-1)) dX11_judge_60 rfl ?_
      refine V_icmpne (tgt := 74) dX11_judge_61 (by decide) (fun h32 => ?_) (fun h32 => ?_)
      · refine V_iconst (v := 0) dX11_judge_74 rfl ?_
        refine V_istore (lv' := [(5, .int 0), (4, .int (M.1 152 (Int32.toNatClampNeg ((100 * x1) + x3)))), (0, .ref 130), (1, .int x1), (2, .int x2), (3, .int x3)]) dX11_judge_75 (by decide) rfl ?_
        refine V_sub [2, 3, 4, 5, 1, 0] rfl ?_
        exact vX11_judge_77 (ih) FU M29 x1 x2 x3 (M.1 152 (Int32.toNatClampNeg ((100 * x1) + x3))) 0 hI31
      · refine V_iload_n (k := 3) dX11_judge_64 rfl rfl ?_
        refine V_ifne (tgt := 72) dX11_judge_65 (by decide) (fun h33 => ?_) (fun h33 => ?_)
        · refine V_iconst (v := (-1)) dX11_judge_72 rfl ?_
          exact V_ret (fun _ => hI31) (Or.inr (Or.inl ⟨rfl, _, rfl⟩)) dX11_judge_73 (fun ty x h1 h2 => by cases h1; rfl) rfl
        · refine V_iload_n (k := 4) dX11_judge_68 rfl rfl ?_
          refine V_goto (tgt := 73) dX11_judge_69 (by decide) ?_
          exact V_ret (fun _ => hI31) (Or.inr (Or.inl ⟨rfl, _, rfl⟩)) dX11_judge_73 (fun ty x h1 h2 => by cases h1; rfl) rfl
def fX11_judge (M : vM) (x1 : Int32) (x2 : Int32) : Option (vR × vM) := bi (fX11_isWork (v_si M 130 1 0) x1) fun y34 M35 => if y34 = 0 then fX11_judge_22 M35 else if x2 < 0 then fX11_judge_22 M35 else if x2 ≤ 1 then fX11_judge_30 FU M35 x1 x2 0 else fX11_judge_22 M35
set_option maxRecDepth 20000 in
set_option maxHeartbeats 2000000 in
theorem cX11_judge_ok {l : Launch} {D : va_G} {dA : Nat → ClassId} (M : vM) (x1 : Int32) (x2 : Int32) (hI : v_WT M.2.2) : Ct l D dA sX11_judge false 175 4 0 0 175 [.ref 130, .int x1, .int x2] M (fX11_judge M x1 x2) := by
  refine Ct_of (lv := [(0, .ref 130), (1, .int x1), (2, .int x2)]) (by decide +kernel) rfl (Nat.le_of_ble_eq_true rfl) rfl (fun h => by cases h) ?_
  refine V_aload_n (k := 0) dX11_judge_0 rfl rfl ?_
  refine V_iconst (v := 0) dX11_judge_1 rfl ?_
  refine V_puti dX11_judge_2 rfl (by decide) vf_X11_154 (by decide) rfl rfl ?_
  refine V_aload_n (k := 0) dX11_judge_5 rfl rfl ?_
  refine V_iload_n (k := 1) dX11_judge_6 rfl rfl ?_
  refine V_callVi (q := (RX11, TX11, 61)) (cls := 11) (st0 := []) (kc' := 0) (ks' := 0) dX11_judge_7 lk_X11_164 rfl (by decide) rfl rfl rfl (cX11_isWork_ok (v_si M 130 1 0) x1 hI) rfl rfl (by decide) (by decide) (Nat.le_of_ble_eq_true rfl) (Or.inl rfl) rfl rfl (by decide) (by decide) (fun y34 M35 e36 hI37 => ?_)
  refine V_ifeq (tgt := 22) dX11_judge_10 (by decide) (fun h38 => ?_) (fun h38 => ?_)
  · refine V_sub [0] rfl ?_
    exact vX11_judge_22 M35 hI37
  · refine V_iload_n (k := 2) dX11_judge_13 rfl rfl ?_
    refine V_iflt (tgt := 22) dX11_judge_14 (by decide) (fun h39 => ?_) (fun h39 => ?_)
    · refine V_sub [0] rfl ?_
      exact vX11_judge_22 M35 hI37
    · refine V_iload_n (k := 2) dX11_judge_17 rfl rfl ?_
      refine V_iconst (v := 1) dX11_judge_18 rfl ?_
      refine V_icmple (tgt := 28) dX11_judge_19 (by decide) (fun h40 => ?_) (fun h40 => ?_)
      · refine V_iconst (v := 0) dX11_judge_28 rfl ?_
        refine V_istore_n (lv' := [(3, .int 0), (0, .ref 130), (1, .int x1), (2, .int x2)]) dX11_judge_29 rfl (by decide) rfl ?_
        refine V_sub [1, 2, 3, 0] rfl ?_
        exact vX11_judge_30 FU M35 x1 x2 0 hI37
      · refine V_sub [0] rfl ?_
        exact vX11_judge_22 M35 hI37
def fX11_lasts_22 (M : vM) : Option (vR × vM) := bi (fX11_fail M 1) fun y10 M11 => rI y10 M11
set_option maxRecDepth 20000 in
set_option maxHeartbeats 2000000 in
theorem vX11_lasts_22 {l : Launch} {D : va_G} {dA : Nat → ClassId} : ∀ (M : vM), v_WT M.2.2 → V l D dA sX11_lasts false 175 5 0 0 22 [(0, .ref 130)] [] 175 M (fX11_lasts_22 M) := by
  intro M hI
  refine V_aload_n (k := 0) dX11_lasts_22 rfl rfl ?_
  refine V_iconst (v := 1) dX11_lasts_23 rfl ?_
  refine V_callVi (q := (RX11, TX11, 61)) (cls := 11) (st0 := []) (kc' := 0) (ks' := 0) dX11_lasts_24 lk_X11_287 rfl (by decide) rfl rfl rfl (cX11_fail_ok M 1 hI) rfl rfl (by decide) (by decide) (Nat.le_of_ble_eq_true rfl) (Or.inl rfl) rfl rfl (by decide) (by decide) (fun y10 M11 e12 hI13 => ?_)
  exact V_ret (fun _ => hI13) (Or.inr (Or.inl ⟨rfl, _, rfl⟩)) dX11_lasts_27 (fun ty x h1 h2 => by cases h1; rfl) rfl
def fX11_lasts_80 : Nat → vM → Int32 → Int32 → Int32 → Option (vR × vM)
  | 0, _, _, _, _ => none
  | n9 + 1, M, x1, x3, x4 => if (M.1 130 44) ≤ x4 then rI x3 M else if v_in x4 2000 = true then if v_in ((2000 * x1) + (M.1 160 (Int32.toNatClampNeg x4))) 12000 = true then fX11_lasts_80 n9 M x1 (x3 + (M.1 146 (Int32.toNatClampNeg ((2000 * x1) + (M.1 160 (Int32.toNatClampNeg x4)))))) (x4 + 1) else none else none
set_option maxRecDepth 20000 in
set_option maxHeartbeats 2000000 in
theorem vX11_lasts_80 {l : Launch} {D : va_G} {dA : Nat → ClassId} : ∀ (n9 : Nat) (M : vM) (x1 : Int32) (x3 : Int32) (x4 : Int32), v_WT M.2.2 → V l D dA sX11_lasts false 175 5 0 0 80 [(0, .ref 130), (1, .int x1), (3, .int x3), (4, .int x4)] [] 175 M (fX11_lasts_80 n9 M x1 x3 x4) := by
  intro n9
  induction n9 with
  | zero => intros; exact V_none
  | succ n9 ih =>
    intro M x1 x3 x4 hI
    refine V_iload (k := 3) dX11_lasts_80 rfl ?_
    refine V_aload_n (k := 0) dX11_lasts_82 rfl rfl ?_
    refine V_geti dX11_lasts_83 rfl (by decide) vf_X11_388 (by decide) ?_
    refine V_icmpge (tgt := 116) dX11_lasts_86 (by decide) (fun h14 => ?_) (fun h14 => ?_)
    · refine V_iload_n (k := 2) dX11_lasts_116 rfl rfl ?_
      exact V_ret (fun _ => hI) (Or.inr (Or.inl ⟨rfl, _, rfl⟩)) dX11_lasts_117 (fun ty x h1 h2 => by cases h1; rfl) rfl
    · refine V_iload_n (k := 2) dX11_lasts_89 rfl rfl ?_
      refine V_aload_n (k := 0) dX11_lasts_90 rfl rfl ?_
      refine V_getr (k := 146) dX11_lasts_91 rfl (by decide) vf_X11_64 (by decide) (v_fin hI 133 rfl) ?_
      refine V_sipush (v := 2000) dX11_lasts_94 rfl ?_
      refine V_iload_n (k := 1) dX11_lasts_97 rfl rfl ?_
      refine V_imul dX11_lasts_98 ?_
      refine V_aload_n (k := 0) dX11_lasts_99 rfl rfl ?_
      refine V_getr (k := 160) dX11_lasts_100 rfl (by decide) vf_X11_111 (by decide) (v_fin hI 147 rfl) ?_
      refine V_iload (k := 3) dX11_lasts_103 rfl ?_
      refine V_iald dX11_lasts_105 rfl (by decide) (fun h15 => ?_)
      refine V_iadd dX11_lasts_106 ?_
      refine V_iald dX11_lasts_107 rfl (by decide) (fun h16 => ?_)
      refine V_iadd dX11_lasts_108 ?_
      refine V_istore_n (lv' := [(3, .int (x3 + (M.1 146 (Int32.toNatClampNeg ((2000 * x1) + (M.1 160 (Int32.toNatClampNeg x4))))))), (0, .ref 130), (1, .int x1), (4, .int x4)]) dX11_lasts_109 rfl (by decide) rfl ?_
      refine V_iinc (k := 3) (v := x4 + 1) (lv' := [(4, .int (x4 + 1)), (3, .int (x3 + (M.1 146 (Int32.toNatClampNeg ((2000 * x1) + (M.1 160 (Int32.toNatClampNeg x4))))))), (0, .ref 130), (1, .int x1)]) dX11_lasts_110 rfl rfl (by decide) rfl ?_
      refine V_goto (tgt := 80) dX11_lasts_113 (by decide) ?_
      refine V_sub [2, 3, 1, 0] rfl ?_
      exact ih M x1 (x3 + (M.1 146 (Int32.toNatClampNeg ((2000 * x1) + (M.1 160 (Int32.toNatClampNeg x4)))))) (x4 + 1) hI
def fX11_lasts (M : vM) (x1 : Int32) (x2 : Int32) : Option (vR × vM) := bi (fX11_isWork (v_si M 130 1 0) x1) fun y17 M18 => if y17 = 0 then fX11_lasts_22 M18 else bi (fX11_isIn M18 x2 0 2) fun y22 M23 => if y22 = 0 then fX11_lasts_22 M23 else bv (fX11_tellLasts M23 x1 2000) fun M27 => if 2 ≤ x2 then fX11_lasts_80 FU M27 x1 0 0 else if x2 = 0 then rI (M27.1 130 44) M27 else if (M27.1 130 44) = 0 then rI ((-1)) M27 else if v_in ((M27.1 130 44) - 1) 2000 = true then rI (M27.1 160 (Int32.toNatClampNeg ((M27.1 130 44) - 1))) M27 else none
set_option maxRecDepth 20000 in
set_option maxHeartbeats 2000000 in
theorem cX11_lasts_ok {l : Launch} {D : va_G} {dA : Nat → ClassId} (M : vM) (x1 : Int32) (x2 : Int32) (hI : v_WT M.2.2) : Ct l D dA sX11_lasts false 175 5 0 0 175 [.ref 130, .int x1, .int x2] M (fX11_lasts M x1 x2) := by
  refine Ct_of (lv := [(0, .ref 130), (1, .int x1), (2, .int x2)]) (by decide +kernel) rfl (Nat.le_of_ble_eq_true rfl) rfl (fun h => by cases h) ?_
  refine V_aload_n (k := 0) dX11_lasts_0 rfl rfl ?_
  refine V_iconst (v := 0) dX11_lasts_1 rfl ?_
  refine V_puti dX11_lasts_2 rfl (by decide) vf_X11_154 (by decide) rfl rfl ?_
  refine V_aload_n (k := 0) dX11_lasts_5 rfl rfl ?_
  refine V_iload_n (k := 1) dX11_lasts_6 rfl rfl ?_
  refine V_callVi (q := (RX11, TX11, 61)) (cls := 11) (st0 := []) (kc' := 0) (ks' := 0) dX11_lasts_7 lk_X11_164 rfl (by decide) rfl rfl rfl (cX11_isWork_ok (v_si M 130 1 0) x1 hI) rfl rfl (by decide) (by decide) (Nat.le_of_ble_eq_true rfl) (Or.inl rfl) rfl rfl (by decide) (by decide) (fun y17 M18 e19 hI20 => ?_)
  refine V_ifeq (tgt := 22) dX11_lasts_10 (by decide) (fun h21 => ?_) (fun h21 => ?_)
  · refine V_sub [0] rfl ?_
    exact vX11_lasts_22 M18 hI20
  · refine V_iload_n (k := 2) dX11_lasts_13 rfl rfl ?_
    refine V_iconst (v := 0) dX11_lasts_14 rfl ?_
    refine V_iconst (v := 2) dX11_lasts_15 rfl ?_
    refine V_callSi (st0 := []) (kc' := 0) (ks' := 0) dX11_lasts_16 lk_X11_160 rfl (cX11_isIn_ok M18 x2 0 2 hI20) rfl rfl (by decide) (by decide) (Nat.le_of_ble_eq_true rfl) (Or.inl rfl) rfl rfl (by decide) (by decide) (fun y22 M23 e24 hI25 => ?_)
    refine V_ifne (tgt := 28) dX11_lasts_19 (by decide) (fun h26 => ?_) (fun h26 => ?_)
    · refine V_aload_n (k := 0) dX11_lasts_28 rfl rfl ?_
      refine V_iload_n (k := 1) dX11_lasts_29 rfl rfl ?_
      refine V_sipush (v := 2000) dX11_lasts_30 rfl ?_
      refine V_callVv (q := (RX11, TX11, 61)) (cls := 11) (st0 := []) (kc' := 0) (ks' := 0) dX11_lasts_33 lk_X11_391 rfl (by decide) rfl rfl rfl (cX11_tellLasts_ok M23 x1 2000 hI25) rfl rfl (by decide) (by decide) (Nat.le_of_ble_eq_true rfl) (Or.inl rfl) rfl rfl (by decide) (by decide) (fun  M27 e28 hI29 => ?_)
      refine V_iload_n (k := 2) dX11_lasts_36 rfl rfl ?_
      refine V_iconst (v := 2) dX11_lasts_37 rfl ?_
      refine V_icmpge (tgt := 75) dX11_lasts_38 (by decide) (fun h30 => ?_) (fun h30 => ?_)
      · refine V_iconst (v := 0) dX11_lasts_75 rfl ?_
        refine V_istore_n (lv' := [(3, .int 0), (0, .ref 130), (1, .int x1), (2, .int x2)]) dX11_lasts_76 rfl (by decide) rfl ?_
        refine V_iconst (v := 0) dX11_lasts_77 rfl ?_
        refine V_istore (lv' := [(4, .int 0), (3, .int 0), (0, .ref 130), (1, .int x1), (2, .int x2)]) dX11_lasts_78 (by decide) rfl ?_
        refine V_sub [2, 3, 1, 0] rfl ?_
        exact vX11_lasts_80 FU M27 x1 0 0 hI29
      · refine V_iload_n (k := 2) dX11_lasts_41 rfl rfl ?_
        refine V_ifne (tgt := 52) dX11_lasts_42 (by decide) (fun h31 => ?_) (fun h31 => ?_)
        · refine V_aload_n (k := 0) dX11_lasts_52 rfl rfl ?_
          refine V_geti dX11_lasts_53 rfl (by decide) vf_X11_388 (by decide) ?_
          refine V_ifne (tgt := 63) dX11_lasts_56 (by decide) (fun h32 => ?_) (fun h32 => ?_)
          · refine V_aload_n (k := 0) dX11_lasts_63 rfl rfl ?_
            refine V_getr (k := 160) dX11_lasts_64 rfl (by decide) vf_X11_111 (by decide) (v_fin hI29 147 rfl) ?_
            refine V_aload_n (k := 0) dX11_lasts_67 rfl rfl ?_
            refine V_geti dX11_lasts_68 rfl (by decide) vf_X11_388 (by decide) ?_
            refine V_iconst (v := 1) dX11_lasts_71 rfl ?_
            refine V_isub dX11_lasts_72 ?_
            refine V_iald dX11_lasts_73 rfl (by decide) (fun h33 => ?_)
            exact V_ret (fun _ => hI29) (Or.inr (Or.inl ⟨rfl, _, rfl⟩)) dX11_lasts_74 (fun ty x h1 h2 => by cases h1; rfl) rfl
          · refine V_iconst (v := (-1)) dX11_lasts_59 rfl ?_
            refine V_goto (tgt := 74) dX11_lasts_60 (by decide) ?_
            exact V_ret (fun _ => hI29) (Or.inr (Or.inl ⟨rfl, _, rfl⟩)) dX11_lasts_74 (fun ty x h1 h2 => by cases h1; rfl) rfl
        · refine V_aload_n (k := 0) dX11_lasts_45 rfl rfl ?_
          refine V_geti dX11_lasts_46 rfl (by decide) vf_X11_388 (by decide) ?_
          refine V_goto (tgt := 74) dX11_lasts_49 (by decide) ?_
          exact V_ret (fun _ => hI29) (Or.inr (Or.inl ⟨rfl, _, rfl⟩)) dX11_lasts_74 (fun ty x h1 h2 => by cases h1; rfl) rfl
    · refine V_sub [0] rfl ?_
      exact vX11_lasts_22 M23 hI25
