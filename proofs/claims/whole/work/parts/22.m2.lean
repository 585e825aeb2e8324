def fX5_countOnward_35 (k29 : vM → Nat → Int32 → Option (vR × vM)) : Nat → vM → Nat → Int32 → Int32 → Option (vR × vM)
  | 0, _, _, _, _ => none
  | n9 + 1, M, x1, x2, x3 => if (M.1 x1 4) ≤ x3 then k29 M x1 (x2 + (-1)) else bi (fX3_endAt M x1 x3) fun y5 M6 => if y5 = x2 then bi (fX3_startAt M6 x1 x3) fun y10 M11 => bi (fX3_startAt M11 x1 x3) fun y14 M15 => bi (fX10_at M15 38 y14) fun y18 M19 => bi (fX10_at M19 38 x2) fun y22 M23 => bv (fX10_put M23 38 y10 (y18 + y22)) fun M26 => fX5_countOnward_35 k29 n9 M26 x1 x2 (x3 + 1) else fX5_countOnward_35 k29 n9 M6 x1 x2 (x3 + 1)
set_option maxRecDepth 20000 in
set_option maxHeartbeats 2000000 in
theorem vX5_countOnward_35 {l : Launch} {D : va_G} {dA : Nat → ClassId} {k29 : vM → Nat → Int32 → Option (vR × vM)} (hk29 : ∀ (M : vM) (x1 : Nat) (x2 : Int32) (f1 : v_isP x1), v_WT M.2.2 → V l D dA sX5_countOnward false 175 3 0 0 29 [(0, .ref 36), (1, .ref x1), (2, .int x2)] [] 175 M (k29 M x1 x2)) : ∀ (n9 : Nat) (M : vM) (x1 : Nat) (x2 : Int32) (x3 : Int32) (f1 : v_isP x1), v_WT M.2.2 → V l D dA sX5_countOnward false 175 3 0 0 35 [(0, .ref 36), (1, .ref x1), (2, .int x2), (3, .int x3)] [] 175 M (fX5_countOnward_35 k29 n9 M x1 x2 x3) := by
  intro n9
  induction n9 with
  | zero => intros; exact V_none
  | succ n9 ih =>
    intro M x1 x2 x3 f1 hI
    refine V_iload_n (k := 3) dX5_countOnward_35 rfl rfl ?_
    refine V_aload_n (k := 1) dX5_countOnward_36 rfl rfl ?_
    refine V_geti dX5_countOnward_37 (v_LP f1).2.1 (v_LP f1).1 vf_X5_50 (by decide) ?_
    refine V_icmpge (tgt := 91) dX5_countOnward_40 (by decide) (fun h4 => ?_) (fun h4 => ?_)
    · refine V_iinc (k := 2) (v := x2 + (-1)) (lv' := [(2, .int (x2 + (-1))), (0, .ref 36), (1, .ref x1), (3, .int x3)]) dX5_countOnward_91 rfl rfl (by decide) rfl ?_
      refine V_goto (tgt := 29) dX5_countOnward_94 (by decide) ?_
      refine V_sub [1, 2, 0] rfl ?_
      exact hk29 M x1 (x2 + (-1)) f1 hI
    · refine V_aload_n (k := 1) dX5_countOnward_43 rfl rfl ?_
      refine V_iload_n (k := 3) dX5_countOnward_44 rfl rfl ?_
      refine V_callVi (q := (RX3, TX3, 12)) (cls := 3) (st0 := []) (kc' := 0) (ks' := 0) dX5_countOnward_45 lk_X5_57 rfl (v_LP f1).1 (v_LP f1).2.1 rfl rfl (cX3_endAt_ok M x1 x3 f1 hI) rfl rfl (by decide) (by decide) (Nat.le_of_ble_eq_true rfl) (Or.inl rfl) rfl rfl (by decide) (by decide) (fun y5 M6 e7 hI8 => ?_)
      refine V_iload_n (k := 2) dX5_countOnward_48 rfl rfl ?_
      refine V_icmpne (tgt := 85) dX5_countOnward_49 (by decide) (fun h9 => ?_) (fun h9 => ?_)
      · refine V_iinc (k := 3) (v := x3 + 1) (lv' := [(3, .int (x3 + 1)), (0, .ref 36), (1, .ref x1), (2, .int x2)]) dX5_countOnward_85 rfl rfl (by decide) rfl ?_
        refine V_goto (tgt := 35) dX5_countOnward_88 (by decide) ?_
        refine V_sub [1, 2, 3, 0] rfl ?_
        exact ih M6 x1 x2 (x3 + 1) f1 hI8
      · refine V_aload_n (k := 0) dX5_countOnward_52 rfl rfl ?_
        refine V_getr (k := 38) dX5_countOnward_53 rfl (by decide) vf_X5_15 (by decide) (v_fin hI8 45 rfl) ?_
        refine V_aload_n (k := 1) dX5_countOnward_56 rfl rfl ?_
        refine V_iload_n (k := 3) dX5_countOnward_57 rfl rfl ?_
        refine V_callVi (q := (RX3, TX3, 12)) (cls := 3) (st0 := [.ref 38]) (kc' := 0) (ks' := 0) dX5_countOnward_58 lk_X5_53 rfl (v_LP f1).1 (v_LP f1).2.1 rfl rfl (cX3_startAt_ok M6 x1 x3 f1 hI8) rfl rfl (by decide) (by decide) (Nat.le_of_ble_eq_true rfl) (Or.inl rfl) rfl rfl (by decide) (by decide) (fun y10 M11 e12 hI13 => ?_)
        refine V_aload_n (k := 0) dX5_countOnward_61 rfl rfl ?_
        refine V_getr (k := 38) dX5_countOnward_62 rfl (by decide) vf_X5_15 (by decide) (v_fin hI13 45 rfl) ?_
        refine V_aload_n (k := 1) dX5_countOnward_65 rfl rfl ?_
        refine V_iload_n (k := 3) dX5_countOnward_66 rfl rfl ?_
        refine V_callVi (q := (RX3, TX3, 12)) (cls := 3) (st0 := [.ref 38, .int y10, .ref 38]) (kc' := 0) (ks' := 0) dX5_countOnward_67 lk_X5_53 rfl (v_LP f1).1 (v_LP f1).2.1 rfl rfl (cX3_startAt_ok M11 x1 x3 f1 hI13) rfl rfl (by decide) (by decide) (Nat.le_of_ble_eq_true rfl) (Or.inl rfl) rfl rfl (by decide) (by decide) (fun y14 M15 e16 hI17 => ?_)
        refine V_callSi (st0 := [.int y10, .ref 38]) (kc' := 0) (ks' := 0) dX5_countOnward_70 lk_X5_34 rfl (cX10_at_ok M15 38 y14 (v_isA_of (by decide) rfl) hI17) rfl rfl (by decide) (by decide) (Nat.le_of_ble_eq_true rfl) (Or.inl rfl) rfl rfl (by decide) (by decide) (fun y18 M19 e20 hI21 => ?_)
        refine V_aload_n (k := 0) dX5_countOnward_73 rfl rfl ?_
        refine V_getr (k := 38) dX5_countOnward_74 rfl (by decide) vf_X5_15 (by decide) (v_fin hI21 45 rfl) ?_
        refine V_iload_n (k := 2) dX5_countOnward_77 rfl rfl ?_
        refine V_callSi (st0 := [.int y18, .int y10, .ref 38]) (kc' := 0) (ks' := 0) dX5_countOnward_78 lk_X5_34 rfl (cX10_at_ok M19 38 x2 (v_isA_of (by decide) rfl) hI21) rfl rfl (by decide) (by decide) (Nat.le_of_ble_eq_true rfl) (Or.inl rfl) rfl rfl (by decide) (by decide) (fun y22 M23 e24 hI25 => ?_)
        refine V_iadd dX5_countOnward_81 ?_
        refine V_callSv (st0 := []) (kc' := 0) (ks' := 0) dX5_countOnward_82 lk_X5_60 rfl (cX10_put_ok M23 38 y10 (y18 + y22) (v_isA_of (by decide) rfl) hI25) rfl rfl (by decide) (by decide) (Nat.le_of_ble_eq_true rfl) (Or.inl rfl) rfl rfl (by decide) (by decide) (fun  M26 e27 hI28 => ?_)
        refine V_iinc (k := 3) (v := x3 + 1) (lv' := [(3, .int (x3 + 1)), (0, .ref 36), (1, .ref x1), (2, .int x2)]) dX5_countOnward_85 rfl rfl (by decide) rfl ?_
        refine V_goto (tgt := 35) dX5_countOnward_88 (by decide) ?_
        refine V_sub [1, 2, 3, 0] rfl ?_
        exact ih M26 x1 x2 (x3 + 1) f1 hI28
def fX5_countOnward_29 : Nat → vM → Nat → Int32 → Option (vR × vM)
  | 0, _, _, _ => none
  | n9 + 1, M, x1, x2 => if x2 < 0 then rV M else fX5_countOnward_35 (fX5_countOnward_29 n9) FU M x1 x2 0
set_option maxRecDepth 20000 in
set_option maxHeartbeats 2000000 in
theorem vX5_countOnward_29 {l : Launch} {D : va_G} {dA : Nat → ClassId} : ∀ (n9 : Nat) (M : vM) (x1 : Nat) (x2 : Int32) (f1 : v_isP x1), v_WT M.2.2 → V l D dA sX5_countOnward false 175 3 0 0 29 [(0, .ref 36), (1, .ref x1), (2, .int x2)] [] 175 M (fX5_countOnward_29 n9 M x1 x2) := by
  intro n9
  induction n9 with
  | zero => intros; exact V_none
  | succ n9 ih =>
    intro M x1 x2 f1 hI
    refine V_iload_n (k := 2) dX5_countOnward_29 rfl rfl ?_
    refine V_iflt (tgt := 97) dX5_countOnward_30 (by decide) (fun h29 => ?_) (fun h29 => ?_)
    · exact V_ret (fun _ => hI) (Or.inl ⟨rfl, rfl⟩) dX5_countOnward_97 (fun ty x h1 h2 => by cases h1) rfl
    · refine V_iconst (v := 0) dX5_countOnward_33 rfl ?_
      refine V_istore_n (lv' := [(3, .int 0), (0, .ref 36), (1, .ref x1), (2, .int x2)]) dX5_countOnward_34 rfl (by decide) rfl ?_
      refine V_sub [1, 2, 3, 0] rfl ?_
      exact vX5_countOnward_35 (ih) FU M x1 x2 0 f1 hI
def fX5_countOnward (M : vM) (x1 : Nat) : Option (vR × vM) := bv (fJ7_fill_53178 M 38 0) fun M30 => bv (fX10_put M30 38 ((M30.1 x1 1) - 1) 1) fun M33 => fX5_countOnward_29 FU M33 x1 ((M33.1 x1 1) - 1)
set_option maxRecDepth 20000 in
set_option maxHeartbeats 2000000 in
theorem cX5_countOnward_ok {l : Launch} {D : va_G} {dA : Nat → ClassId} (M : vM) (x1 : Nat) (f1 : v_isP x1) (hI : v_WT M.2.2) : Ct l D dA sX5_countOnward false 175 3 0 0 175 [.ref 36, .ref x1] M (fX5_countOnward M x1) := by
  refine Ct_of (lv := [(0, .ref 36), (1, .ref x1)]) (by decide +kernel) rfl (Nat.le_of_ble_eq_true rfl) rfl (fun h => by cases h) ?_
  refine V_aload_n (k := 0) dX5_countOnward_0 rfl rfl ?_
  refine V_getr (k := 38) dX5_countOnward_1 rfl (by decide) vf_X5_15 (by decide) (v_fin hI 45 rfl) ?_
  refine V_iconst (v := 0) dX5_countOnward_4 rfl ?_
  refine V_callSv (st0 := []) (kc' := 0) (ks' := 0) dX5_countOnward_5 lk_X5_44 rfl (cJ7_fill_53178_ok M 38 0 (v_isA_of (by decide) rfl) hI) rfl rfl (by decide) (by decide) (Nat.le_of_ble_eq_true rfl) (Or.inl rfl) rfl rfl (by decide) (by decide) (fun  M30 e31 hI32 => ?_)
  refine V_aload_n (k := 0) dX5_countOnward_8 rfl rfl ?_
  refine V_getr (k := 38) dX5_countOnward_9 rfl (by decide) vf_X5_15 (by decide) (v_fin hI32 45 rfl) ?_
  refine V_aload_n (k := 1) dX5_countOnward_12 rfl rfl ?_
  refine V_geti dX5_countOnward_13 (v_LP f1).2.1 (v_LP f1).1 vf_X5_29 (by decide) ?_
  refine V_iconst (v := 1) dX5_countOnward_16 rfl ?_
  refine V_isub dX5_countOnward_17 ?_
  refine V_iconst (v := 1) dX5_countOnward_18 rfl ?_
  refine V_callSv (st0 := []) (kc' := 0) (ks' := 0) dX5_countOnward_19 lk_X5_60 rfl (cX10_put_ok M30 38 ((M30.1 x1 1) - 1) 1 (v_isA_of (by decide) rfl) hI32) rfl rfl (by decide) (by decide) (Nat.le_of_ble_eq_true rfl) (Or.inl rfl) rfl rfl (by decide) (by decide) (fun  M33 e34 hI35 => ?_)
  refine V_aload_n (k := 1) dX5_countOnward_22 rfl rfl ?_
  refine V_geti dX5_countOnward_23 (v_LP f1).2.1 (v_LP f1).1 vf_X5_29 (by decide) ?_
  refine V_iconst (v := 1) dX5_countOnward_26 rfl ?_
  refine V_isub dX5_countOnward_27 ?_
  refine V_istore_n (lv' := [(2, .int ((M33.1 x1 1) - 1)), (0, .ref 36), (1, .ref x1)]) dX5_countOnward_28 rfl (by decide) rfl ?_
  refine V_sub [1, 2, 0] rfl ?_
  exact vX5_countOnward_29 FU M33 x1 ((M33.1 x1 1) - 1) f1 hI35
def fX5_seek_29 (k17 : vM → Nat → Int32 → Option (vR × vM)) : Nat → vM → Nat → Int32 → Int32 → Option (vR × vM)
  | 0, _, _, _, _ => none
  | n9 + 1, M, x1, x2, x3 => if (M.1 x1 1) ≤ x3 then k17 M x1 (x2 + 1) else bi (fX10_at M 37 x2) fun y5 M6 => bi (fX10_at M6 38 x3) fun y9 M10 => if (y5 * y9) ≤ (M10.1 36 4) then fX5_seek_29 k17 n9 M10 x1 x2 (x3 + 1) else fX5_seek_29 k17 n9 (v_si (v_si (v_si M10 36 2 x2) 36 3 x3) 36 4 (y5 * y9)) x1 x2 (x3 + 1)
set_option maxRecDepth 20000 in
set_option maxHeartbeats 2000000 in
theorem vX5_seek_29 {l : Launch} {D : va_G} {dA : Nat → ClassId} {k17 : vM → Nat → Int32 → Option (vR × vM)} (hk17 : ∀ (M : vM) (x1 : Nat) (x2 : Int32) (f1 : v_isP x1), v_WT M.2.2 → V l D dA sX5_seek false 175 4 0 0 17 [(0, .ref 36), (1, .ref x1), (2, .int x2)] [] 175 M (k17 M x1 x2)) : ∀ (n9 : Nat) (M : vM) (x1 : Nat) (x2 : Int32) (x3 : Int32) (f1 : v_isP x1), v_WT M.2.2 → V l D dA sX5_seek false 175 4 0 0 29 [(0, .ref 36), (1, .ref x1), (2, .int x2), (3, .int x3)] [] 175 M (fX5_seek_29 k17 n9 M x1 x2 x3) := by
  intro n9
  induction n9 with
  | zero => intros; exact V_none
  | succ n9 ih =>
    intro M x1 x2 x3 f1 hI
    refine V_iload_n (k := 3) dX5_seek_29 rfl rfl ?_
    refine V_aload_n (k := 1) dX5_seek_30 rfl rfl ?_
    refine V_geti dX5_seek_31 (v_LP f1).2.1 (v_LP f1).1 vf_X5_29 (by decide) ?_
    refine V_icmpge (tgt := 87) dX5_seek_34 (by decide) (fun h4 => ?_) (fun h4 => ?_)
    · refine V_iinc (k := 2) (v := x2 + 1) (lv' := [(2, .int (x2 + 1)), (0, .ref 36), (1, .ref x1), (3, .int x3)]) dX5_seek_87 rfl rfl (by decide) rfl ?_
      refine V_goto (tgt := 17) dX5_seek_90 (by decide) ?_
      refine V_sub [1, 2, 0] rfl ?_
      exact hk17 M x1 (x2 + 1) f1 hI
    · refine V_aload_n (k := 0) dX5_seek_37 rfl rfl ?_
      refine V_getr (k := 37) dX5_seek_38 rfl (by decide) vf_X5_9 (by decide) (v_fin hI 44 rfl) ?_
      refine V_iload_n (k := 2) dX5_seek_41 rfl rfl ?_
      refine V_callSi (st0 := []) (kc' := 0) (ks' := 0) dX5_seek_42 lk_X5_34 rfl (cX10_at_ok M 37 x2 (v_isA_of (by decide) rfl) hI) rfl rfl (by decide) (by decide) (Nat.le_of_ble_eq_true rfl) (Or.inl rfl) rfl rfl (by decide) (by decide) (fun y5 M6 e7 hI8 => ?_)
      refine V_aload_n (k := 0) dX5_seek_45 rfl rfl ?_
      refine V_getr (k := 38) dX5_seek_46 rfl (by decide) vf_X5_15 (by decide) (v_fin hI8 45 rfl) ?_
      refine V_iload_n (k := 3) dX5_seek_49 rfl rfl ?_
      refine V_callSi (st0 := [.int y5]) (kc' := 0) (ks' := 0) dX5_seek_50 lk_X5_34 rfl (cX10_at_ok M6 38 x3 (v_isA_of (by decide) rfl) hI8) rfl rfl (by decide) (by decide) (Nat.le_of_ble_eq_true rfl) (Or.inl rfl) rfl rfl (by decide) (by decide) (fun y9 M10 e11 hI12 => ?_)
      refine V_imul dX5_seek_53 ?_
      refine V_istore (lv' := [(4, .int (y5 * y9)), (0, .ref 36), (1, .ref x1), (2, .int x2), (3, .int x3)]) dX5_seek_54 (by decide) rfl ?_
      refine V_iload (k := 0) dX5_seek_56 rfl ?_
      refine V_aload_n (k := 1) dX5_seek_58 rfl rfl ?_
      refine V_geti dX5_seek_59 rfl (by decide) vf_X5_25 (by decide) ?_
      refine V_icmple (tgt := 81) dX5_seek_62 (by decide) (fun h13 => ?_) (fun h13 => ?_)
      · refine V_iinc (k := 4) (v := x3 + 1) (lv' := [(3, .int (x3 + 1)), (4, .int (y5 * y9)), (0, .ref 36), (1, .ref x1), (2, .int x2)]) dX5_seek_81 rfl rfl (by decide) rfl ?_
        refine V_goto (tgt := 29) dX5_seek_84 (by decide) ?_
        refine V_sub [2, 3, 4, 0] rfl ?_
        exact ih M10 x1 x2 (x3 + 1) f1 hI12
      · refine V_aload_n (k := 1) dX5_seek_65 rfl rfl ?_
        refine V_iload_n (k := 3) dX5_seek_66 rfl rfl ?_
        refine V_puti dX5_seek_67 rfl (by decide) vf_X5_38 (by decide) rfl rfl ?_
        refine V_aload_n (k := 1) dX5_seek_70 rfl rfl ?_
        refine V_iload_n (k := 4) dX5_seek_71 rfl rfl ?_
        refine V_puti dX5_seek_72 rfl (by decide) vf_X5_41 (by decide) rfl rfl ?_
        refine V_aload_n (k := 1) dX5_seek_75 rfl rfl ?_
        refine V_iload (k := 0) dX5_seek_76 rfl ?_
        refine V_puti dX5_seek_78 rfl (by decide) vf_X5_25 (by decide) rfl rfl ?_
        refine V_iinc (k := 4) (v := x3 + 1) (lv' := [(3, .int (x3 + 1)), (4, .int (y5 * y9)), (0, .ref 36), (1, .ref x1), (2, .int x2)]) dX5_seek_81 rfl rfl (by decide) rfl ?_
        refine V_goto (tgt := 29) dX5_seek_84 (by decide) ?_
        refine V_sub [2, 3, 4, 0] rfl ?_
        exact ih (v_si (v_si (v_si M10 36 2 x2) 36 3 x3) 36 4 (y5 * y9)) x1 x2 (x3 + 1) f1 hI12
def fX5_seek_17 : Nat → vM → Nat → Int32 → Option (vR × vM)
  | 0, _, _, _ => none
  | n9 + 1, M, x1, x2 => if (M.1 x1 1) ≤ x2 then rV M else fX5_seek_29 (fX5_seek_17 n9) FU M x1 x2 (x2 + 1)
set_option maxRecDepth 20000 in
set_option maxHeartbeats 2000000 in
theorem vX5_seek_17 {l : Launch} {D : va_G} {dA : Nat → ClassId} : ∀ (n9 : Nat) (M : vM) (x1 : Nat) (x2 : Int32) (f1 : v_isP x1), v_WT M.2.2 → V l D dA sX5_seek false 175 4 0 0 17 [(0, .ref 36), (1, .ref x1), (2, .int x2)] [] 175 M (fX5_seek_17 n9 M x1 x2) := by
  intro n9
  induction n9 with
  | zero => intros; exact V_none
  | succ n9 ih =>
    intro M x1 x2 f1 hI
    refine V_iload_n (k := 2) dX5_seek_17 rfl rfl ?_
    refine V_aload_n (k := 1) dX5_seek_18 rfl rfl ?_
    refine V_geti dX5_seek_19 (v_LP f1).2.1 (v_LP f1).1 vf_X5_29 (by decide) ?_
    refine V_icmpge (tgt := 93) dX5_seek_22 (by decide) (fun h14 => ?_) (fun h14 => ?_)
    · exact V_ret (fun _ => hI) (Or.inl ⟨rfl, rfl⟩) dX5_seek_93 (fun ty x h1 h2 => by cases h1) rfl
    · refine V_iload_n (k := 2) dX5_seek_25 rfl rfl ?_
      refine V_iconst (v := 1) dX5_seek_26 rfl ?_
      refine V_iadd dX5_seek_27 ?_
      refine V_istore_n (lv' := [(3, .int (x2 + 1)), (0, .ref 36), (1, .ref x1), (2, .int x2)]) dX5_seek_28 rfl (by decide) rfl ?_
      refine V_sub [1, 2, 3, 0] rfl ?_
      exact vX5_seek_29 (ih) FU M x1 x2 (x2 + 1) f1 hI
def fX5_seek (M : vM) (x1 : Nat) : Option (vR × vM) := bv (fX5_countInto M x1) fun M15 => bv (fX5_countOnward M15 x1) fun M18 => fX5_seek_17 FU (v_si M18 36 4 ((-1))) x1 0
set_option maxRecDepth 20000 in
set_option maxHeartbeats 2000000 in
theorem cX5_seek_ok {l : Launch} {D : va_G} {dA : Nat → ClassId} (M : vM) (x1 : Nat) (f1 : v_isP x1) (hI : v_WT M.2.2) : Ct l D dA sX5_seek false 175 4 0 0 175 [.ref 36, .ref x1] M (fX5_seek M x1) := by
  refine Ct_of (lv := [(0, .ref 36), (1, .ref x1)]) (by decide +kernel) rfl (Nat.le_of_ble_eq_true rfl) rfl (fun h => by cases h) ?_
  refine V_aload_n (k := 0) dX5_seek_0 rfl rfl ?_
  refine V_aload_n (k := 1) dX5_seek_1 rfl rfl ?_
  refine V_callVv (q := (RX5, TX5, 5)) (cls := 5) (st0 := []) (kc' := 0) (ks' := 0) dX5_seek_2 lk_X5_18 rfl (by decide) rfl rfl rfl (cX5_countInto_ok M x1 f1 hI) rfl rfl (by decide) (by decide) (Nat.le_of_ble_eq_true rfl) (Or.inl rfl) rfl rfl (by decide) (by decide) (fun  M15 e16 hI17 => ?_)
  refine V_aload_n (k := 0) dX5_seek_5 rfl rfl ?_
  refine V_aload_n (k := 1) dX5_seek_6 rfl rfl ?_
  refine V_callVv (q := (RX5, TX5, 5)) (cls := 5) (st0 := []) (kc' := 0) (ks' := 0) dX5_seek_7 lk_X5_22 rfl (by decide) rfl rfl rfl (cX5_countOnward_ok M15 x1 f1 hI17) rfl rfl (by decide) (by decide) (Nat.le_of_ble_eq_true rfl) (Or.inl rfl) rfl rfl (by decide) (by decide) (fun  M18 e19 hI20 => ?_)
  refine V_aload_n (k := 0) dX5_seek_10 rfl rfl ?_
  refine V_iconst (v := (-1)) dX5_seek_11 rfl ?_
  refine V_puti dX5_seek_12 rfl (by decide) vf_X5_25 (by decide) rfl rfl ?_
  refine V_iconst (v := 0) dX5_seek_15 rfl ?_
  refine V_istore_n (lv' := [(2, .int 0), (0, .ref 36), (1, .ref x1)]) dX5_seek_16 rfl (by decide) rfl ?_
  refine V_sub [1, 2, 0] rfl ?_
  exact vX5_seek_17 FU (v_si M18 36 4 ((-1))) x1 0 f1 hI20
def fX10_more (M : vM) (x1 : Int32) (x2 : Int32) : Option (vR × vM) := br (fX10_workOf M x1) fun y4 M5 => bv (fX10_refuseUnlessWhat M5 x2 3) fun M8 => if (M8.1 (M8.2.2 y4 0 - 1) 0) = 0 then bv (fX5_seek M8 (M8.2.2 y4 0 - 1)) fun M12 => if x2 = 0 then rI (M12.1 36 2) M12 else if x2 = 1 then rI (M12.1 36 3) M12 else rI ((M12.1 y4 1) + (M12.1 36 4)) M12 else rT 1 M8
set_option maxRecDepth 20000 in
set_option maxHeartbeats 2000000 in
theorem cX10_more_ok {l : Launch} {D : va_G} {dA : Nat → ClassId} (hT : l.stackTraces = false) (M : vM) (x1 : Int32) (x2 : Int32) (hI : v_WT M.2.2) : Ct l D dA sX10_more false 175 7 3 18 175 [.ref 0, .int x1, .int x2] M (fX10_more M x1 x2) := by
  refine Ct_of (lv := [(0, .ref 0), (1, .int x1), (2, .int x2)]) (by decide +kernel) rfl (Nat.le_of_ble_eq_true rfl) rfl (fun h => by cases h) ?_
  refine V_aload_n (k := 0) dX10_more_0 rfl rfl ?_
  refine V_iload_n (k := 1) dX10_more_1 rfl rfl ?_
  refine V_callVr (q := (RX10, TX10, 15)) (cls := 10) (st0 := []) (kc' := 2) (ks' := 12) dX10_more_2 lk_X10_158 rfl (by decide) rfl rfl rfl (cX10_workOf_ok hT M x1 hI) rfl rfl (by decide) (by decide) (Nat.le_of_ble_eq_true rfl) (Or.inl rfl) rfl rfl (by decide) (by decide) (fun y4 M5 e6 hI7 => ?_)
  have wy4 := wX10_workOf_ret e6
  refine V_astore_n (lv' := [(3, .ref y4), (0, .ref 0), (1, .int x1), (2, .int x2)]) dX10_more_5 rfl (by decide) rfl ?_
  refine V_iload_n (k := 3) dX10_more_6 rfl rfl ?_
  refine V_iconst (v := 3) dX10_more_7 rfl ?_
  refine V_callSv (st0 := []) (kc' := 1) (ks' := 6) dX10_more_8 lk_X10_212 rfl (cX10_refuseUnlessWhat_ok hT M5 x2 3 hI7) rfl rfl (by decide) (by decide) (Nat.le_of_ble_eq_true rfl) (Or.inl rfl) rfl rfl (by decide) (by decide) (fun  M8 e9 hI10 => ?_)
  refine V_aload_n (k := 0) dX10_more_11 rfl rfl ?_
  refine V_getr (k := M8.2.2 y4 0 - 1) dX10_more_12 (v_LW wy4).2.1 (v_LW wy4).1 vf_X10_132 (by decide) (v_pln hI10 wy4) ?_
  refine V_geti dX10_more_15 (v_LP (v_plnP hI10 wy4)).2.1 (v_LP (v_plnP hI10 wy4)).1 vf_X10_162 (by decide) ?_
  refine V_ifeq (tgt := 32) dX10_more_18 (by decide) (fun h11 => ?_) (fun h11 => ?_)
  · refine V_aload_n (k := 1) dX10_more_32 rfl rfl ?_
    refine V_getr (k := 36) dX10_more_33 rfl (by decide) vf_X10_78 (by decide) (v_fin hI10 10 rfl) ?_
    refine V_aload_n (k := 0) dX10_more_36 rfl rfl ?_
    refine V_getr (k := M8.2.2 y4 0 - 1) dX10_more_37 (v_LW wy4).2.1 (v_LW wy4).1 vf_X10_132 (by decide) (v_pln hI10 wy4) ?_
    refine V_callVv (q := (RX5, TX5, 5)) (cls := 5) (st0 := []) (kc' := 1) (ks' := 6) dX10_more_40 lk_X10_333 rfl (by decide) rfl rfl rfl (cX5_seek_ok M8 (M8.2.2 y4 0 - 1) (v_plnP hI10 wy4) hI10) rfl rfl (by decide) (by decide) (Nat.le_of_ble_eq_true rfl) (Or.inl rfl) rfl rfl (by decide) (by decide) (fun  M12 e13 hI14 => ?_)
    refine V_iload_n (k := 3) dX10_more_43 rfl rfl ?_
    refine V_lcase (k := 0) (tgt := 72) dX10_more_44 (by decide) rfl (by decide) (fun h15 => ?_) (fun h15 => ?_)
    · refine V_aload_n (k := 1) dX10_more_72 rfl rfl ?_
      refine V_getr (k := 36) dX10_more_73 rfl (by decide) vf_X10_78 (by decide) (v_fin hI14 10 rfl) ?_
      refine V_geti dX10_more_76 rfl (by decide) vf_X10_335 (by decide) ?_
      exact V_ret (fun _ => hI14) (Or.inr (Or.inl ⟨rfl, _, rfl⟩)) dX10_more_79 (fun ty x h1 h2 => by cases h1; rfl) rfl
    refine V_lcase (k := 1) (tgt := 80) dX10_more_44 (by decide) rfl (by decide) (fun h16 => ?_) (fun h16 => ?_)
    · refine V_aload_n (k := 1) dX10_more_80 rfl rfl ?_
      refine V_getr (k := 36) dX10_more_81 rfl (by decide) vf_X10_78 (by decide) (v_fin hI14 10 rfl) ?_
      refine V_geti dX10_more_84 rfl (by decide) vf_X10_338 (by decide) ?_
      exact V_ret (fun _ => hI14) (Or.inr (Or.inl ⟨rfl, _, rfl⟩)) dX10_more_87 (fun ty x h1 h2 => by cases h1; rfl) rfl
    refine V_ldef (off := 44) (tgt := 88) dX10_more_44 (by decide) (by show Op.lookupswitch.offset [(0, 28), (1, 36)] 44 (x2).toInt = 44; rw [lv_osw (a := 0) h15 rfl]; rw [lv_osw (a := 1) h16 rfl]; rfl) (by decide) ?_
    refine V_aload_n (k := 0) dX10_more_88 rfl rfl ?_
    refine V_geti dX10_more_89 (v_LW wy4).2.1 (v_LW wy4).1 vf_X10_165 (by decide) ?_
    refine V_aload_n (k := 1) dX10_more_92 rfl rfl ?_
    refine V_getr (k := 36) dX10_more_93 rfl (by decide) vf_X10_78 (by decide) (v_fin hI14 10 rfl) ?_
    refine V_geti dX10_more_96 rfl (by decide) vf_X10_341 (by decide) ?_
    refine V_iadd dX10_more_99 ?_
    exact V_ret (fun _ => hI14) (Or.inr (Or.inl ⟨rfl, _, rfl⟩)) dX10_more_100 (fun ty x h1 h2 => by cases h1; rfl) rfl
  · exact V_throwNW (sid := 15) (text := "no net") (fun _ => hI10) hT rfl (by decide +kernel) dX10_more_21 dX10_more_24 dX10_more_25 dX10_more_28 dX10_more_31 rfl (by decide) (by decide) (by decide) (Nat.le_of_ble_eq_true rfl)
def fX10_near_34 : Nat → vM → Int32 → Nat → Int32 → Int32 → Int32 → Option (vR × vM)
  | 0, _, _, _, _, _, _ => none
  | n9 + 1, M, x3, x4, x5, x6, x7 => if (M.1 x4 1) ≤ x7 then rI x6 M else bi (fX9_markOf M x4 x7) fun y4 M5 => bi (fJ6_bitCount_0f7a4 M5 (y4 ^^^ x5)) fun y8 M9 => if x3 ≤ y8 then fX10_near_34 n9 M9 x3 x4 x5 x6 (x7 + 1) else fX10_near_34 n9 M9 x3 x4 x5 (x6 + 1) (x7 + 1)
set_option maxRecDepth 20000 in
set_option maxHeartbeats 2000000 in
theorem vX10_near_34 {l : Launch} {D : va_G} {dA : Nat → ClassId} (hT : l.stackTraces = false) : ∀ (n9 : Nat) (M : vM) (x3 : Int32) (x4 : Nat) (x5 : Int32) (x6 : Int32) (x7 : Int32) (f4 : v_isW x4), v_WT M.2.2 → V l D dA sX10_near false 175 7 0 0 34 [(3, .int x3), (4, .ref x4), (5, .int x5), (6, .int x6), (7, .int x7)] [] 175 M (fX10_near_34 n9 M x3 x4 x5 x6 x7) := by
  intro n9
  induction n9 with
  | zero => intros; exact V_none
  | succ n9 ih =>
    intro M x3 x4 x5 x6 x7 f4 hI
    refine V_iload (k := 4) dX10_near_34 rfl ?_
    refine V_aload (k := 1) dX10_near_36 rfl ?_
    refine V_geti dX10_near_38 (v_LW f4).2.1 (v_LW f4).1 vf_X10_165 (by decide) ?_
    refine V_icmpge (tgt := 70) dX10_near_41 (by decide) (fun h3 => ?_) (fun h3 => ?_)
    · refine V_iload (k := 3) dX10_near_70 rfl ?_
      exact V_ret (fun _ => hI) (Or.inr (Or.inl ⟨rfl, _, rfl⟩)) dX10_near_72 (fun ty x h1 h2 => by cases h1; rfl) rfl
    · refine V_aload (k := 1) dX10_near_44 rfl ?_
      refine V_iload (k := 4) dX10_near_46 rfl ?_
      refine V_callVi (q := (RX9, TX9, 6)) (cls := 9) (st0 := []) (kc' := 0) (ks' := 0) dX10_near_48 lk_X10_199 rfl (v_LW f4).1 (v_LW f4).2.1 rfl rfl (cX9_markOf_ok M x4 x7 f4 hI) rfl rfl (by decide) (by decide) (Nat.le_of_ble_eq_true rfl) (Or.inl rfl) rfl rfl (by decide) (by decide) (fun y4 M5 e6 hI7 => ?_)
      refine V_iload (k := 2) dX10_near_51 rfl ?_
      refine V_ixor dX10_near_53 ?_
      refine V_callSi (st0 := []) (kc' := 0) (ks' := 0) dX10_near_54 lk_X10_216 rfl (cJ6_bitCount_0f7a4_ok M5 (y4 ^^^ x5) hI7) rfl rfl (by decide) (by decide) (Nat.le_of_ble_eq_true rfl) (Or.inl rfl) rfl rfl (by decide) (by decide) (fun y8 M9 e10 hI11 => ?_)
      refine V_iload_n (k := 0) dX10_near_57 rfl rfl ?_
      refine V_icmpge (tgt := 64) dX10_near_58 (by decide) (fun h12 => ?_) (fun h12 => ?_)
      · refine V_iinc (k := 4) (v := x7 + 1) (lv' := [(7, .int (x7 + 1)), (3, .int x3), (4, .ref x4), (5, .int x5), (6, .int x6)]) dX10_near_64 rfl rfl (by decide) rfl ?_
        refine V_goto (tgt := 34) dX10_near_67 (by decide) ?_
        refine V_sub [1, 2, 3, 4, 0] rfl ?_
        exact ih M9 x3 x4 x5 x6 (x7 + 1) f4 hI11
      · refine V_iinc (k := 3) (v := x6 + 1) (lv' := [(6, .int (x6 + 1)), (3, .int x3), (4, .ref x4), (5, .int x5), (7, .int x7)]) dX10_near_61 rfl rfl (by decide) rfl ?_
        refine V_iinc (k := 4) (v := x7 + 1) (lv' := [(7, .int (x7 + 1)), (6, .int (x6 + 1)), (3, .int x3), (4, .ref x4), (5, .int x5)]) dX10_near_64 rfl rfl (by decide) rfl ?_
        refine V_goto (tgt := 34) dX10_near_67 (by decide) ?_
        refine V_sub [2, 3, 4, 1, 0] rfl ?_
        exact ih M9 x3 x4 x5 (x6 + 1) (x7 + 1) f4 hI11
def fX10_near (M : vM) (x1 : Int32) (x2 : Int32) (x3 : Int32) : Option (vR × vM) := br (fX10_workOf M x1) fun y13 M14 => bv (fX10_refuseUnlessWay M14 y13 x2) fun M17 => bv (fX10_refuseUnlessWithin M17 x3 0 30) fun M20 => bi (fX9_markOf M20 y13 x2) fun y23 M24 => fX10_near_34 FU M24 x3 y13 y23 0 0
set_option maxRecDepth 20000 in
set_option maxHeartbeats 2000000 in
theorem cX10_near_ok {l : Launch} {D : va_G} {dA : Nat → ClassId} (hT : l.stackTraces = false) (M : vM) (x1 : Int32) (x2 : Int32) (x3 : Int32) (hI : v_WT M.2.2) : Ct l D dA sX10_near false 175 7 3 18 175 [.ref 0, .int x1, .int x2, .int x3] M (fX10_near M x1 x2 x3) := by
  refine Ct_of (lv := [(0, .ref 0), (1, .int x1), (2, .int x2), (3, .int x3)]) (by decide +kernel) rfl (Nat.le_of_ble_eq_true rfl) rfl (fun h => by cases h) ?_
  refine V_aload_n (k := 0) dX10_near_0 rfl rfl ?_
  refine V_iload_n (k := 1) dX10_near_1 rfl rfl ?_
  refine V_callVr (q := (RX10, TX10, 15)) (cls := 10) (st0 := []) (kc' := 2) (ks' := 12) dX10_near_2 lk_X10_158 rfl (by decide) rfl rfl rfl (cX10_workOf_ok hT M x1 hI) rfl rfl (by decide) (by decide) (Nat.le_of_ble_eq_true rfl) (Or.inl rfl) rfl rfl (by decide) (by decide) (fun y13 M14 e15 hI16 => ?_)
  have wy13 := wX10_workOf_ret e15
  refine V_astore (lv' := [(4, .ref y13), (0, .ref 0), (1, .int x1), (2, .int x2), (3, .int x3)]) dX10_near_5 (by decide) rfl ?_
  refine V_aload (k := 0) dX10_near_7 rfl ?_
  refine V_iload_n (k := 3) dX10_near_9 rfl rfl ?_
  refine V_callSv (st0 := []) (kc' := 1) (ks' := 6) dX10_near_10 lk_X10_192 rfl (cX10_refuseUnlessWay_ok hT M14 y13 x2 wy13 hI16) rfl rfl (by decide) (by decide) (Nat.le_of_ble_eq_true rfl) (Or.inl rfl) rfl rfl (by decide) (by decide) (fun  M17 e18 hI19 => ?_)
  refine V_iload_n (k := 4) dX10_near_13 rfl rfl ?_
  refine V_iconst (v := 0) dX10_near_14 rfl ?_
  refine V_bipush (v := 30) dX10_near_15 rfl ?_
  refine V_callSv (st0 := []) (kc' := 0) (ks' := 0) dX10_near_17 lk_X10_254 rfl (cX10_refuseUnlessWithin_ok hT M17 x3 0 30 hI19) rfl rfl (by decide) (by decide) (Nat.le_of_ble_eq_true rfl) (Or.inl rfl) rfl rfl (by decide) (by decide) (fun  M20 e21 hI22 => ?_)
  refine V_aload (k := 0) dX10_near_20 rfl ?_
  refine V_iload_n (k := 3) dX10_near_22 rfl rfl ?_
  refine V_callVi (q := (RX9, TX9, 6)) (cls := 9) (st0 := []) (kc' := 0) (ks' := 0) dX10_near_23 lk_X10_199 rfl (v_LW wy13).1 (v_LW wy13).2.1 rfl rfl (cX9_markOf_ok M20 y13 x2 wy13 hI22) rfl rfl (by decide) (by decide) (Nat.le_of_ble_eq_true rfl) (Or.inl rfl) rfl rfl (by decide) (by decide) (fun y23 M24 e25 hI26 => ?_)
  refine V_istore (lv' := [(5, .int y23), (4, .ref y13), (0, .ref 0), (1, .int x1), (2, .int x2), (3, .int x3)]) dX10_near_26 (by decide) rfl ?_
  refine V_iconst (v := 0) dX10_near_28 rfl ?_
  refine V_istore (lv' := [(6, .int 0), (5, .int y23), (4, .ref y13), (0, .ref 0), (1, .int x1), (2, .int x2), (3, .int x3)]) dX10_near_29 (by decide) rfl ?_
  refine V_iconst (v := 0) dX10_near_31 rfl ?_
  refine V_istore (lv' := [(7, .int 0), (6, .int 0), (5, .int y23), (4, .ref y13), (0, .ref 0), (1, .int x1), (2, .int x2), (3, .int x3)]) dX10_near_32 (by decide) rfl ?_
  refine V_sub [7, 3, 2, 1, 0] rfl ?_
  exact vX10_near_34 hT FU M24 x3 y13 y23 0 0 wy13 hI26
def fX1_addPerson (M : vM) (x0 : Nat) (x1 : Int32) (x2 : Int32) : Option (vR × vM) := bi (fX1_peopleOf M x0 x1) fun y1 M2 => bv (fX10_put M2 (x0 + 6) ((x1 * 12) + y1) x2) fun M5 => bv (fX10_put M5 (x0 + 5) x1 (y1 + 1)) fun M8 => rI (y1 + 1) M8
set_option maxRecDepth 20000 in
set_option maxHeartbeats 2000000 in
theorem cX1_addPerson_ok {l : Launch} {D : va_G} {dA : Nat → ClassId} (M : vM) (x0 : Nat) (x1 : Int32) (x2 : Int32) (f0 : v_isG x0) (hI : v_WT M.2.2) : Ct l D dA sX1_addPerson false 175 3 0 0 175 [.ref x0, .int x1, .int x2] M (fX1_addPerson M x0 x1 x2) := by
  refine Ct_of (lv := [(0, .ref x0), (1, .int x1), (2, .int x2)]) (by decide +kernel) rfl (Nat.le_of_ble_eq_true rfl) rfl (fun h => by cases h) ?_
  refine V_aload_n (k := 0) dX1_addPerson_0 rfl rfl ?_
  refine V_iload_n (k := 1) dX1_addPerson_1 rfl rfl ?_
  refine V_callVi (q := (RX1, TX1, 9)) (cls := 1) (st0 := []) (kc' := 0) (ks' := 0) dX1_addPerson_2 lk_X1_67 rfl (v_LG f0).1 (v_LG f0).2.1 rfl rfl (cX1_peopleOf_ok M x0 x1 f0 hI) rfl rfl (by decide) (by decide) (Nat.le_of_ble_eq_true rfl) (Or.inl rfl) rfl rfl (by decide) (by decide) (fun y1 M2 e3 hI4 => ?_)
  refine V_istore_n (lv' := [(3, .int y1), (0, .ref x0), (1, .int x1), (2, .int x2)]) dX1_addPerson_5 rfl (by decide) rfl ?_
  refine V_aload_n (k := 1) dX1_addPerson_6 rfl rfl ?_
  refine V_getr (k := x0 + 6) dX1_addPerson_7 (v_LG f0).2.1 (v_LG f0).1 vf_X1_27 (by decide) (v_finG hI4 f0).2.2.2.2.2.1 ?_
  refine V_iload_n (k := 2) dX1_addPerson_10 rfl rfl ?_
  refine V_bipush (v := 12) dX1_addPerson_11 rfl ?_
  refine V_imul dX1_addPerson_13 ?_
  refine V_iload_n (k := 0) dX1_addPerson_14 rfl rfl ?_
  refine V_iadd dX1_addPerson_15 ?_
  refine V_iload_n (k := 3) dX1_addPerson_16 rfl rfl ?_
  refine V_callSv (st0 := []) (kc' := 0) (ks' := 0) dX1_addPerson_17 lk_X1_56 rfl (cX10_put_ok M2 (x0 + 6) ((x1 * 12) + y1) x2 (v_isA_of (v_LG f0).2.2.2.2.2.2.2.2.1 (v_LG f0).2.2.1.2.2.2.2.2.1) hI4) rfl rfl (by decide) (by decide) (Nat.le_of_ble_eq_true rfl) (Or.inl rfl) rfl rfl (by decide) (by decide) (fun  M5 e6 hI7 => ?_)
  refine V_aload_n (k := 1) dX1_addPerson_20 rfl rfl ?_
  refine V_getr (k := x0 + 5) dX1_addPerson_21 (v_LG f0).2.1 (v_LG f0).1 vf_X1_24 (by decide) (v_finG hI7 f0).2.2.2.2.1 ?_
  refine V_iload_n (k := 2) dX1_addPerson_24 rfl rfl ?_
  refine V_iload_n (k := 0) dX1_addPerson_25 rfl rfl ?_
  refine V_iconst (v := 1) dX1_addPerson_26 rfl ?_
  refine V_iadd dX1_addPerson_27 ?_
  refine V_callSv (st0 := []) (kc' := 0) (ks' := 0) dX1_addPerson_28 lk_X1_56 rfl (cX10_put_ok M5 (x0 + 5) x1 (y1 + 1) (v_isA_of (v_LG f0).2.2.2.2.2.2.2.1 (v_LG f0).2.2.1.2.2.2.2.1) hI7) rfl rfl (by decide) (by decide) (Nat.le_of_ble_eq_true rfl) (Or.inl rfl) rfl rfl (by decide) (by decide) (fun  M8 e9 hI10 => ?_)
  refine V_iload_n (k := 0) dX1_addPerson_31 rfl rfl ?_
  refine V_iconst (v := 1) dX1_addPerson_32 rfl ?_
  refine V_iadd dX1_addPerson_33 ?_
  exact V_ret (fun _ => hI10) (Or.inr (Or.inl ⟨rfl, _, rfl⟩)) dX1_addPerson_34 (fun ty x h1 h2 => by cases h1; rfl) rfl
def fX10_person_30 (M : vM) : Option (vR × vM) := bv (fX1_refuse M 6 3) fun M4 => rI ((-1)) M4
set_option maxRecDepth 20000 in
set_option maxHeartbeats 2000000 in
theorem vX10_person_30 {l : Launch} {D : va_G} {dA : Nat → ClassId} (hT : l.stackTraces = false) : ∀ (M : vM), v_WT M.2.2 → V l D dA sX10_person false 175 7 0 0 30 [(0, .ref 0)] [] 175 M (fX10_person_30 M) := by
  intro M hI
  refine V_aload_n (k := 0) dX10_person_30 rfl rfl ?_
  refine V_getr (k := 6) dX10_person_31 rfl (by decide) vf_X10_40 (by decide) (v_fin hI 4 rfl) ?_
  refine V_iconst (v := 3) dX10_person_34 rfl ?_
  refine V_callVv (q := (RX1, TX1, 9)) (cls := 1) (st0 := []) (kc' := 0) (ks' := 0) dX10_person_35 lk_X10_115 rfl (by decide) rfl rfl rfl (cX1_refuse_ok M 6 3 (Or.inl rfl) hI) rfl rfl (by decide) (by decide) (Nat.le_of_ble_eq_true rfl) (Or.inl rfl) rfl rfl (by decide) (by decide) (fun  M4 e5 hI6 => ?_)
  refine V_iconst (v := (-1)) dX10_person_38 rfl ?_
  exact V_ret (fun _ => hI6) (Or.inr (Or.inl ⟨rfl, _, rfl⟩)) dX10_person_39 (fun ty x h1 h2 => by cases h1; rfl) rfl
def fX10_person (M : vM) (x1 : Int32) (x2 : Int32) : Option (vR × vM) := br (fX10_workOf M x1) fun y7 M8 => if x2 < 0 then fX10_person_30 M8 else if 9999 < x2 then fX10_person_30 M8 else bi (fX1_peopleOf M8 6 x1) fun y13 M14 => if y13 < 12 then bi (fX1_addPerson M14 6 x1 x2) fun y18 M19 => rI y18 M19 else fX10_person_30 M14
set_option maxRecDepth 20000 in
set_option maxHeartbeats 2000000 in
theorem cX10_person_ok {l : Launch} {D : va_G} {dA : Nat → ClassId} (hT : l.stackTraces = false) (M : vM) (x1 : Int32) (x2 : Int32) (hI : v_WT M.2.2) : Ct l D dA sX10_person false 175 7 1 6 175 [.ref 0, .int x1, .int x2] M (fX10_person M x1 x2) := by
  refine Ct_of (lv := [(0, .ref 0), (1, .int x1), (2, .int x2)]) (by decide +kernel) rfl (Nat.le_of_ble_eq_true rfl) rfl (fun h => by cases h) ?_
  refine V_aload_n (k := 0) dX10_person_0 rfl rfl ?_
  refine V_iload_n (k := 1) dX10_person_1 rfl rfl ?_
  refine V_callVr (q := (RX10, TX10, 15)) (cls := 10) (st0 := []) (kc' := 0) (ks' := 0) dX10_person_2 lk_X10_158 rfl (by decide) rfl rfl rfl (cX10_workOf_ok hT M x1 hI) rfl rfl (by decide) (by decide) (Nat.le_of_ble_eq_true rfl) (Or.inl rfl) rfl rfl (by decide) (by decide) (fun y7 M8 e9 hI10 => ?_)
  have wy7 := wX10_workOf_ret e9
  refine V_pop dX10_person_5 rfl ?_
  refine V_iload_n (k := 2) dX10_person_6 rfl rfl ?_
  refine V_iflt (tgt := 30) dX10_person_7 (by decide) (fun h11 => ?_) (fun h11 => ?_)
  · refine V_sub [0] rfl ?_
    exact vX10_person_30 hT M8 hI10
  · refine V_iload_n (k := 2) dX10_person_10 rfl rfl ?_
    refine V_sipush (v := 9999) dX10_person_11 rfl ?_
    refine V_icmpgt (tgt := 30) dX10_person_14 (by decide) (fun h12 => ?_) (fun h12 => ?_)
    · refine V_sub [0] rfl ?_
      exact vX10_person_30 hT M8 hI10
    · refine V_aload_n (k := 0) dX10_person_17 rfl rfl ?_
      refine V_getr (k := 6) dX10_person_18 rfl (by decide) vf_X10_40 (by decide) (v_fin hI10 4 rfl) ?_
      refine V_iload_n (k := 1) dX10_person_21 rfl rfl ?_
      refine V_callVi (q := (RX1, TX1, 9)) (cls := 1) (st0 := []) (kc' := 0) (ks' := 0) dX10_person_22 lk_X10_189 rfl (by decide) rfl rfl rfl (cX1_peopleOf_ok M8 6 x1 (Or.inl rfl) hI10) rfl rfl (by decide) (by decide) (Nat.le_of_ble_eq_true rfl) (Or.inl rfl) rfl rfl (by decide) (by decide) (fun y13 M14 e15 hI16 => ?_)
      refine V_bipush (v := 12) dX10_person_25 rfl ?_
      refine V_icmplt (tgt := 40) dX10_person_27 (by decide) (fun h17 => ?_) (fun h17 => ?_)
      · refine V_aload_n (k := 0) dX10_person_40 rfl rfl ?_
        refine V_getr (k := 6) dX10_person_41 rfl (by decide) vf_X10_40 (by decide) (v_fin hI16 4 rfl) ?_
        refine V_iload_n (k := 1) dX10_person_44 rfl rfl ?_
        refine V_iload_n (k := 2) dX10_person_45 rfl rfl ?_
        refine V_callVi (q := (RX1, TX1, 9)) (cls := 1) (st0 := []) (kc' := 0) (ks' := 0) dX10_person_46 lk_X10_309 rfl (by decide) rfl rfl rfl (cX1_addPerson_ok M14 6 x1 x2 (Or.inl rfl) hI16) rfl rfl (by decide) (by decide) (Nat.le_of_ble_eq_true rfl) (Or.inl rfl) rfl rfl (by decide) (by decide) (fun y18 M19 e20 hI21 => ?_)
        exact V_ret (fun _ => hI21) (Or.inr (Or.inl ⟨rfl, _, rfl⟩)) dX10_person_49 (fun ty x h1 h2 => by cases h1; rfl) rfl
      · refine V_sub [0] rfl ?_
        exact vX10_person_30 hT M14 hI16
def fX9_unspendAll_10 : Nat → vM → Nat → Int32 → Option (vR × vM)
  | 0, _, _, _ => none
  | n9 + 1, M, x0, x1 => if (nI 1458) ≤ x1 then rV M else if v_in x1 1458 = true then fX9_unspendAll_10 n9 (v_si M (x0 + 8) (Int32.toNatClampNeg x1) (v_nz 0)) x0 (x1 + 1) else none
set_option maxRecDepth 20000 in
set_option maxHeartbeats 2000000 in
theorem vX9_unspendAll_10 {l : Launch} {D : va_G} {dA : Nat → ClassId} : ∀ (n9 : Nat) (M : vM) (x0 : Nat) (x1 : Int32) (f0 : v_isW x0), v_WT M.2.2 → V l D dA sX9_unspendAll false 175 1 0 0 10 [(0, .ref x0), (1, .int x1)] [] 175 M (fX9_unspendAll_10 n9 M x0 x1) := by
  intro n9
  induction n9 with
  | zero => intros; exact V_none
  | succ n9 ih =>
    intro M x0 x1 f0 hI
    refine V_iload_n (k := 1) dX9_unspendAll_10 rfl rfl ?_
    refine V_aload_n (k := 0) dX9_unspendAll_11 rfl rfl ?_
    refine V_getr (k := x0 + 8) dX9_unspendAll_12 (v_LW f0).2.1 (v_LW f0).1 vf_X9_15 (by decide) (v_finW hI f0).2 ?_
    refine V_alen dX9_unspendAll_15 (v_LW f0).2.2.2.1 (v_LW f0).2.2.2.2.2 (by decide) ?_
    refine V_icmpge (tgt := 32) dX9_unspendAll_16 (by decide) (fun h3 => ?_) (fun h3 => ?_)
    · exact V_ret (fun _ => hI) (Or.inl ⟨rfl, rfl⟩) dX9_unspendAll_32 (fun ty x h1 h2 => by cases h1) rfl
    · refine V_aload_n (k := 0) dX9_unspendAll_19 rfl rfl ?_
      refine V_getr (k := x0 + 8) dX9_unspendAll_20 (v_LW f0).2.1 (v_LW f0).1 vf_X9_15 (by decide) (v_finW hI f0).2 ?_
      refine V_iload_n (k := 1) dX9_unspendAll_23 rfl rfl ?_
      refine V_iconst (v := 0) dX9_unspendAll_24 rfl ?_
      refine V_zast dX9_unspendAll_25 (v_LW f0).2.2.2.1 (v_LW f0).2.2.2.2.2 (fun h4 => ?_)
      refine V_iinc (k := 1) (v := x1 + 1) (lv' := [(1, .int (x1 + 1)), (0, .ref x0)]) dX9_unspendAll_26 rfl rfl (by decide) rfl ?_
      refine V_goto (tgt := 10) dX9_unspendAll_29 (by decide) ?_
      refine V_sub [1, 0] rfl ?_
      exact ih (v_si M (x0 + 8) (Int32.toNatClampNeg x1) (v_nz 0)) x0 (x1 + 1) f0 hI
def fX9_unspendAll (M : vM) (x0 : Nat) : Option (vR × vM) := fX9_unspendAll_10 FU (v_si M x0 2 (M.1 x0 1)) x0 0
set_option maxRecDepth 20000 in
set_option maxHeartbeats 2000000 in
theorem cX9_unspendAll_ok {l : Launch} {D : va_G} {dA : Nat → ClassId} (M : vM) (x0 : Nat) (f0 : v_isW x0) (hI : v_WT M.2.2) : Ct l D dA sX9_unspendAll false 175 1 0 0 175 [.ref x0] M (fX9_unspendAll M x0) := by
  refine Ct_of (lv := [(0, .ref x0)]) (by decide +kernel) rfl (Nat.le_of_ble_eq_true rfl) rfl (fun h => by cases h) ?_
  refine V_aload_n (k := 0) dX9_unspendAll_0 rfl rfl ?_
  refine V_aload_n (k := 0) dX9_unspendAll_1 rfl rfl ?_
  refine V_geti dX9_unspendAll_2 (v_LW f0).2.1 (v_LW f0).1 vf_X9_23 (by decide) ?_
  refine V_puti dX9_unspendAll_5 (v_LW f0).2.1 (v_LW f0).1 vf_X9_121 (by decide) rfl rfl ?_
  refine V_iconst (v := 0) dX9_unspendAll_8 rfl ?_
  refine V_istore_n (lv' := [(1, .int 0), (0, .ref x0)]) dX9_unspendAll_9 rfl (by decide) rfl ?_
  refine V_sub [1, 0] rfl ?_
  exact vX9_unspendAll_10 FU (v_si M x0 2 (M.1 x0 1)) x0 0 f0 hI
def fX10_restore_47 : Nat → vM → Int32 → Option (vR × vM)
  | 0, _, _ => none
  | n9 + 1, M, x1 => if (M.1 6 0) ≤ x1 then rI 1 M else bi (fX1_bookWork M 6 x1) fun y9 M10 => if y9 < 0 then fX10_restore_47 n9 M10 (x1 + 1) else if (M10.1 0 12) ≤ y9 then fX10_restore_47 n9 M10 (x1 + 1) else if v_in y9 6 = true then bi (fX1_bookWay M10 6 x1) fun y16 M17 => bv (fX9_spendLike M17 (46 + 15 * (Int32.toNatClampNeg y9)) y16) fun M20 => fX10_restore_47 n9 M20 (x1 + 1) else none
set_option maxRecDepth 20000 in
set_option maxHeartbeats 2000000 in
theorem vX10_restore_47 {l : Launch} {D : va_G} {dA : Nat → ClassId} : ∀ (n9 : Nat) (M : vM) (x1 : Int32), v_WT M.2.2 → V l D dA sX10_restore false 175 5 0 0 47 [(0, .ref 0), (1, .int x1)] [] 175 M (fX10_restore_47 n9 M x1) := by
  intro n9
  induction n9 with
  | zero => intros; exact V_none
  | succ n9 ih =>
    intro M x1 hI
    refine V_iload_n (k := 1) dX10_restore_47 rfl rfl ?_
    refine V_aload_n (k := 0) dX10_restore_48 rfl rfl ?_
    refine V_getr (k := 6) dX10_restore_49 rfl (by decide) vf_X10_40 (by decide) (v_fin hI 4 rfl) ?_
    refine V_geti dX10_restore_52 rfl (by decide) vf_X10_146 (by decide) ?_
    refine V_icmpge (tgt := 102) dX10_restore_55 (by decide) (fun h8 => ?_) (fun h8 => ?_)
    · refine V_iconst (v := 1) dX10_restore_102 rfl ?_
      exact V_ret (fun _ => hI) (Or.inr (Or.inr (Or.inl ⟨rfl, _, rfl⟩))) dX10_restore_103 (fun ty x h1 h2 => by cases h1; cases h2; rfl) rfl
    · refine V_aload_n (k := 0) dX10_restore_58 rfl rfl ?_
      refine V_getr (k := 6) dX10_restore_59 rfl (by decide) vf_X10_40 (by decide) (v_fin hI 4 rfl) ?_
      refine V_iload_n (k := 1) dX10_restore_62 rfl rfl ?_
      refine V_callVi (q := (RX1, TX1, 9)) (cls := 1) (st0 := []) (kc' := 0) (ks' := 0) dX10_restore_63 lk_X10_237 rfl (by decide) rfl rfl rfl (cX1_bookWork_ok M 6 x1 (Or.inl rfl) hI) rfl rfl (by decide) (by decide) (Nat.le_of_ble_eq_true rfl) (Or.inl rfl) rfl rfl (by decide) (by decide) (fun y9 M10 e11 hI12 => ?_)
      refine V_istore_n (lv' := [(2, .int y9), (0, .ref 0), (1, .int x1)]) dX10_restore_66 rfl (by decide) rfl ?_
      refine V_iload_n (k := 0) dX10_restore_67 rfl rfl ?_
      refine V_iflt (tgt := 96) dX10_restore_68 (by decide) (fun h13 => ?_) (fun h13 => ?_)
      · refine V_iinc (k := 2) (v := x1 + 1) (lv' := [(1, .int (x1 + 1)), (2, .int y9), (0, .ref 0)]) dX10_restore_96 rfl rfl (by decide) rfl ?_
        refine V_goto (tgt := 47) dX10_restore_99 (by decide) ?_
        refine V_sub [2, 0] rfl ?_
        exact ih M10 (x1 + 1) hI12
      · refine V_iload_n (k := 0) dX10_restore_71 rfl rfl ?_
        refine V_aload_n (k := 1) dX10_restore_72 rfl rfl ?_
        refine V_geti dX10_restore_73 rfl (by decide) vf_X10_129 (by decide) ?_
        refine V_icmpge (tgt := 96) dX10_restore_76 (by decide) (fun h14 => ?_) (fun h14 => ?_)
        · refine V_iinc (k := 2) (v := x1 + 1) (lv' := [(1, .int (x1 + 1)), (2, .int y9), (0, .ref 0)]) dX10_restore_96 rfl rfl (by decide) rfl ?_
          refine V_goto (tgt := 47) dX10_restore_99 (by decide) ?_
          refine V_sub [2, 0] rfl ?_
          exact ih M10 (x1 + 1) hI12
        · refine V_aload_n (k := 1) dX10_restore_79 rfl rfl ?_
          refine V_getr (k := 5) dX10_restore_80 rfl (by decide) vf_X10_33 (by decide) (v_fin hI12 3 rfl) ?_
          refine V_iload_n (k := 0) dX10_restore_83 rfl rfl ?_
          refine V_aald (k := (46 + 15 * (Int32.toNatClampNeg y9))) dX10_restore_84 rfl (by decide) (by decide) rfl (fun h15 => v_wrk hI12 h15) (fun h15 => ?_)
          refine V_aload_n (k := 1) dX10_restore_85 rfl rfl ?_
          refine V_getr (k := 6) dX10_restore_86 rfl (by decide) vf_X10_40 (by decide) (v_fin hI12 4 rfl) ?_
          refine V_iload_n (k := 2) dX10_restore_89 rfl rfl ?_
          refine V_callVi (q := (RX1, TX1, 9)) (cls := 1) (st0 := [.ref (46 + 15 * (Int32.toNatClampNeg y9))]) (kc' := 0) (ks' := 0) dX10_restore_90 lk_X10_240 rfl (by decide) rfl rfl rfl (cX1_bookWay_ok M10 6 x1 (Or.inl rfl) hI12) rfl rfl (by decide) (by decide) (Nat.le_of_ble_eq_true rfl) (Or.inl rfl) rfl rfl (by decide) (by decide) (fun y16 M17 e18 hI19 => ?_)
          refine V_callVv (q := (RX9, TX9, 6)) (cls := 9) (st0 := []) (kc' := 0) (ks' := 0) dX10_restore_93 lk_X10_232 rfl (v_LW (v_wrkW h15)).1 (v_LW (v_wrkW h15)).2.1 rfl rfl (cX9_spendLike_ok M17 (46 + 15 * (Int32.toNatClampNeg y9)) y16 (v_wrkW h15) hI19) rfl rfl (by decide) (by decide) (Nat.le_of_ble_eq_true rfl) (Or.inl rfl) rfl rfl (by decide) (by decide) (fun  M20 e21 hI22 => ?_)
          refine V_iinc (k := 2) (v := x1 + 1) (lv' := [(1, .int (x1 + 1)), (2, .int y9), (0, .ref 0)]) dX10_restore_96 rfl rfl (by decide) rfl ?_
          refine V_goto (tgt := 47) dX10_restore_99 (by decide) ?_
          refine V_sub [2, 0] rfl ?_
          exact ih M20 (x1 + 1) hI22
def fX10_restore_22 : Nat → vM → Int32 → Option (vR × vM)
  | 0, _, _ => none
  | n9 + 1, M, x1 => if (M.1 0 12) ≤ x1 then fX10_restore_47 FU M 0 else if v_in x1 6 = true then bv (fX9_unspendAll M (46 + 15 * (Int32.toNatClampNeg x1))) fun M25 => fX10_restore_22 n9 M25 (x1 + 1) else none
set_option maxRecDepth 20000 in
set_option maxHeartbeats 2000000 in
theorem vX10_restore_22 {l : Launch} {D : va_G} {dA : Nat → ClassId} : ∀ (n9 : Nat) (M : vM) (x1 : Int32), v_WT M.2.2 → V l D dA sX10_restore false 175 5 0 0 22 [(0, .ref 0), (1, .int x1)] [] 175 M (fX10_restore_22 n9 M x1) := by
  intro n9
  induction n9 with
  | zero => intros; exact V_none
  | succ n9 ih =>
    intro M x1 hI
    refine V_iload_n (k := 1) dX10_restore_22 rfl rfl ?_
    refine V_aload_n (k := 0) dX10_restore_23 rfl rfl ?_
    refine V_geti dX10_restore_24 rfl (by decide) vf_X10_129 (by decide) ?_
    refine V_icmpge (tgt := 45) dX10_restore_27 (by decide) (fun h23 => ?_) (fun h23 => ?_)
    · refine V_iconst (v := 0) dX10_restore_45 rfl ?_
      refine V_istore_n (lv' := [(1, .int 0), (0, .ref 0)]) dX10_restore_46 rfl (by decide) rfl ?_
      refine V_sub [1, 0] rfl ?_
      exact vX10_restore_47 FU M 0 hI
    · refine V_aload_n (k := 0) dX10_restore_30 rfl rfl ?_
      refine V_getr (k := 5) dX10_restore_31 rfl (by decide) vf_X10_33 (by decide) (v_fin hI 3 rfl) ?_
      refine V_iload_n (k := 1) dX10_restore_34 rfl rfl ?_
      refine V_aald (k := (46 + 15 * (Int32.toNatClampNeg x1))) dX10_restore_35 rfl (by decide) (by decide) rfl (fun h24 => v_wrk hI h24) (fun h24 => ?_)
      refine V_callVv (q := (RX9, TX9, 6)) (cls := 9) (st0 := []) (kc' := 0) (ks' := 0) dX10_restore_36 lk_X10_356 rfl (v_LW (v_wrkW h24)).1 (v_LW (v_wrkW h24)).2.1 rfl rfl (cX9_unspendAll_ok M (46 + 15 * (Int32.toNatClampNeg x1)) (v_wrkW h24) hI) rfl rfl (by decide) (by decide) (Nat.le_of_ble_eq_true rfl) (Or.inl rfl) rfl rfl (by decide) (by decide) (fun  M25 e26 hI27 => ?_)
      refine V_iinc (k := 1) (v := x1 + 1) (lv' := [(1, .int (x1 + 1)), (0, .ref 0)]) dX10_restore_39 rfl rfl (by decide) rfl ?_
      refine V_goto (tgt := 22) dX10_restore_42 (by decide) ?_
      refine V_sub [1, 0] rfl ?_
      exact ih M25 (x1 + 1) hI27
def fX10_restore (M : vM) : Option (vR × vM) := if (M.1 0 14) = 0 then rI 0 M else bv (fX1_copy M 6 15) fun M29 => fX10_restore_22 FU M29 0
set_option maxRecDepth 20000 in
set_option maxHeartbeats 2000000 in
theorem cX10_restore_ok {l : Launch} {D : va_G} {dA : Nat → ClassId} (M : vM) (hI : v_WT M.2.2) : Ct l D dA sX10_restore false 175 5 0 0 175 [.ref 0] M (fX10_restore M) := by
  refine Ct_of (lv := [(0, .ref 0)]) (by decide +kernel) rfl (Nat.le_of_ble_eq_true rfl) rfl (fun h => by cases h) ?_
  refine V_aload_n (k := 0) dX10_restore_0 rfl rfl ?_
  refine V_geti dX10_restore_1 rfl (by decide) vf_X10_142 (by decide) ?_
  refine V_ifne (tgt := 9) dX10_restore_4 (by decide) (fun h28 => ?_) (fun h28 => ?_)
  · refine V_aload_n (k := 0) dX10_restore_9 rfl rfl ?_
    refine V_getr (k := 6) dX10_restore_10 rfl (by decide) vf_X10_40 (by decide) (v_fin hI 4 rfl) ?_
    refine V_aload_n (k := 0) dX10_restore_13 rfl rfl ?_
    refine V_getr (k := 15) dX10_restore_14 rfl (by decide) vf_X10_44 (by decide) (v_fin hI 5 rfl) ?_
    refine V_callVv (q := (RX1, TX1, 9)) (cls := 1) (st0 := []) (kc' := 0) (ks' := 0) dX10_restore_17 lk_X10_352 rfl (by decide) rfl rfl rfl (cX1_copy_ok M 6 15 (Or.inl rfl) (Or.inr rfl) hI) rfl rfl (by decide) (by decide) (Nat.le_of_ble_eq_true rfl) (Or.inl rfl) rfl rfl (by decide) (by decide) (fun  M29 e30 hI31 => ?_)
    refine V_iconst (v := 0) dX10_restore_20 rfl ?_
    refine V_istore_n (lv' := [(1, .int 0), (0, .ref 0)]) dX10_restore_21 rfl (by decide) rfl ?_
    refine V_sub [1, 0] rfl ?_
    exact vX10_restore_22 FU M29 0 hI31
  · refine V_iconst (v := 0) dX10_restore_7 rfl ?_
    exact V_ret (fun _ => hI) (Or.inr (Or.inr (Or.inl ⟨rfl, _, rfl⟩))) dX10_restore_8 (fun ty x h1 h2 => by cases h1; cases h2; rfl) rfl
def fX10_same (M : vM) (x1 : Int32) (x2 : Int32) (x3 : Int32) (x4 : Int32) : Option (vR × vM) := br (fX10_workOf M x1) fun y3 M4 => bv (fX10_refuseUnlessWay M4 y3 x2) fun M7 => bv (fX10_refuseUnlessWay M7 y3 x3) fun M10 => bv (fX10_refuseUnlessWhat M10 x4 2) fun M13 => bi (fX9_markOf M13 y3 x2) fun y16 M17 => bi (fX9_markOf M17 y3 x3) fun y20 M21 => if x4 = 0 then bi (fJ6_bitCount_0f7a4 M21 (y16 ^^^ y20)) fun y30 M31 => rI y30 M31 else bi (fX9_areSame M21 y3 y16 y20) fun y25 M26 => if y25 = 0 then rI 0 M26 else rI 1 M26
set_option maxRecDepth 20000 in
set_option maxHeartbeats 2000000 in
theorem cX10_same_ok {l : Launch} {D : va_G} {dA : Nat → ClassId} (hT : l.stackTraces = false) (M : vM) (x1 : Int32) (x2 : Int32) (x3 : Int32) (x4 : Int32) (hI : v_WT M.2.2) : Ct l D dA sX10_same false 175 7 4 24 175 [.ref 0, .int x1, .int x2, .int x3, .int x4] M (fX10_same M x1 x2 x3 x4) := by
  refine Ct_of (lv := [(0, .ref 0), (1, .int x1), (2, .int x2), (3, .int x3), (4, .int x4)]) (by decide +kernel) rfl (Nat.le_of_ble_eq_true rfl) rfl (fun h => by cases h) ?_
  refine V_aload_n (k := 0) dX10_same_0 rfl rfl ?_
  refine V_iload_n (k := 1) dX10_same_1 rfl rfl ?_
  refine V_callVr (q := (RX10, TX10, 15)) (cls := 10) (st0 := []) (kc' := 3) (ks' := 18) dX10_same_2 lk_X10_158 rfl (by decide) rfl rfl rfl (cX10_workOf_ok hT M x1 hI) rfl rfl (by decide) (by decide) (Nat.le_of_ble_eq_true rfl) (Or.inl rfl) rfl rfl (by decide) (by decide) (fun y3 M4 e5 hI6 => ?_)
  have wy3 := wX10_workOf_ret e5
  refine V_astore (lv' := [(5, .ref y3), (0, .ref 0), (1, .int x1), (2, .int x2), (3, .int x3), (4, .int x4)]) dX10_same_5 (by decide) rfl ?_
  refine V_aload (k := 0) dX10_same_7 rfl ?_
  refine V_iload_n (k := 3) dX10_same_9 rfl rfl ?_
  refine V_callSv (st0 := []) (kc' := 2) (ks' := 12) dX10_same_10 lk_X10_192 rfl (cX10_refuseUnlessWay_ok hT M4 y3 x2 wy3 hI6) rfl rfl (by decide) (by decide) (Nat.le_of_ble_eq_true rfl) (Or.inl rfl) rfl rfl (by decide) (by decide) (fun  M7 e8 hI9 => ?_)
  refine V_aload (k := 0) dX10_same_13 rfl ?_
  refine V_iload_n (k := 4) dX10_same_15 rfl rfl ?_
  refine V_callSv (st0 := []) (kc' := 1) (ks' := 6) dX10_same_16 lk_X10_192 rfl (cX10_refuseUnlessWay_ok hT M7 y3 x3 wy3 hI9) rfl rfl (by decide) (by decide) (Nat.le_of_ble_eq_true rfl) (Or.inl rfl) rfl rfl (by decide) (by decide) (fun  M10 e11 hI12 => ?_)
  refine V_iload (k := 5) dX10_same_19 rfl ?_
  refine V_iconst (v := 2) dX10_same_21 rfl ?_
  refine V_callSv (st0 := []) (kc' := 0) (ks' := 0) dX10_same_22 lk_X10_212 rfl (cX10_refuseUnlessWhat_ok hT M10 x4 2 hI12) rfl rfl (by decide) (by decide) (Nat.le_of_ble_eq_true rfl) (Or.inl rfl) rfl rfl (by decide) (by decide) (fun  M13 e14 hI15 => ?_)
  refine V_aload (k := 0) dX10_same_25 rfl ?_
  refine V_iload_n (k := 3) dX10_same_27 rfl rfl ?_
  refine V_callVi (q := (RX9, TX9, 6)) (cls := 9) (st0 := []) (kc' := 0) (ks' := 0) dX10_same_28 lk_X10_199 rfl (v_LW wy3).1 (v_LW wy3).2.1 rfl rfl (cX9_markOf_ok M13 y3 x2 wy3 hI15) rfl rfl (by decide) (by decide) (Nat.le_of_ble_eq_true rfl) (Or.inl rfl) rfl rfl (by decide) (by decide) (fun y16 M17 e18 hI19 => ?_)
  refine V_istore (lv' := [(6, .int y16), (5, .ref y3), (0, .ref 0), (1, .int x1), (2, .int x2), (3, .int x3), (4, .int x4)]) dX10_same_31 (by decide) rfl ?_
  refine V_aload (k := 1) dX10_same_33 rfl ?_
  refine V_iload_n (k := 5) dX10_same_35 rfl rfl ?_
  refine V_callVi (q := (RX9, TX9, 6)) (cls := 9) (st0 := []) (kc' := 0) (ks' := 0) dX10_same_36 lk_X10_199 rfl (v_LW wy3).1 (v_LW wy3).2.1 rfl rfl (cX9_markOf_ok M17 y3 x3 wy3 hI19) rfl rfl (by decide) (by decide) (Nat.le_of_ble_eq_true rfl) (Or.inl rfl) rfl rfl (by decide) (by decide) (fun y20 M21 e22 hI23 => ?_)
  refine V_istore (lv' := [(7, .int y20), (6, .int y16), (5, .ref y3), (0, .ref 0), (1, .int x1), (2, .int x2), (3, .int x3), (4, .int x4)]) dX10_same_39 (by decide) rfl ?_
  refine V_iload (k := 7) dX10_same_41 rfl ?_
  refine V_ifne (tgt := 55) dX10_same_43 (by decide) (fun h24 => ?_) (fun h24 => ?_)
  · refine V_aload (k := 2) dX10_same_55 rfl ?_
    refine V_iload (k := 1) dX10_same_57 rfl ?_
    refine V_iload (k := 0) dX10_same_59 rfl ?_
    refine V_callVi (q := (RX9, TX9, 6)) (cls := 9) (st0 := []) (kc' := 0) (ks' := 0) dX10_same_61 lk_X10_221 rfl (v_LW wy3).1 (v_LW wy3).2.1 rfl rfl (cX9_areSame_ok M21 y3 y16 y20 wy3 hI23) rfl rfl (by decide) (by decide) (Nat.le_of_ble_eq_true rfl) (Or.inl rfl) rfl rfl (by decide) (by decide) (fun y25 M26 e27 hI28 => ?_)
    refine V_ifeq (tgt := 71) dX10_same_64 (by decide) (fun h29 => ?_) (fun h29 => ?_)
    · refine V_iconst (v := 0) dX10_same_71 rfl ?_
      exact V_ret (fun _ => hI28) (Or.inr (Or.inl ⟨rfl, _, rfl⟩)) dX10_same_72 (fun ty x h1 h2 => by cases h1; rfl) rfl
    · refine V_iconst (v := 1) dX10_same_67 rfl ?_
      refine V_goto (tgt := 72) dX10_same_68 (by decide) ?_
      exact V_ret (fun _ => hI28) (Or.inr (Or.inl ⟨rfl, _, rfl⟩)) dX10_same_72 (fun ty x h1 h2 => by cases h1; rfl) rfl
  · refine V_iload (k := 1) dX10_same_46 rfl ?_
    refine V_iload (k := 0) dX10_same_48 rfl ?_
    refine V_ixor dX10_same_50 ?_
    refine V_callSi (st0 := []) (kc' := 0) (ks' := 0) dX10_same_51 lk_X10_216 rfl (cJ6_bitCount_0f7a4_ok M21 (y16 ^^^ y20) hI23) rfl rfl (by decide) (by decide) (Nat.le_of_ble_eq_true rfl) (Or.inl rfl) rfl rfl (by decide) (by decide) (fun y30 M31 e32 hI33 => ?_)
    exact V_ret (fun _ => hI33) (Or.inr (Or.inl ⟨rfl, _, rfl⟩)) dX10_same_54 (fun ty x h1 h2 => by cases h1; rfl) rfl
def fX9_addWay (M : vM) (x0 : Nat) (x1 : Int32) (x2 : Int32) : Option (vR × vM) := if (nI 1458) ≤ (M.1 x0 1) then rV M else if v_in (M.1 x0 1) 1458 = true then rV (v_si (v_sl M (x0 + 7) (Int32.toNatClampNeg (M.1 x0 1)) (((Int32.toInt64 x2) <<< (Int32.toInt64 20 &&& 63)) ||| (Int32.toInt64 x1))) x0 1 (((v_sl M (x0 + 7) (Int32.toNatClampNeg (M.1 x0 1)) (((Int32.toInt64 x2) <<< (Int32.toInt64 20 &&& 63)) ||| (Int32.toInt64 x1))).1 x0 1) + 1)) else none
set_option maxRecDepth 20000 in
set_option maxHeartbeats 2000000 in
theorem cX9_addWay_ok {l : Launch} {D : va_G} {dA : Nat → ClassId} (M : vM) (x0 : Nat) (x1 : Int32) (x2 : Int32) (f0 : v_isW x0) (hI : v_WT M.2.2) : Ct l D dA sX9_addWay false 175 1 0 0 175 [.ref x0, .int x1, .int x2] M (fX9_addWay M x0 x1 x2) := by
  refine Ct_of (lv := [(0, .ref x0), (1, .int x1), (2, .int x2)]) (by decide +kernel) rfl (Nat.le_of_ble_eq_true rfl) rfl (fun h => by cases h) ?_
  refine V_aload_n (k := 0) dX9_addWay_0 rfl rfl ?_
  refine V_geti dX9_addWay_1 (v_LW f0).2.1 (v_LW f0).1 vf_X9_23 (by decide) ?_
  refine V_aload_n (k := 0) dX9_addWay_4 rfl rfl ?_
  refine V_getr (k := x0 + 7) dX9_addWay_5 (v_LW f0).2.1 (v_LW f0).1 vf_X9_9 (by decide) (v_finW hI f0).1 ?_
  refine V_alen dX9_addWay_8 (v_LW f0).2.2.1 (v_LW f0).2.2.2.2.1 (by decide) ?_
  refine V_icmpge (tgt := 39) dX9_addWay_9 (by decide) (fun h3 => ?_) (fun h3 => ?_)
  · exact V_ret (fun _ => hI) (Or.inl ⟨rfl, rfl⟩) dX9_addWay_39 (fun ty x h1 h2 => by cases h1) rfl
  · refine V_aload_n (k := 0) dX9_addWay_12 rfl rfl ?_
    refine V_getr (k := x0 + 7) dX9_addWay_13 (v_LW f0).2.1 (v_LW f0).1 vf_X9_9 (by decide) (v_finW hI f0).1 ?_
    refine V_aload_n (k := 0) dX9_addWay_16 rfl rfl ?_
    refine V_geti dX9_addWay_17 (v_LW f0).2.1 (v_LW f0).1 vf_X9_23 (by decide) ?_
    refine V_iload_n (k := 2) dX9_addWay_20 rfl rfl ?_
    refine V_i2l dX9_addWay_21 ?_
    refine V_bipush (v := 20) dX9_addWay_22 rfl ?_
    refine V_lshl dX9_addWay_24 ?_
    refine V_iload_n (k := 1) dX9_addWay_25 rfl rfl ?_
    refine V_i2l dX9_addWay_26 ?_
    refine V_lor dX9_addWay_27 ?_
    refine V_last dX9_addWay_28 (v_LW f0).2.2.1 (v_LW f0).2.2.2.2.1 (fun h4 => ?_)
    refine V_aload_n (k := 0) dX9_addWay_29 rfl rfl ?_
    refine V_dup dX9_addWay_30 rfl ?_
    refine V_geti dX9_addWay_31 (v_LW f0).2.1 (v_LW f0).1 vf_X9_23 (by decide) ?_
    refine V_iconst (v := 1) dX9_addWay_34 rfl ?_
    refine V_iadd dX9_addWay_35 ?_
    refine V_puti dX9_addWay_36 (v_LW f0).2.1 (v_LW f0).1 vf_X9_23 (by decide) rfl rfl ?_
    exact V_ret (fun _ => hI) (Or.inl ⟨rfl, rfl⟩) dX9_addWay_39 (fun ty x h1 h2 => by cases h1) rfl
def fX9_walk_31 (self : vM → Nat → Int32 → Int32 → Int32 → Int32 → Option (vR × vM)) : Nat → vM → Nat → Int32 → Int32 → Int32 → Int32 → Int32 → Option (vR × vM)
  | 0, _, _, _, _, _, _, _ => none
  | n9 + 1, M, x0, x1, x2, x3, x4, x5 => if (M.1 (M.2.2 x0 0 - 1) 4) ≤ x5 then rV M else bi (fX3_startAt M (M.2.2 x0 0 - 1) x5) fun y6 M7 => if y6 = x1 then bi (fX3_endAt M7 (M7.2.2 x0 0 - 1) x5) fun y11 M12 => bi (fX3_costAt M12 (M12.2.2 x0 0 - 1) x5) fun y15 M16 => bv (self M16 x0 y11 (x2 ||| (1 <<< (x5 &&& (31 : Int32)))) (x3 + y15) (x4 + 1)) fun M19 => fX9_walk_31 self n9 M19 x0 x1 x2 x3 x4 (x5 + 1) else fX9_walk_31 self n9 M7 x0 x1 x2 x3 x4 (x5 + 1)
set_option maxRecDepth 20000 in
set_option maxHeartbeats 2000000 in
theorem vX9_walk_31 {l : Launch} {D : va_G} {dA : Nat → ClassId} {dd : Nat} {self : vM → Nat → Int32 → Int32 → Int32 → Int32 → Option (vR × vM)} (hself : ∀ (M : vM) (x0 : Nat) (x1 : Int32) (x2 : Int32) (x3 : Int32) (x4 : Int32) (f0 : v_isW x0), v_WT M.2.2 → Ct l D dA sX9_walk false 175 (3 + dd) 0 0 175 [.ref x0, .int x1, .int x2, .int x3, .int x4] M (self M x0 x1 x2 x3 x4)) : ∀ (n9 : Nat) (M : vM) (x0 : Nat) (x1 : Int32) (x2 : Int32) (x3 : Int32) (x4 : Int32) (x5 : Int32) (f0 : v_isW x0), v_WT M.2.2 → V l D dA sX9_walk false 175 (3 + dd + 1) 0 0 31 [(0, .ref x0), (1, .int x1), (2, .int x2), (3, .int x3), (4, .int x4), (5, .int x5)] [] 175 M (fX9_walk_31 self n9 M x0 x1 x2 x3 x4 x5) := by
  intro n9
  induction n9 with
  | zero => intros; exact V_none
  | succ n9 ih =>
    intro M x0 x1 x2 x3 x4 x5 f0 hI
    refine V_iload (k := 5) dX9_walk_31 rfl ?_
    refine V_aload_n (k := 0) dX9_walk_33 rfl rfl ?_
    refine V_getr (k := M.2.2 x0 0 - 1) dX9_walk_34 (v_LW f0).2.1 (v_LW f0).1 vf_X9_19 (by decide) (v_pln hI f0) ?_
    refine V_geti dX9_walk_37 (v_LP (v_plnP hI f0)).2.1 (v_LP (v_plnP hI f0)).1 vf_X9_62 (by decide) ?_
    refine V_icmpge (tgt := 96) dX9_walk_40 (by decide) (fun h5 => ?_) (fun h5 => ?_)
    · exact V_ret (fun _ => hI) (Or.inl ⟨rfl, rfl⟩) dX9_walk_96 (fun ty x h1 h2 => by cases h1) rfl
    · refine V_aload_n (k := 0) dX9_walk_43 rfl rfl ?_
      refine V_getr (k := M.2.2 x0 0 - 1) dX9_walk_44 (v_LW f0).2.1 (v_LW f0).1 vf_X9_19 (by decide) (v_pln hI f0) ?_
      refine V_iload (k := 5) dX9_walk_47 rfl ?_
      refine V_callVi (q := (RX3, TX3, 12)) (cls := 3) (st0 := []) (kc' := 0) (ks' := 0) dX9_walk_49 lk_X9_65 rfl (v_LP (v_plnP hI f0)).1 (v_LP (v_plnP hI f0)).2.1 rfl rfl (cX3_startAt_ok M (M.2.2 x0 0 - 1) x5 (v_plnP hI f0) hI) rfl rfl (by omega) (by decide) (Nat.le_of_ble_eq_true rfl) (Or.inl rfl) rfl rfl (by decide) (by decide) (fun y6 M7 e8 hI9 => ?_)
      refine V_iload_n (k := 1) dX9_walk_52 rfl rfl ?_
      refine V_icmpne (tgt := 90) dX9_walk_53 (by decide) (fun h10 => ?_) (fun h10 => ?_)
      · refine V_iinc (k := 5) (v := x5 + 1) (lv' := [(5, .int (x5 + 1)), (0, .ref x0), (1, .int x1), (2, .int x2), (3, .int x3), (4, .int x4)]) dX9_walk_90 rfl rfl (by decide) rfl ?_
        refine V_goto (tgt := 31) dX9_walk_93 (by decide) ?_
        refine V_sub [1, 2, 3, 4, 5, 0] rfl ?_
        exact ih M7 x0 x1 x2 x3 x4 (x5 + 1) f0 hI9
      · refine V_aload_n (k := 0) dX9_walk_56 rfl rfl ?_
        refine V_aload_n (k := 0) dX9_walk_57 rfl rfl ?_
        refine V_getr (k := M7.2.2 x0 0 - 1) dX9_walk_58 (v_LW f0).2.1 (v_LW f0).1 vf_X9_19 (by decide) (v_pln hI9 f0) ?_
        refine V_iload (k := 5) dX9_walk_61 rfl ?_
        refine V_callVi (q := (RX3, TX3, 12)) (cls := 3) (st0 := [.ref x0]) (kc' := 0) (ks' := 0) dX9_walk_63 lk_X9_69 rfl (v_LP (v_plnP hI9 f0)).1 (v_LP (v_plnP hI9 f0)).2.1 rfl rfl (cX3_endAt_ok M7 (M7.2.2 x0 0 - 1) x5 (v_plnP hI9 f0) hI9) rfl rfl (by omega) (by decide) (Nat.le_of_ble_eq_true rfl) (Or.inl rfl) rfl rfl (by decide) (by decide) (fun y11 M12 e13 hI14 => ?_)
        refine V_iload_n (k := 2) dX9_walk_66 rfl rfl ?_
        refine V_iconst (v := 1) dX9_walk_67 rfl ?_
        refine V_iload (k := 5) dX9_walk_68 rfl ?_
        refine V_ishl dX9_walk_70 ?_
        refine V_ior dX9_walk_71 ?_
        refine V_iload_n (k := 3) dX9_walk_72 rfl rfl ?_
        refine V_aload_n (k := 0) dX9_walk_73 rfl rfl ?_
        refine V_getr (k := M12.2.2 x0 0 - 1) dX9_walk_74 (v_LW f0).2.1 (v_LW f0).1 vf_X9_19 (by decide) (v_pln hI14 f0) ?_
        refine V_iload (k := 5) dX9_walk_77 rfl ?_
        refine V_callVi (q := (RX3, TX3, 12)) (cls := 3) (st0 := [.int x3, .int (x2 ||| (1 <<< (x5 &&& (31 : Int32)))), .int y11, .ref x0]) (kc' := 0) (ks' := 0) dX9_walk_79 lk_X9_72 rfl (v_LP (v_plnP hI14 f0)).1 (v_LP (v_plnP hI14 f0)).2.1 rfl rfl (cX3_costAt_ok M12 (M12.2.2 x0 0 - 1) x5 (v_plnP hI14 f0) hI14) rfl rfl (by omega) (by decide) (Nat.le_of_ble_eq_true rfl) (Or.inl rfl) rfl rfl (by decide) (by decide) (fun y15 M16 e17 hI18 => ?_)
        refine V_iadd dX9_walk_82 ?_
        refine V_iload (k := 4) dX9_walk_83 rfl ?_
        refine V_iconst (v := 1) dX9_walk_85 rfl ?_
        refine V_iadd dX9_walk_86 ?_
        refine V_callVv (q := (RX9, TX9, 6)) (cls := 9) (st0 := []) (kc' := 0) (ks' := 0) dX9_walk_87 lk_X9_32 rfl (v_LW f0).1 (v_LW f0).2.1 rfl rfl (hself M16 x0 y11 (x2 ||| (1 <<< (x5 &&& (31 : Int32)))) (x3 + y15) (x4 + 1) f0 hI18) rfl rfl (by omega) (by decide) (Nat.le_of_ble_eq_true rfl) (Or.inl rfl) rfl rfl (by decide) (by decide) (fun  M19 e20 hI21 => ?_)
        refine V_iinc (k := 5) (v := x5 + 1) (lv' := [(5, .int (x5 + 1)), (0, .ref x0), (1, .int x1), (2, .int x2), (3, .int x3), (4, .int x4)]) dX9_walk_90 rfl rfl (by decide) rfl ?_
        refine V_goto (tgt := 31) dX9_walk_93 (by decide) ?_
        refine V_sub [1, 2, 3, 4, 5, 0] rfl ?_
        exact ih M19 x0 x1 x2 x3 x4 (x5 + 1) f0 hI21
def fX9_walk_b (self : vM → Nat → Int32 → Int32 → Int32 → Int32 → Option (vR × vM)) (M : vM) (x0 : Nat) (x1 : Int32) (x2 : Int32) (x3 : Int32) (x4 : Int32) : Option (vR × vM) := if x1 = ((M.1 (M.2.2 x0 0 - 1) 1) - 1) then bv (fX9_addWay M x0 x2 x3) fun M24 => rV M24 else if x4 < 12 then fX9_walk_31 self FU M x0 x1 x2 x3 x4 0 else rV M
def fX9_walk_r : Nat → vM → Nat → Int32 → Int32 → Int32 → Int32 → Option (vR × vM)
  | 0, _, _, _, _, _, _ => none
  | d9 + 1, M, x0, x1, x2, x3, x4 => fX9_walk_b (fX9_walk_r d9) M x0 x1 x2 x3 x4
def fX9_walk (M : vM) (x0 : Nat) (x1 : Int32) (x2 : Int32) (x3 : Int32) (x4 : Int32) : Option (vR × vM) := fX9_walk_r 14 M x0 x1 x2 x3 x4
set_option maxRecDepth 20000 in
set_option maxHeartbeats 2000000 in
theorem cX9_walk_b {l : Launch} {D : va_G} {dA : Nat → ClassId} {dd : Nat} {self : vM → Nat → Int32 → Int32 → Int32 → Int32 → Option (vR × vM)} (hself : ∀ (M : vM) (x0 : Nat) (x1 : Int32) (x2 : Int32) (x3 : Int32) (x4 : Int32) (f0 : v_isW x0), v_WT M.2.2 → Ct l D dA sX9_walk false 175 (3 + dd) 0 0 175 [.ref x0, .int x1, .int x2, .int x3, .int x4] M (self M x0 x1 x2 x3 x4)) (M : vM) (x0 : Nat) (x1 : Int32) (x2 : Int32) (x3 : Int32) (x4 : Int32) (f0 : v_isW x0) (hI : v_WT M.2.2) : Ct l D dA sX9_walk false 175 (3 + dd + 1) 0 0 175 [.ref x0, .int x1, .int x2, .int x3, .int x4] M (fX9_walk_b self M x0 x1 x2 x3 x4) := by
  refine Ct_of (lv := [(0, .ref x0), (1, .int x1), (2, .int x2), (3, .int x3), (4, .int x4)]) (by decide +kernel) rfl (Nat.le_of_ble_eq_true rfl) rfl (fun h => by cases h) ?_
  refine V_iload_n (k := 1) dX9_walk_0 rfl rfl ?_
  refine V_aload_n (k := 0) dX9_walk_1 rfl rfl ?_
  refine V_getr (k := M.2.2 x0 0 - 1) dX9_walk_2 (v_LW f0).2.1 (v_LW f0).1 vf_X9_19 (by decide) (v_pln hI f0) ?_
  refine V_geti dX9_walk_5 (v_LP (v_plnP hI f0)).2.1 (v_LP (v_plnP hI f0)).1 vf_X9_55 (by decide) ?_
  refine V_iconst (v := 1) dX9_walk_8 rfl ?_
  refine V_isub dX9_walk_9 ?_
  refine V_icmpne (tgt := 20) dX9_walk_10 (by decide) (fun h22 => ?_) (fun h22 => ?_)
  · refine V_iload (k := 4) dX9_walk_20 rfl ?_
    refine V_bipush (v := 12) dX9_walk_22 rfl ?_
    refine V_icmplt (tgt := 28) dX9_walk_24 (by decide) (fun h23 => ?_) (fun h23 => ?_)
    · refine V_iconst (v := 0) dX9_walk_28 rfl ?_
      refine V_istore (lv' := [(5, .int 0), (0, .ref x0), (1, .int x1), (2, .int x2), (3, .int x3), (4, .int x4)]) dX9_walk_29 (by decide) rfl ?_
      refine V_sub [1, 2, 3, 4, 5, 0] rfl ?_
      exact vX9_walk_31 hself FU M x0 x1 x2 x3 x4 0 f0 hI
    · exact V_ret (fun _ => hI) (Or.inl ⟨rfl, rfl⟩) dX9_walk_27 (fun ty x h1 h2 => by cases h1) rfl
  · refine V_aload_n (k := 0) dX9_walk_13 rfl rfl ?_
    refine V_iload_n (k := 2) dX9_walk_14 rfl rfl ?_
    refine V_iload_n (k := 3) dX9_walk_15 rfl rfl ?_
    refine V_callVv (q := (RX9, TX9, 6)) (cls := 9) (st0 := []) (kc' := 0) (ks' := 0) dX9_walk_16 lk_X9_58 rfl (v_LW f0).1 (v_LW f0).2.1 rfl rfl (cX9_addWay_ok M x0 x2 x3 f0 hI) rfl rfl (by omega) (by decide) (Nat.le_of_ble_eq_true rfl) (Or.inl rfl) rfl rfl (by decide) (by decide) (fun  M24 e25 hI26 => ?_)
    exact V_ret (fun _ => hI26) (Or.inl ⟨rfl, rfl⟩) dX9_walk_19 (fun ty x h1 h2 => by cases h1) rfl
theorem cX9_walk_r {l : Launch} {D : va_G} {dA : Nat → ClassId} : ∀ (d9 : Nat) (M : vM) (x0 : Nat) (x1 : Int32) (x2 : Int32) (x3 : Int32) (x4 : Int32) (f0 : v_isW x0), v_WT M.2.2 → Ct l D dA sX9_walk false 175 (3 + d9) 0 0 175 [.ref x0, .int x1, .int x2, .int x3, .int x4] M (fX9_walk_r d9 M x0 x1 x2 x3 x4) := by
  intro d9
  induction d9 with
  | zero => intros; intro r M9 h; cases h
  | succ d9 ih => exact fun M x0 x1 x2 x3 x4 f0 hI => cX9_walk_b (dd := d9) ih M x0 x1 x2 x3 x4 f0 hI
theorem cX9_walk_ok {l : Launch} {D : va_G} {dA : Nat → ClassId} (M : vM) (x0 : Nat) (x1 : Int32) (x2 : Int32) (x3 : Int32) (x4 : Int32) (f0 : v_isW x0) (hI : v_WT M.2.2) : Ct l D dA sX9_walk false 175 17 0 0 175 [.ref x0, .int x1, .int x2, .int x3, .int x4] M (fX9_walk M x0 x1 x2 x3 x4) := cX9_walk_r 14 M x0 x1 x2 x3 x4 f0 hI
def fX3_isChoice_36 (k15 : vM → Nat → Int32 → Int32 → Option (vR × vM)) (M : vM) (x0 : Nat) (x1 : Int32) (x2 : Int32) (s0 : Int32) : Option (vR × vM) := if s0 = 0 then k15 M x0 x1 (x2 + 1) else bi (fX10_at M (x0 + 4) x2) fun y8 M9 => if (y8 &&& (x1 ^^^ ((-1)))) = 0 then bi (fX10_at M9 (x0 + 5) x2) fun y13 M14 => if (y13 &&& x1) = 0 then k15 M14 x0 x1 (x2 + 1) else rI 0 M14 else rI 0 M9
set_option maxRecDepth 20000 in
set_option maxHeartbeats 2000000 in
theorem vX3_isChoice_36 {l : Launch} {D : va_G} {dA : Nat → ClassId} {k15 : vM → Nat → Int32 → Int32 → Option (vR × vM)} (hk15 : ∀ (M : vM) (x0 : Nat) (x1 : Int32) (x2 : Int32) (f0 : v_isP x0), v_WT M.2.2 → V l D dA sX3_isChoice false 175 2 0 0 15 [(0, .ref x0), (1, .int x1), (2, .int x2)] [] 175 M (k15 M x0 x1 x2)) : ∀ (M : vM) (x0 : Nat) (x1 : Int32) (x2 : Int32) (s0 : Int32) (f0 : v_isP x0), v_WT M.2.2 → V l D dA sX3_isChoice false 175 2 0 0 36 [(0, .ref x0), (1, .int x1), (2, .int x2)] [.int s0] 175 M (fX3_isChoice_36 k15 M x0 x1 x2 s0) := by
  intro M x0 x1 x2 s0 f0 hI
  refine V_istore_n (lv' := [(3, .int s0), (0, .ref x0), (1, .int x1), (2, .int x2)]) dX3_isChoice_36 rfl (by decide) rfl ?_
  refine V_iload_n (k := 0) dX3_isChoice_37 rfl rfl ?_
  refine V_ifeq (tgt := 71) dX3_isChoice_38 (by decide) (fun h7 => ?_) (fun h7 => ?_)
  · refine V_iinc (k := 3) (v := x2 + 1) (lv' := [(2, .int (x2 + 1)), (3, .int s0), (0, .ref x0), (1, .int x1)]) dX3_isChoice_71 rfl rfl (by decide) rfl ?_
    refine V_goto (tgt := 15) dX3_isChoice_74 (by decide) ?_
    refine V_sub [2, 3, 0] rfl ?_
    exact hk15 M x0 x1 (x2 + 1) f0 hI
  · refine V_aload_n (k := 1) dX3_isChoice_41 rfl rfl ?_
    refine V_getr (k := x0 + 4) dX3_isChoice_42 (v_LP f0).2.1 (v_LP f0).1 vf_X3_21 (by decide) (v_finP hI f0).2.2.2.1 ?_
    refine V_iload_n (k := 3) dX3_isChoice_45 rfl rfl ?_
    refine V_callSi (st0 := []) (kc' := 0) (ks' := 0) dX3_isChoice_46 lk_X3_59 rfl (cX10_at_ok M (x0 + 4) x2 (v_isA_of (v_LP f0).2.2.2.2.2.2.1 (v_LP f0).2.2.1.2.2.2.1) hI) rfl rfl (by decide) (by decide) (Nat.le_of_ble_eq_true rfl) (Or.inl rfl) rfl rfl (by decide) (by decide) (fun y8 M9 e10 hI11 => ?_)
    refine V_iload_n (k := 2) dX3_isChoice_49 rfl rfl ?_
    refine V_iconst (v := (-1)) dX3_isChoice_50 rfl ?_
    refine V_ixor dX3_isChoice_51 ?_
    refine V_iand dX3_isChoice_52 ?_
    refine V_ifne (tgt := 69) dX3_isChoice_53 (by decide) (fun h12 => ?_) (fun h12 => ?_)
    · refine V_iconst (v := 0) dX3_isChoice_69 rfl ?_
      exact V_ret (fun _ => hI11) (Or.inr (Or.inr (Or.inl ⟨rfl, _, rfl⟩))) dX3_isChoice_70 (fun ty x h1 h2 => by cases h1; cases h2; rfl) rfl
    · refine V_aload_n (k := 1) dX3_isChoice_56 rfl rfl ?_
      refine V_getr (k := x0 + 5) dX3_isChoice_57 (v_LP f0).2.1 (v_LP f0).1 vf_X3_24 (by decide) (v_finP hI11 f0).2.2.2.2 ?_
      refine V_iload_n (k := 3) dX3_isChoice_60 rfl rfl ?_
      refine V_callSi (st0 := []) (kc' := 0) (ks' := 0) dX3_isChoice_61 lk_X3_59 rfl (cX10_at_ok M9 (x0 + 5) x2 (v_isA_of (v_LP f0).2.2.2.2.2.2.2 (v_LP f0).2.2.1.2.2.2.2) hI11) rfl rfl (by decide) (by decide) (Nat.le_of_ble_eq_true rfl) (Or.inl rfl) rfl rfl (by decide) (by decide) (fun y13 M14 e15 hI16 => ?_)
      refine V_iload_n (k := 2) dX3_isChoice_64 rfl rfl ?_
      refine V_iand dX3_isChoice_65 ?_
      refine V_ifeq (tgt := 71) dX3_isChoice_66 (by decide) (fun h17 => ?_) (fun h17 => ?_)
      · refine V_iinc (k := 3) (v := x2 + 1) (lv' := [(2, .int (x2 + 1)), (3, .int s0), (0, .ref x0), (1, .int x1)]) dX3_isChoice_71 rfl rfl (by decide) rfl ?_
        refine V_goto (tgt := 15) dX3_isChoice_74 (by decide) ?_
        refine V_sub [2, 3, 0] rfl ?_
        exact hk15 M14 x0 x1 (x2 + 1) f0 hI16
      · refine V_iconst (v := 0) dX3_isChoice_69 rfl ?_
        exact V_ret (fun _ => hI16) (Or.inr (Or.inr (Or.inl ⟨rfl, _, rfl⟩))) dX3_isChoice_70 (fun ty x h1 h2 => by cases h1; cases h2; rfl) rfl
def fX3_isChoice_15 : Nat → vM → Nat → Int32 → Int32 → Option (vR × vM)
  | 0, _, _, _, _ => none
  | n9 + 1, M, x0, x1, x2 => if (M.1 x0 4) ≤ x2 then rI 1 M else if ((x1 >>> (x2 &&& (31 : Int32))) &&& 1) = 0 then fX3_isChoice_36 (fX3_isChoice_15 n9) M x0 x1 x2 0 else fX3_isChoice_36 (fX3_isChoice_15 n9) M x0 x1 x2 1
set_option maxRecDepth 20000 in
set_option maxHeartbeats 2000000 in
theorem vX3_isChoice_15 {l : Launch} {D : va_G} {dA : Nat → ClassId} : ∀ (n9 : Nat) (M : vM) (x0 : Nat) (x1 : Int32) (x2 : Int32) (f0 : v_isP x0), v_WT M.2.2 → V l D dA sX3_isChoice false 175 2 0 0 15 [(0, .ref x0), (1, .int x1), (2, .int x2)] [] 175 M (fX3_isChoice_15 n9 M x0 x1 x2) := by
  intro n9
  induction n9 with
  | zero => intros; exact V_none
  | succ n9 ih =>
    intro M x0 x1 x2 f0 hI
    refine V_iload_n (k := 2) dX3_isChoice_15 rfl rfl ?_
    refine V_aload_n (k := 0) dX3_isChoice_16 rfl rfl ?_
    refine V_geti dX3_isChoice_17 (v_LP f0).2.1 (v_LP f0).1 vf_X3_40 (by decide) ?_
    refine V_icmpge (tgt := 77) dX3_isChoice_20 (by decide) (fun h18 => ?_) (fun h18 => ?_)
    · refine V_iconst (v := 1) dX3_isChoice_77 rfl ?_
      exact V_ret (fun _ => hI) (Or.inr (Or.inr (Or.inl ⟨rfl, _, rfl⟩))) dX3_isChoice_78 (fun ty x h1 h2 => by cases h1; cases h2; rfl) rfl
    · refine V_iload_n (k := 1) dX3_isChoice_23 rfl rfl ?_
      refine V_iload_n (k := 2) dX3_isChoice_24 rfl rfl ?_
      refine V_ishr dX3_isChoice_25 ?_
      refine V_iconst (v := 1) dX3_isChoice_26 rfl ?_
      refine V_iand dX3_isChoice_27 ?_
      refine V_ifeq (tgt := 35) dX3_isChoice_28 (by decide) (fun h19 => ?_) (fun h19 => ?_)
      · refine V_iconst (v := 0) dX3_isChoice_35 rfl ?_
        refine V_sub [0, 1, 2] rfl ?_
        exact vX3_isChoice_36 (ih) M x0 x1 x2 0 f0 hI
      · refine V_iconst (v := 1) dX3_isChoice_31 rfl ?_
        refine V_goto (tgt := 36) dX3_isChoice_32 (by decide) ?_
        refine V_sub [0, 1, 2] rfl ?_
        exact vX3_isChoice_36 (ih) M x0 x1 x2 1 f0 hI
def fX3_isChoice (M : vM) (x0 : Nat) (x1 : Int32) : Option (vR × vM) := bi (fJ6_bitCount_0f7a4 M x1) fun y20 M21 => if y20 = (M21.1 x0 1) then fX3_isChoice_15 FU M21 x0 x1 0 else rI 0 M21
set_option maxRecDepth 20000 in
set_option maxHeartbeats 2000000 in
theorem cX3_isChoice_ok {l : Launch} {D : va_G} {dA : Nat → ClassId} (M : vM) (x0 : Nat) (x1 : Int32) (f0 : v_isP x0) (hI : v_WT M.2.2) : Ct l D dA sX3_isChoice false 175 2 0 0 175 [.ref x0, .int x1] M (fX3_isChoice M x0 x1) := by
  refine Ct_of (lv := [(0, .ref x0), (1, .int x1)]) (by decide +kernel) rfl (Nat.le_of_ble_eq_true rfl) rfl (fun h => by cases h) ?_
  refine V_iload_n (k := 1) dX3_isChoice_0 rfl rfl ?_
  refine V_callSi (st0 := []) (kc' := 0) (ks' := 0) dX3_isChoice_1 lk_X3_63 rfl (cJ6_bitCount_0f7a4_ok M x1 hI) rfl rfl (by decide) (by decide) (Nat.le_of_ble_eq_true rfl) (Or.inl rfl) rfl rfl (by decide) (by decide) (fun y20 M21 e22 hI23 => ?_)
  refine V_aload_n (k := 0) dX3_isChoice_4 rfl rfl ?_
  refine V_geti dX3_isChoice_5 (v_LP f0).2.1 (v_LP f0).1 vf_X3_31 (by decide) ?_
  refine V_icmpeq (tgt := 13) dX3_isChoice_8 (by decide) (fun h24 => ?_) (fun h24 => ?_)
  · refine V_iconst (v := 0) dX3_isChoice_13 rfl ?_
    refine V_istore_n (lv' := [(2, .int 0), (0, .ref x0), (1, .int x1)]) dX3_isChoice_14 rfl (by decide) rfl ?_
    refine V_sub [1, 2, 0] rfl ?_
    exact vX3_isChoice_15 FU M21 x0 x1 0 f0 hI23
  · refine V_iconst (v := 0) dX3_isChoice_11 rfl ?_
    exact V_ret (fun _ => hI23) (Or.inr (Or.inr (Or.inl ⟨rfl, _, rfl⟩))) dX3_isChoice_12 (fun ty x h1 h2 => by cases h1; cases h2; rfl) rfl
def fX9_choose_2 : Nat → vM → Nat → Int32 → Option (vR × vM)
  | 0, _, _, _ => none
  | n9 + 1, M, x0, x1 => if (1 <<< ((M.1 (M.2.2 x0 0 - 1) 4) &&& (31 : Int32))) ≤ x1 then rV M else if 4096 ≤ x1 then rV M else bi (fX3_isChoice M (M.2.2 x0 0 - 1) x1) fun y6 M7 => if y6 = 0 then fX9_choose_2 n9 M7 x0 (x1 + 1) else bi (fX3_greaterCosts M7 (M7.2.2 x0 0 - 1) (M7.2.2 x0 0 - 1) x1) fun y11 M12 => bv (fX9_addWay M12 x0 x1 y11) fun M15 => fX9_choose_2 n9 M15 x0 (x1 + 1)
set_option maxRecDepth 20000 in
set_option maxHeartbeats 2000000 in
theorem vX9_choose_2 {l : Launch} {D : va_G} {dA : Nat → ClassId} : ∀ (n9 : Nat) (M : vM) (x0 : Nat) (x1 : Int32) (f0 : v_isW x0), v_WT M.2.2 → V l D dA sX9_choose false 175 4 0 0 2 [(0, .ref x0), (1, .int x1)] [] 175 M (fX9_choose_2 n9 M x0 x1) := by
  intro n9
  induction n9 with
  | zero => intros; exact V_none
  | succ n9 ih =>
    intro M x0 x1 f0 hI
    refine V_iload_n (k := 1) dX9_choose_2 rfl rfl ?_
    refine V_iconst (v := 1) dX9_choose_3 rfl ?_
    refine V_aload_n (k := 0) dX9_choose_4 rfl rfl ?_
    refine V_getr (k := M.2.2 x0 0 - 1) dX9_choose_5 (v_LW f0).2.1 (v_LW f0).1 vf_X9_19 (by decide) (v_pln hI f0) ?_
    refine V_geti dX9_choose_8 (v_LP (v_plnP hI f0)).2.1 (v_LP (v_plnP hI f0)).1 vf_X9_62 (by decide) ?_
    refine V_ishl dX9_choose_11 ?_
    refine V_icmpge (tgt := 56) dX9_choose_12 (by decide) (fun h4 => ?_) (fun h4 => ?_)
    · exact V_ret (fun _ => hI) (Or.inl ⟨rfl, rfl⟩) dX9_choose_56 (fun ty x h1 h2 => by cases h1) rfl
    · refine V_iload_n (k := 1) dX9_choose_15 rfl rfl ?_
      refine V_sipush (v := 4096) dX9_choose_16 rfl ?_
      refine V_icmpge (tgt := 56) dX9_choose_19 (by decide) (fun h5 => ?_) (fun h5 => ?_)
      · exact V_ret (fun _ => hI) (Or.inl ⟨rfl, rfl⟩) dX9_choose_56 (fun ty x h1 h2 => by cases h1) rfl
      · refine V_aload_n (k := 0) dX9_choose_22 rfl rfl ?_
        refine V_getr (k := M.2.2 x0 0 - 1) dX9_choose_23 (v_LW f0).2.1 (v_LW f0).1 vf_X9_19 (by decide) (v_pln hI f0) ?_
        refine V_iload_n (k := 1) dX9_choose_26 rfl rfl ?_
        refine V_callVi (q := (RX3, TX3, 12)) (cls := 3) (st0 := []) (kc' := 0) (ks' := 0) dX9_choose_27 lk_X9_75 rfl (v_LP (v_plnP hI f0)).1 (v_LP (v_plnP hI f0)).2.1 rfl rfl (cX3_isChoice_ok M (M.2.2 x0 0 - 1) x1 (v_plnP hI f0) hI) rfl rfl (by decide) (by decide) (Nat.le_of_ble_eq_true rfl) (Or.inl rfl) rfl rfl (by decide) (by decide) (fun y6 M7 e8 hI9 => ?_)
        refine V_ifeq (tgt := 50) dX9_choose_30 (by decide) (fun h10 => ?_) (fun h10 => ?_)
        · refine V_iinc (k := 1) (v := x1 + 1) (lv' := [(1, .int (x1 + 1)), (0, .ref x0)]) dX9_choose_50 rfl rfl (by decide) rfl ?_
          refine V_goto (tgt := 2) dX9_choose_53 (by decide) ?_
          refine V_sub [1, 0] rfl ?_
          exact ih M7 x0 (x1 + 1) f0 hI9
        · refine V_aload_n (k := 0) dX9_choose_33 rfl rfl ?_
          refine V_iload_n (k := 1) dX9_choose_34 rfl rfl ?_
          refine V_aload_n (k := 0) dX9_choose_35 rfl rfl ?_
          refine V_getr (k := M7.2.2 x0 0 - 1) dX9_choose_36 (v_LW f0).2.1 (v_LW f0).1 vf_X9_19 (by decide) (v_pln hI9 f0) ?_
          refine V_aload_n (k := 0) dX9_choose_39 rfl rfl ?_
          refine V_getr (k := M7.2.2 x0 0 - 1) dX9_choose_40 (v_LW f0).2.1 (v_LW f0).1 vf_X9_19 (by decide) (v_pln hI9 f0) ?_
          refine V_iload_n (k := 1) dX9_choose_43 rfl rfl ?_
          refine V_callVi (q := (RX3, TX3, 12)) (cls := 3) (st0 := [.int x1, .ref x0]) (kc' := 0) (ks' := 0) dX9_choose_44 lk_X9_79 rfl (v_LP (v_plnP hI9 f0)).1 (v_LP (v_plnP hI9 f0)).2.1 rfl rfl (cX3_greaterCosts_ok M7 (M7.2.2 x0 0 - 1) (M7.2.2 x0 0 - 1) x1 (v_plnP hI9 f0) (v_plnP hI9 f0) hI9) rfl rfl (by decide) (by decide) (Nat.le_of_ble_eq_true rfl) (Or.inl rfl) rfl rfl (by decide) (by decide) (fun y11 M12 e13 hI14 => ?_)
          refine V_callVv (q := (RX9, TX9, 6)) (cls := 9) (st0 := []) (kc' := 0) (ks' := 0) dX9_choose_47 lk_X9_58 rfl (v_LW f0).1 (v_LW f0).2.1 rfl rfl (cX9_addWay_ok M12 x0 x1 y11 f0 hI14) rfl rfl (by decide) (by decide) (Nat.le_of_ble_eq_true rfl) (Or.inl rfl) rfl rfl (by decide) (by decide) (fun  M15 e16 hI17 => ?_)
          refine V_iinc (k := 1) (v := x1 + 1) (lv' := [(1, .int (x1 + 1)), (0, .ref x0)]) dX9_choose_50 rfl rfl (by decide) rfl ?_
          refine V_goto (tgt := 2) dX9_choose_53 (by decide) ?_
          refine V_sub [1, 0] rfl ?_
          exact ih M15 x0 (x1 + 1) f0 hI17
def fX9_choose (M : vM) (x0 : Nat) : Option (vR × vM) := fX9_choose_2 FU M x0 0
set_option maxRecDepth 20000 in
set_option maxHeartbeats 2000000 in
theorem cX9_choose_ok {l : Launch} {D : va_G} {dA : Nat → ClassId} (M : vM) (x0 : Nat) (f0 : v_isW x0) (hI : v_WT M.2.2) : Ct l D dA sX9_choose false 175 4 0 0 175 [.ref x0] M (fX9_choose M x0) := by
  refine Ct_of (lv := [(0, .ref x0)]) (by decide +kernel) rfl (Nat.le_of_ble_eq_true rfl) rfl (fun h => by cases h) ?_
  refine V_iconst (v := 0) dX9_choose_0 rfl ?_
  refine V_istore_n (lv' := [(1, .int 0), (0, .ref x0)]) dX9_choose_1 rfl (by decide) rfl ?_
  refine V_sub [1, 0] rfl ?_
  exact vX9_choose_2 FU M x0 0 f0 hI
def fX3_canFollow (M : vM) (x0 : Nat) (x1 : Int32) (x2 : Int32) : Option (vR × vM) := if ((x2 >>> (x1 &&& (31 : Int32))) &&& 1) = 0 then bi (fX10_at M (x0 + 4) x1) fun y4 M5 => if (y4 &&& (x2 ^^^ ((-1)))) = 0 then rI 1 M5 else rI 0 M5 else rI 0 M
set_option maxRecDepth 20000 in
set_option maxHeartbeats 2000000 in
theorem cX3_canFollow_ok {l : Launch} {D : va_G} {dA : Nat → ClassId} (M : vM) (x0 : Nat) (x1 : Int32) (x2 : Int32) (f0 : v_isP x0) (hI : v_WT M.2.2) : Ct l D dA sX3_canFollow false 175 2 0 0 175 [.ref x0, .int x1, .int x2] M (fX3_canFollow M x0 x1 x2) := by
  refine Ct_of (lv := [(0, .ref x0), (1, .int x1), (2, .int x2)]) (by decide +kernel) rfl (Nat.le_of_ble_eq_true rfl) rfl (fun h => by cases h) ?_
  refine V_iload_n (k := 2) dX3_canFollow_0 rfl rfl ?_
  refine V_iload_n (k := 1) dX3_canFollow_1 rfl rfl ?_
  refine V_ishr dX3_canFollow_2 ?_
  refine V_iconst (v := 1) dX3_canFollow_3 rfl ?_
  refine V_iand dX3_canFollow_4 ?_
  refine V_ifne (tgt := 27) dX3_canFollow_5 (by decide) (fun h3 => ?_) (fun h3 => ?_)
  · refine V_iconst (v := 0) dX3_canFollow_27 rfl ?_
    exact V_ret (fun _ => hI) (Or.inr (Or.inr (Or.inl ⟨rfl, _, rfl⟩))) dX3_canFollow_28 (fun ty x h1 h2 => by cases h1; cases h2; rfl) rfl
  · refine V_aload_n (k := 0) dX3_canFollow_8 rfl rfl ?_
    refine V_getr (k := x0 + 4) dX3_canFollow_9 (v_LP f0).2.1 (v_LP f0).1 vf_X3_21 (by decide) (v_finP hI f0).2.2.2.1 ?_
    refine V_iload_n (k := 1) dX3_canFollow_12 rfl rfl ?_
    refine V_callSi (st0 := []) (kc' := 0) (ks' := 0) dX3_canFollow_13 lk_X3_59 rfl (cX10_at_ok M (x0 + 4) x1 (v_isA_of (v_LP f0).2.2.2.2.2.2.1 (v_LP f0).2.2.1.2.2.2.1) hI) rfl rfl (by decide) (by decide) (Nat.le_of_ble_eq_true rfl) (Or.inl rfl) rfl rfl (by decide) (by decide) (fun y4 M5 e6 hI7 => ?_)
    refine V_iload_n (k := 2) dX3_canFollow_16 rfl rfl ?_
    refine V_iconst (v := (-1)) dX3_canFollow_17 rfl ?_
    refine V_ixor dX3_canFollow_18 ?_
    refine V_iand dX3_canFollow_19 ?_
    refine V_ifne (tgt := 27) dX3_canFollow_20 (by decide) (fun h8 => ?_) (fun h8 => ?_)
    · refine V_iconst (v := 0) dX3_canFollow_27 rfl ?_
      exact V_ret (fun _ => hI7) (Or.inr (Or.inr (Or.inl ⟨rfl, _, rfl⟩))) dX3_canFollow_28 (fun ty x h1 h2 => by cases h1; cases h2; rfl) rfl
    · refine V_iconst (v := 1) dX3_canFollow_23 rfl ?_
      refine V_goto (tgt := 28) dX3_canFollow_24 (by decide) ?_
      exact V_ret (fun _ => hI7) (Or.inr (Or.inr (Or.inl ⟨rfl, _, rfl⟩))) dX3_canFollow_28 (fun ty x h1 h2 => by cases h1; cases h2; rfl) rfl
def fX3_coupleBit (M : vM) (x0 : Int32) (x1 : Int32) : Option (vR × vM) := rI (1 <<< ((((x1 * (x1 - 1)) / 2) + x0) &&& (31 : Int32))) M
set_option maxRecDepth 20000 in
set_option maxHeartbeats 2000000 in
theorem cX3_coupleBit_ok {l : Launch} {D : va_G} {dA : Nat → ClassId} (M : vM) (x0 : Int32) (x1 : Int32) (hI : v_WT M.2.2) : Ct l D dA sX3_coupleBit false 175 1 0 0 175 [.int x0, .int x1] M (fX3_coupleBit M x0 x1) := by
  refine Ct_of (lv := [(0, .int x0), (1, .int x1)]) (by decide +kernel) rfl (Nat.le_of_ble_eq_true rfl) rfl (fun h => by cases h) ?_
  refine V_iconst (v := 1) dX3_coupleBit_0 rfl ?_
  refine V_iload_n (k := 1) dX3_coupleBit_1 rfl rfl ?_
  refine V_iload_n (k := 1) dX3_coupleBit_2 rfl rfl ?_
  refine V_iconst (v := 1) dX3_coupleBit_3 rfl ?_
  refine V_isub dX3_coupleBit_4 ?_
  refine V_imul dX3_coupleBit_5 ?_
  refine V_iconst (v := 2) dX3_coupleBit_6 rfl ?_
  refine V_idiv dX3_coupleBit_7 (by decide) ?_
  refine V_iload_n (k := 0) dX3_coupleBit_8 rfl rfl ?_
  refine V_iadd dX3_coupleBit_9 ?_
  refine V_ishl dX3_coupleBit_10 ?_
  exact V_ret (fun _ => hI) (Or.inr (Or.inl ⟨rfl, _, rfl⟩)) dX3_coupleBit_11 (fun ty x h1 h2 => by cases h1; rfl) rfl
def fX9_bitsBehind_4 : Nat → vM → Int32 → Int32 → Int32 → Int32 → Option (vR × vM)
  | 0, _, _, _, _, _ => none
  | n9 + 1, M, x0, x1, x2, x3 => if x0 ≤ x3 then rI x2 M else if ((x1 >>> (x3 &&& (31 : Int32))) &&& 1) = 0 then fX9_bitsBehind_4 n9 M x0 x1 x2 (x3 + 1) else bi (fX3_coupleBit M x3 x0) fun y5 M6 => fX9_bitsBehind_4 n9 M6 x0 x1 (x2 ||| y5) (x3 + 1)
set_option maxRecDepth 20000 in
set_option maxHeartbeats 2000000 in
theorem vX9_bitsBehind_4 {l : Launch} {D : va_G} {dA : Nat → ClassId} : ∀ (n9 : Nat) (M : vM) (x0 : Int32) (x1 : Int32) (x2 : Int32) (x3 : Int32), v_WT M.2.2 → V l D dA sX9_bitsBehind false 175 2 0 0 4 [(0, .int x0), (1, .int x1), (2, .int x2), (3, .int x3)] [] 175 M (fX9_bitsBehind_4 n9 M x0 x1 x2 x3) := by
  intro n9
  induction n9 with
  | zero => intros; exact V_none
  | succ n9 ih =>
    intro M x0 x1 x2 x3 hI
    refine V_iload_n (k := 3) dX9_bitsBehind_4 rfl rfl ?_
    refine V_iload_n (k := 0) dX9_bitsBehind_5 rfl rfl ?_
    refine V_icmpge (tgt := 31) dX9_bitsBehind_6 (by decide) (fun h3 => ?_) (fun h3 => ?_)
    · refine V_iload_n (k := 2) dX9_bitsBehind_31 rfl rfl ?_
      exact V_ret (fun _ => hI) (Or.inr (Or.inl ⟨rfl, _, rfl⟩)) dX9_bitsBehind_32 (fun ty x h1 h2 => by cases h1; rfl) rfl
    · refine V_iload_n (k := 1) dX9_bitsBehind_9 rfl rfl ?_
      refine V_iload_n (k := 3) dX9_bitsBehind_10 rfl rfl ?_
      refine V_ishr dX9_bitsBehind_11 ?_
      refine V_iconst (v := 1) dX9_bitsBehind_12 rfl ?_
      refine V_iand dX9_bitsBehind_13 ?_
      refine V_ifeq (tgt := 25) dX9_bitsBehind_14 (by decide) (fun h4 => ?_) (fun h4 => ?_)
      · refine V_iinc (k := 3) (v := x3 + 1) (lv' := [(3, .int (x3 + 1)), (0, .int x0), (1, .int x1), (2, .int x2)]) dX9_bitsBehind_25 rfl rfl (by decide) rfl ?_
        refine V_goto (tgt := 4) dX9_bitsBehind_28 (by decide) ?_
        refine V_sub [1, 2, 3, 0] rfl ?_
        exact ih M x0 x1 x2 (x3 + 1) hI
      · refine V_iload_n (k := 2) dX9_bitsBehind_17 rfl rfl ?_
        refine V_iload_n (k := 3) dX9_bitsBehind_18 rfl rfl ?_
        refine V_iload_n (k := 0) dX9_bitsBehind_19 rfl rfl ?_
        refine V_callSi (st0 := [.int x2]) (kc' := 0) (ks' := 0) dX9_bitsBehind_20 lk_X9_91 rfl (cX3_coupleBit_ok M x3 x0 hI) rfl rfl (by decide) (by decide) (Nat.le_of_ble_eq_true rfl) (Or.inl rfl) rfl rfl (by decide) (by decide) (fun y5 M6 e7 hI8 => ?_)
        refine V_ior dX9_bitsBehind_23 ?_
        refine V_istore_n (lv' := [(2, .int (x2 ||| y5)), (0, .int x0), (1, .int x1), (3, .int x3)]) dX9_bitsBehind_24 rfl (by decide) rfl ?_
        refine V_iinc (k := 3) (v := x3 + 1) (lv' := [(3, .int (x3 + 1)), (2, .int (x2 ||| y5)), (0, .int x0), (1, .int x1)]) dX9_bitsBehind_25 rfl rfl (by decide) rfl ?_
        refine V_goto (tgt := 4) dX9_bitsBehind_28 (by decide) ?_
        refine V_sub [2, 3, 1, 0] rfl ?_
        exact ih M6 x0 x1 (x2 ||| y5) (x3 + 1) hI8
def fX9_bitsBehind (M : vM) (x0 : Int32) (x1 : Int32) : Option (vR × vM) := fX9_bitsBehind_4 FU M x0 x1 0 0
set_option maxRecDepth 20000 in
set_option maxHeartbeats 2000000 in
theorem cX9_bitsBehind_ok {l : Launch} {D : va_G} {dA : Nat → ClassId} (M : vM) (x0 : Int32) (x1 : Int32) (hI : v_WT M.2.2) : Ct l D dA sX9_bitsBehind false 175 2 0 0 175 [.int x0, .int x1] M (fX9_bitsBehind M x0 x1) := by
  refine Ct_of (lv := [(0, .int x0), (1, .int x1)]) (by decide +kernel) rfl (Nat.le_of_ble_eq_true rfl) rfl (fun h => by cases h) ?_
  refine V_iconst (v := 0) dX9_bitsBehind_0 rfl ?_
  refine V_istore_n (lv' := [(2, .int 0), (0, .int x0), (1, .int x1)]) dX9_bitsBehind_1 rfl (by decide) rfl ?_
  refine V_iconst (v := 0) dX9_bitsBehind_2 rfl ?_
  refine V_istore_n (lv' := [(3, .int 0), (2, .int 0), (0, .int x0), (1, .int x1)]) dX9_bitsBehind_3 rfl (by decide) rfl ?_
  refine V_sub [2, 3, 1, 0] rfl ?_
  exact vX9_bitsBehind_4 FU M x0 x1 0 0 hI
def fX9_line_19 (self : vM → Nat → Int32 → Int32 → Int32 → Int32 → Option (vR × vM)) (M : vM) (x0 : Nat) (x2 : Int32) (x3 : Int32) : Option (vR × vM) := bv (fX9_addWay M x0 x2 x3) fun M5 => rV M5
set_option maxRecDepth 20000 in
set_option maxHeartbeats 2000000 in
theorem vX9_line_19 {l : Launch} {D : va_G} {dA : Nat → ClassId} {dd : Nat} {self : vM → Nat → Int32 → Int32 → Int32 → Int32 → Option (vR × vM)} (hself : ∀ (M : vM) (x0 : Nat) (x1 : Int32) (x2 : Int32) (x3 : Int32) (x4 : Int32) (f0 : v_isW x0), v_WT M.2.2 → Ct l D dA sX9_line false 175 (3 + dd) 0 0 175 [.ref x0, .int x1, .int x2, .int x3, .int x4] M (self M x0 x1 x2 x3 x4)) : ∀ (M : vM) (x0 : Nat) (x2 : Int32) (x3 : Int32) (f0 : v_isW x0), v_WT M.2.2 → V l D dA sX9_line false 175 (3 + dd + 1) 0 0 19 [(0, .ref x0), (2, .int x2), (3, .int x3)] [] 175 M (fX9_line_19 self M x0 x2 x3) := by
  intro M x0 x2 x3 f0 hI
  refine V_aload_n (k := 0) dX9_line_19 rfl rfl ?_
  refine V_iload_n (k := 1) dX9_line_20 rfl rfl ?_
  refine V_iload_n (k := 2) dX9_line_21 rfl rfl ?_
  refine V_callVv (q := (RX9, TX9, 6)) (cls := 9) (st0 := []) (kc' := 0) (ks' := 0) dX9_line_22 lk_X9_58 rfl (v_LW f0).1 (v_LW f0).2.1 rfl rfl (cX9_addWay_ok M x0 x2 x3 f0 hI) rfl rfl (by omega) (by decide) (Nat.le_of_ble_eq_true rfl) (Or.inl rfl) rfl rfl (by decide) (by decide) (fun  M5 e6 hI7 => ?_)
  exact V_ret (fun _ => hI7) (Or.inl ⟨rfl, rfl⟩) dX9_line_25 (fun ty x h1 h2 => by cases h1) rfl
def fX9_line_29 (self : vM → Nat → Int32 → Int32 → Int32 → Int32 → Option (vR × vM)) : Nat → vM → Nat → Int32 → Int32 → Int32 → Int32 → Int32 → Option (vR × vM)
  | 0, _, _, _, _, _, _, _ => none
  | n9 + 1, M, x0, x1, x2, x3, x4, x5 => if (M.1 (M.2.2 x0 0 - 1) 4) ≤ x5 then rV M else bi (fX3_canFollow M (M.2.2 x0 0 - 1) x5 x1) fun y9 M10 => if y9 = 0 then fX9_line_29 self n9 M10 x0 x1 x2 x3 x4 (x5 + 1) else bi (fX3_costAt M10 (M10.2.2 x0 0 - 1) x5) fun y14 M15 => bi (fX9_bitsBehind M15 x5 x1) fun y18 M19 => bv (self M19 x0 (x1 ||| (1 <<< (x5 &&& (31 : Int32)))) (x2 ||| y18) (x3 + (y14 * (x4 + 1))) (x4 + 1)) fun M22 => fX9_line_29 self n9 M22 x0 x1 x2 x3 x4 (x5 + 1)
set_option maxRecDepth 20000 in
set_option maxHeartbeats 2000000 in
theorem vX9_line_29 {l : Launch} {D : va_G} {dA : Nat → ClassId} {dd : Nat} {self : vM → Nat → Int32 → Int32 → Int32 → Int32 → Option (vR × vM)} (hself : ∀ (M : vM) (x0 : Nat) (x1 : Int32) (x2 : Int32) (x3 : Int32) (x4 : Int32) (f0 : v_isW x0), v_WT M.2.2 → Ct l D dA sX9_line false 175 (3 + dd) 0 0 175 [.ref x0, .int x1, .int x2, .int x3, .int x4] M (self M x0 x1 x2 x3 x4)) : ∀ (n9 : Nat) (M : vM) (x0 : Nat) (x1 : Int32) (x2 : Int32) (x3 : Int32) (x4 : Int32) (x5 : Int32) (f0 : v_isW x0), v_WT M.2.2 → V l D dA sX9_line false 175 (3 + dd + 1) 0 0 29 [(0, .ref x0), (1, .int x1), (2, .int x2), (3, .int x3), (4, .int x4), (5, .int x5)] [] 175 M (fX9_line_29 self n9 M x0 x1 x2 x3 x4 x5) := by
  intro n9
  induction n9 with
  | zero => intros; exact V_none
  | succ n9 ih =>
    intro M x0 x1 x2 x3 x4 x5 f0 hI
    refine V_iload (k := 5) dX9_line_29 rfl ?_
    refine V_aload_n (k := 0) dX9_line_31 rfl rfl ?_
    refine V_getr (k := M.2.2 x0 0 - 1) dX9_line_32 (v_LW f0).2.1 (v_LW f0).1 vf_X9_19 (by decide) (v_pln hI f0) ?_
    refine V_geti dX9_line_35 (v_LP (v_plnP hI f0)).2.1 (v_LP (v_plnP hI f0)).1 vf_X9_62 (by decide) ?_
    refine V_icmpge (tgt := 102) dX9_line_38 (by decide) (fun h8 => ?_) (fun h8 => ?_)
    · exact V_ret (fun _ => hI) (Or.inl ⟨rfl, rfl⟩) dX9_line_102 (fun ty x h1 h2 => by cases h1) rfl
    · refine V_aload_n (k := 0) dX9_line_41 rfl rfl ?_
      refine V_getr (k := M.2.2 x0 0 - 1) dX9_line_42 (v_LW f0).2.1 (v_LW f0).1 vf_X9_19 (by decide) (v_pln hI f0) ?_
      refine V_iload (k := 5) dX9_line_45 rfl ?_
      refine V_iload_n (k := 1) dX9_line_47 rfl rfl ?_
      refine V_callVi (q := (RX3, TX3, 12)) (cls := 3) (st0 := []) (kc' := 0) (ks' := 0) dX9_line_48 lk_X9_83 rfl (v_LP (v_plnP hI f0)).1 (v_LP (v_plnP hI f0)).2.1 rfl rfl (cX3_canFollow_ok M (M.2.2 x0 0 - 1) x5 x1 (v_plnP hI f0) hI) rfl rfl (by omega) (by decide) (Nat.le_of_ble_eq_true rfl) (Or.inl rfl) rfl rfl (by decide) (by decide) (fun y9 M10 e11 hI12 => ?_)
      refine V_ifeq (tgt := 96) dX9_line_51 (by decide) (fun h13 => ?_) (fun h13 => ?_)
      · refine V_iinc (k := 5) (v := x5 + 1) (lv' := [(5, .int (x5 + 1)), (0, .ref x0), (1, .int x1), (2, .int x2), (3, .int x3), (4, .int x4)]) dX9_line_96 rfl rfl (by decide) rfl ?_
        refine V_goto (tgt := 29) dX9_line_99 (by decide) ?_
        refine V_sub [1, 2, 3, 4, 5, 0] rfl ?_
        exact ih M10 x0 x1 x2 x3 x4 (x5 + 1) f0 hI12
      · refine V_iload_n (k := 3) dX9_line_54 rfl rfl ?_
        refine V_aload_n (k := 0) dX9_line_55 rfl rfl ?_
        refine V_getr (k := M10.2.2 x0 0 - 1) dX9_line_56 (v_LW f0).2.1 (v_LW f0).1 vf_X9_19 (by decide) (v_pln hI12 f0) ?_
        refine V_iload (k := 5) dX9_line_59 rfl ?_
        refine V_callVi (q := (RX3, TX3, 12)) (cls := 3) (st0 := [.int x3]) (kc' := 0) (ks' := 0) dX9_line_61 lk_X9_72 rfl (v_LP (v_plnP hI12 f0)).1 (v_LP (v_plnP hI12 f0)).2.1 rfl rfl (cX3_costAt_ok M10 (M10.2.2 x0 0 - 1) x5 (v_plnP hI12 f0) hI12) rfl rfl (by omega) (by decide) (Nat.le_of_ble_eq_true rfl) (Or.inl rfl) rfl rfl (by decide) (by decide) (fun y14 M15 e16 hI17 => ?_)
        refine V_iload (k := 4) dX9_line_64 rfl ?_
        refine V_iconst (v := 1) dX9_line_66 rfl ?_
        refine V_iadd dX9_line_67 ?_
        refine V_imul dX9_line_68 ?_
        refine V_iadd dX9_line_69 ?_
        refine V_istore (lv' := [(6, .int (x3 + (y14 * (x4 + 1)))), (0, .ref x0), (1, .int x1), (2, .int x2), (3, .int x3), (4, .int x4), (5, .int x5)]) dX9_line_70 (by decide) rfl ?_
        refine V_aload_n (k := 1) dX9_line_72 rfl rfl ?_
        refine V_iload_n (k := 2) dX9_line_73 rfl rfl ?_
        refine V_iconst (v := 1) dX9_line_74 rfl ?_
        refine V_iload (k := 6) dX9_line_75 rfl ?_
        refine V_ishl dX9_line_77 ?_
        refine V_ior dX9_line_78 ?_
        refine V_iload_n (k := 3) dX9_line_79 rfl rfl ?_
        refine V_iload (k := 6) dX9_line_80 rfl ?_
        refine V_iload_n (k := 2) dX9_line_82 rfl rfl ?_
        refine V_callSi (st0 := [.int x2, .int (x1 ||| (1 <<< (x5 &&& (31 : Int32)))), .ref x0]) (kc' := 0) (ks' := 0) dX9_line_83 lk_X9_87 rfl (cX9_bitsBehind_ok M15 x5 x1 hI17) rfl rfl (by omega) (by decide) (Nat.le_of_ble_eq_true rfl) (Or.inl rfl) rfl rfl (by decide) (by decide) (fun y18 M19 e20 hI21 => ?_)
        refine V_ior dX9_line_86 ?_
        refine V_iload (k := 0) dX9_line_87 rfl ?_
        refine V_iload (k := 5) dX9_line_89 rfl ?_
        refine V_iconst (v := 1) dX9_line_91 rfl ?_
        refine V_iadd dX9_line_92 ?_
        refine V_callVv (q := (RX9, TX9, 6)) (cls := 9) (st0 := []) (kc' := 0) (ks' := 0) dX9_line_93 lk_X9_39 rfl (v_LW f0).1 (v_LW f0).2.1 rfl rfl (hself M19 x0 (x1 ||| (1 <<< (x5 &&& (31 : Int32)))) (x2 ||| y18) (x3 + (y14 * (x4 + 1))) (x4 + 1) f0 hI21) rfl rfl (by omega) (by decide) (Nat.le_of_ble_eq_true rfl) (Or.inl rfl) rfl rfl (by decide) (by decide) (fun  M22 e23 hI24 => ?_)
        refine V_iinc (k := 6) (v := x5 + 1) (lv' := [(5, .int (x5 + 1)), (6, .int (x3 + (y14 * (x4 + 1)))), (0, .ref x0), (1, .int x1), (2, .int x2), (3, .int x3), (4, .int x4)]) dX9_line_96 rfl rfl (by decide) rfl ?_
        refine V_goto (tgt := 29) dX9_line_99 (by decide) ?_
        refine V_sub [2, 3, 4, 5, 6, 0] rfl ?_
        exact ih M22 x0 x1 x2 x3 x4 (x5 + 1) f0 hI24
def fX9_line_b (self : vM → Nat → Int32 → Int32 → Int32 → Int32 → Option (vR × vM)) (M : vM) (x0 : Nat) (x1 : Int32) (x2 : Int32) (x3 : Int32) (x4 : Int32) : Option (vR × vM) := if (M.1 (M.2.2 x0 0 - 1) 4) ≤ x4 then fX9_line_19 self M x0 x2 x3 else if x4 < 6 then fX9_line_29 self FU M x0 x1 x2 x3 x4 0 else fX9_line_19 self M x0 x2 x3
def fX9_line_r : Nat → vM → Nat → Int32 → Int32 → Int32 → Int32 → Option (vR × vM)
  | 0, _, _, _, _, _, _ => none
  | d9 + 1, M, x0, x1, x2, x3, x4 => fX9_line_b (fX9_line_r d9) M x0 x1 x2 x3 x4
def fX9_line (M : vM) (x0 : Nat) (x1 : Int32) (x2 : Int32) (x3 : Int32) (x4 : Int32) : Option (vR × vM) := fX9_line_r 8 M x0 x1 x2 x3 x4
set_option maxRecDepth 20000 in
set_option maxHeartbeats 2000000 in
theorem cX9_line_b {l : Launch} {D : va_G} {dA : Nat → ClassId} {dd : Nat} {self : vM → Nat → Int32 → Int32 → Int32 → Int32 → Option (vR × vM)} (hself : ∀ (M : vM) (x0 : Nat) (x1 : Int32) (x2 : Int32) (x3 : Int32) (x4 : Int32) (f0 : v_isW x0), v_WT M.2.2 → Ct l D dA sX9_line false 175 (3 + dd) 0 0 175 [.ref x0, .int x1, .int x2, .int x3, .int x4] M (self M x0 x1 x2 x3 x4)) (M : vM) (x0 : Nat) (x1 : Int32) (x2 : Int32) (x3 : Int32) (x4 : Int32) (f0 : v_isW x0) (hI : v_WT M.2.2) : Ct l D dA sX9_line false 175 (3 + dd + 1) 0 0 175 [.ref x0, .int x1, .int x2, .int x3, .int x4] M (fX9_line_b self M x0 x1 x2 x3 x4) := by
  refine Ct_of (lv := [(0, .ref x0), (1, .int x1), (2, .int x2), (3, .int x3), (4, .int x4)]) (by decide +kernel) rfl (Nat.le_of_ble_eq_true rfl) rfl (fun h => by cases h) ?_
  refine V_iload (k := 4) dX9_line_0 rfl ?_
  refine V_aload_n (k := 0) dX9_line_2 rfl rfl ?_
  refine V_getr (k := M.2.2 x0 0 - 1) dX9_line_3 (v_LW f0).2.1 (v_LW f0).1 vf_X9_19 (by decide) (v_pln hI f0) ?_
  refine V_geti dX9_line_6 (v_LP (v_plnP hI f0)).2.1 (v_LP (v_plnP hI f0)).1 vf_X9_62 (by decide) ?_
  refine V_icmpge (tgt := 19) dX9_line_9 (by decide) (fun h25 => ?_) (fun h25 => ?_)
  · refine V_sub [0, 2, 3] rfl ?_
    exact vX9_line_19 hself M x0 x2 x3 f0 hI
  · refine V_iload (k := 4) dX9_line_12 rfl ?_
    refine V_bipush (v := 6) dX9_line_14 rfl ?_
    refine V_icmplt (tgt := 26) dX9_line_16 (by decide) (fun h26 => ?_) (fun h26 => ?_)
    · refine V_iconst (v := 0) dX9_line_26 rfl ?_
      refine V_istore (lv' := [(5, .int 0), (0, .ref x0), (1, .int x1), (2, .int x2), (3, .int x3), (4, .int x4)]) dX9_line_27 (by decide) rfl ?_
      refine V_sub [1, 2, 3, 4, 5, 0] rfl ?_
      exact vX9_line_29 hself FU M x0 x1 x2 x3 x4 0 f0 hI
    · refine V_sub [0, 2, 3] rfl ?_
      exact vX9_line_19 hself M x0 x2 x3 f0 hI
theorem cX9_line_r {l : Launch} {D : va_G} {dA : Nat → ClassId} : ∀ (d9 : Nat) (M : vM) (x0 : Nat) (x1 : Int32) (x2 : Int32) (x3 : Int32) (x4 : Int32) (f0 : v_isW x0), v_WT M.2.2 → Ct l D dA sX9_line false 175 (3 + d9) 0 0 175 [.ref x0, .int x1, .int x2, .int x3, .int x4] M (fX9_line_r d9 M x0 x1 x2 x3 x4) := by
  intro d9
  induction d9 with
  | zero => intros; intro r M9 h; cases h
  | succ d9 ih => exact fun M x0 x1 x2 x3 x4 f0 hI => cX9_line_b (dd := d9) ih M x0 x1 x2 x3 x4 f0 hI
theorem cX9_line_ok {l : Launch} {D : va_G} {dA : Nat → ClassId} (M : vM) (x0 : Nat) (x1 : Int32) (x2 : Int32) (x3 : Int32) (x4 : Int32) (f0 : v_isW x0) (hI : v_WT M.2.2) : Ct l D dA sX9_line false 175 11 0 0 175 [.ref x0, .int x1, .int x2, .int x3, .int x4] M (fX9_line M x0 x1 x2 x3 x4) := cX9_line_r 8 M x0 x1 x2 x3 x4 f0 hI
def fX9_sort_37 (k10 : vM → Nat → Int32 → Int32 → Option (vR × vM)) : Nat → vM → Nat → Int32 → Int32 → Int64 → Int32 → Option (vR × vM)
  | 0, _, _, _, _, _, _ => none
  | n9 + 1, M, x0, x1, x2, x3, x5 => if x5 < x1 then if v_in x5 1458 = true then k10 (v_sl M (x0 + 7) (Int32.toNatClampNeg x5) x3) x0 x1 (x2 + 1) else none else if v_in (x5 - x1) 1458 = true then if (lg_cmp (M.2.1 (x0 + 7) (Int32.toNatClampNeg (x5 - x1))) x3) ≤ 0 then if v_in x5 1458 = true then k10 (v_sl M (x0 + 7) (Int32.toNatClampNeg x5) x3) x0 x1 (x2 + 1) else none else if v_in (x5 - x1) 1458 = true then if v_in x5 1458 = true then fX9_sort_37 k10 n9 (v_sl M (x0 + 7) (Int32.toNatClampNeg x5) (M.2.1 (x0 + 7) (Int32.toNatClampNeg (x5 - x1)))) x0 x1 x2 x3 (x5 - x1) else none else none else none
set_option maxRecDepth 20000 in
set_option maxHeartbeats 2000000 in
theorem vX9_sort_37 {l : Launch} {D : va_G} {dA : Nat → ClassId} {k10 : vM → Nat → Int32 → Int32 → Option (vR × vM)} (hk10 : ∀ (M : vM) (x0 : Nat) (x1 : Int32) (x2 : Int32) (f0 : v_isW x0), v_WT M.2.2 → V l D dA sX9_sort false 175 1 0 0 10 [(0, .ref x0), (1, .int x1), (2, .int x2)] [] 175 M (k10 M x0 x1 x2)) : ∀ (n9 : Nat) (M : vM) (x0 : Nat) (x1 : Int32) (x2 : Int32) (x3 : Int64) (x5 : Int32) (f0 : v_isW x0), v_WT M.2.2 → V l D dA sX9_sort false 175 1 0 0 37 [(0, .ref x0), (1, .int x1), (2, .int x2), (3, .long (x3)), (5, .int x5)] [] 175 M (fX9_sort_37 k10 n9 M x0 x1 x2 x3 x5) := by
  intro n9
  induction n9 with
  | zero => intros; exact V_none
  | succ n9 ih =>
    intro M x0 x1 x2 x3 x5 f0 hI
    refine V_iload (k := 4) dX9_sort_37 rfl ?_
    refine V_iload_n (k := 1) dX9_sort_39 rfl rfl ?_
    refine V_icmplt (tgt := 82) dX9_sort_40 (by decide) (fun h12 => ?_) (fun h12 => ?_)
    · refine V_aload_n (k := 0) dX9_sort_82 rfl rfl ?_
      refine V_getr (k := x0 + 7) dX9_sort_83 (v_LW f0).2.1 (v_LW f0).1 vf_X9_9 (by decide) (v_finW hI f0).1 ?_
      refine V_iload (k := 4) dX9_sort_86 rfl ?_
      refine V_lload_n (k := 3) dX9_sort_88 rfl rfl ?_
      refine V_last dX9_sort_89 (v_LW f0).2.2.1 (v_LW f0).2.2.2.2.1 (fun h13 => ?_)
      refine V_iinc (k := 2) (v := x2 + 1) (lv' := [(2, .int (x2 + 1)), (0, .ref x0), (1, .int x1), (3, .long (x3)), (5, .int x5)]) dX9_sort_90 rfl rfl (by decide) rfl ?_
      refine V_goto (tgt := 10) dX9_sort_93 (by decide) ?_
      refine V_sub [1, 2, 0] rfl ?_
      exact hk10 (v_sl M (x0 + 7) (Int32.toNatClampNeg x5) x3) x0 x1 (x2 + 1) f0 hI
    · refine V_aload_n (k := 0) dX9_sort_43 rfl rfl ?_
      refine V_getr (k := x0 + 7) dX9_sort_44 (v_LW f0).2.1 (v_LW f0).1 vf_X9_9 (by decide) (v_finW hI f0).1 ?_
      refine V_iload (k := 4) dX9_sort_47 rfl ?_
      refine V_iload_n (k := 1) dX9_sort_49 rfl rfl ?_
      refine V_isub dX9_sort_50 ?_
      refine V_lald dX9_sort_51 (v_LW f0).2.2.1 (v_LW f0).2.2.2.2.1 (fun h14 => ?_)
      refine V_lload_n (k := 3) dX9_sort_52 rfl rfl ?_
      refine V_lcmp dX9_sort_53 ?_
      refine V_ifle (tgt := 82) dX9_sort_54 (by decide) (fun h15 => ?_) (fun h15 => ?_)
      · refine V_aload_n (k := 0) dX9_sort_82 rfl rfl ?_
        refine V_getr (k := x0 + 7) dX9_sort_83 (v_LW f0).2.1 (v_LW f0).1 vf_X9_9 (by decide) (v_finW hI f0).1 ?_
        refine V_iload (k := 4) dX9_sort_86 rfl ?_
        refine V_lload_n (k := 3) dX9_sort_88 rfl rfl ?_
        refine V_last dX9_sort_89 (v_LW f0).2.2.1 (v_LW f0).2.2.2.2.1 (fun h16 => ?_)
        refine V_iinc (k := 2) (v := x2 + 1) (lv' := [(2, .int (x2 + 1)), (0, .ref x0), (1, .int x1), (3, .long (x3)), (5, .int x5)]) dX9_sort_90 rfl rfl (by decide) rfl ?_
        refine V_goto (tgt := 10) dX9_sort_93 (by decide) ?_
        refine V_sub [1, 2, 0] rfl ?_
        exact hk10 (v_sl M (x0 + 7) (Int32.toNatClampNeg x5) x3) x0 x1 (x2 + 1) f0 hI
      · refine V_aload_n (k := 0) dX9_sort_57 rfl rfl ?_
        refine V_getr (k := x0 + 7) dX9_sort_58 (v_LW f0).2.1 (v_LW f0).1 vf_X9_9 (by decide) (v_finW hI f0).1 ?_
        refine V_iload (k := 4) dX9_sort_61 rfl ?_
        refine V_aload_n (k := 0) dX9_sort_63 rfl rfl ?_
        refine V_getr (k := x0 + 7) dX9_sort_64 (v_LW f0).2.1 (v_LW f0).1 vf_X9_9 (by decide) (v_finW hI f0).1 ?_
        refine V_iload (k := 4) dX9_sort_67 rfl ?_
        refine V_iload_n (k := 1) dX9_sort_69 rfl rfl ?_
        refine V_isub dX9_sort_70 ?_
        refine V_lald dX9_sort_71 (v_LW f0).2.2.1 (v_LW f0).2.2.2.2.1 (fun h17 => ?_)
        refine V_last dX9_sort_72 (v_LW f0).2.2.1 (v_LW f0).2.2.2.2.1 (fun h18 => ?_)
        refine V_iload (k := 4) dX9_sort_73 rfl ?_
        refine V_iload_n (k := 1) dX9_sort_75 rfl rfl ?_
        refine V_isub dX9_sort_76 ?_
        refine V_istore (lv' := [(5, .int (x5 - x1)), (0, .ref x0), (1, .int x1), (2, .int x2), (3, .long (x3))]) dX9_sort_77 (by decide) rfl ?_
        refine V_goto (tgt := 37) dX9_sort_79 (by decide) ?_
        refine V_sub [1, 2, 3, 4, 0] rfl ?_
        exact ih (v_sl M (x0 + 7) (Int32.toNatClampNeg x5) (M.2.1 (x0 + 7) (Int32.toNatClampNeg (x5 - x1)))) x0 x1 x2 x3 (x5 - x1) f0 hI
def fX9_sort_10 (k4 : vM → Nat → Int32 → Option (vR × vM)) : Nat → vM → Nat → Int32 → Int32 → Option (vR × vM)
  | 0, _, _, _, _ => none
  | n9 + 1, M, x0, x1, x2 => if (M.1 x0 1) ≤ x2 then k4 M x0 (x1 / 3) else if (nI 1458) ≤ x2 then k4 M x0 (x1 / 3) else if v_in x2 1458 = true then fX9_sort_37 (fX9_sort_10 k4 n9) FU M x0 x1 x2 (M.2.1 (x0 + 7) (Int32.toNatClampNeg x2)) x2 else none
set_option maxRecDepth 20000 in
set_option maxHeartbeats 2000000 in
theorem vX9_sort_10 {l : Launch} {D : va_G} {dA : Nat → ClassId} {k4 : vM → Nat → Int32 → Option (vR × vM)} (hk4 : ∀ (M : vM) (x0 : Nat) (x1 : Int32) (f0 : v_isW x0), v_WT M.2.2 → V l D dA sX9_sort false 175 1 0 0 4 [(0, .ref x0), (1, .int x1)] [] 175 M (k4 M x0 x1)) : ∀ (n9 : Nat) (M : vM) (x0 : Nat) (x1 : Int32) (x2 : Int32) (f0 : v_isW x0), v_WT M.2.2 → V l D dA sX9_sort false 175 1 0 0 10 [(0, .ref x0), (1, .int x1), (2, .int x2)] [] 175 M (fX9_sort_10 k4 n9 M x0 x1 x2) := by
  intro n9
  induction n9 with
  | zero => intros; exact V_none
  | succ n9 ih =>
    intro M x0 x1 x2 f0 hI
    refine V_iload_n (k := 2) dX9_sort_10 rfl rfl ?_
    refine V_aload_n (k := 0) dX9_sort_11 rfl rfl ?_
    refine V_geti dX9_sort_12 (v_LW f0).2.1 (v_LW f0).1 vf_X9_23 (by decide) ?_
    refine V_icmpge (tgt := 96) dX9_sort_15 (by decide) (fun h19 => ?_) (fun h19 => ?_)
    · refine V_iload_n (k := 1) dX9_sort_96 rfl rfl ?_
      refine V_iconst (v := 3) dX9_sort_97 rfl ?_
      refine V_idiv dX9_sort_98 (by decide) ?_
      refine V_istore_n (lv' := [(1, .int (x1 / 3)), (0, .ref x0), (2, .int x2)]) dX9_sort_99 rfl (by decide) rfl ?_
      refine V_goto (tgt := 4) dX9_sort_100 (by decide) ?_
      refine V_sub [1, 0] rfl ?_
      exact hk4 M x0 (x1 / 3) f0 hI
    · refine V_iload_n (k := 2) dX9_sort_18 rfl rfl ?_
      refine V_aload_n (k := 0) dX9_sort_19 rfl rfl ?_
      refine V_getr (k := x0 + 7) dX9_sort_20 (v_LW f0).2.1 (v_LW f0).1 vf_X9_9 (by decide) (v_finW hI f0).1 ?_
      refine V_alen dX9_sort_23 (v_LW f0).2.2.1 (v_LW f0).2.2.2.2.1 (by decide) ?_
      refine V_icmpge (tgt := 96) dX9_sort_24 (by decide) (fun h20 => ?_) (fun h20 => ?_)
      · refine V_iload_n (k := 1) dX9_sort_96 rfl rfl ?_
        refine V_iconst (v := 3) dX9_sort_97 rfl ?_
        refine V_idiv dX9_sort_98 (by decide) ?_
        refine V_istore_n (lv' := [(1, .int (x1 / 3)), (0, .ref x0), (2, .int x2)]) dX9_sort_99 rfl (by decide) rfl ?_
        refine V_goto (tgt := 4) dX9_sort_100 (by decide) ?_
        refine V_sub [1, 0] rfl ?_
        exact hk4 M x0 (x1 / 3) f0 hI
      · refine V_aload_n (k := 0) dX9_sort_27 rfl rfl ?_
        refine V_getr (k := x0 + 7) dX9_sort_28 (v_LW f0).2.1 (v_LW f0).1 vf_X9_9 (by decide) (v_finW hI f0).1 ?_
        refine V_iload_n (k := 2) dX9_sort_31 rfl rfl ?_
        refine V_lald dX9_sort_32 (v_LW f0).2.2.1 (v_LW f0).2.2.2.2.1 (fun h21 => ?_)
        refine V_lstore_n (lv' := [(3, .long (M.2.1 (x0 + 7) (Int32.toNatClampNeg x2))), (0, .ref x0), (1, .int x1), (2, .int x2)]) dX9_sort_33 rfl (by decide) rfl ?_
        refine V_iload_n (k := 3) dX9_sort_34 rfl rfl ?_
        refine V_istore (lv' := [(5, .int x2), (3, .long (M.2.1 (x0 + 7) (Int32.toNatClampNeg x2))), (0, .ref x0), (1, .int x1), (2, .int x2)]) dX9_sort_35 (by decide) rfl ?_
        refine V_sub [2, 3, 4, 1, 0] rfl ?_
        exact vX9_sort_37 (ih) FU M x0 x1 x2 (M.2.1 (x0 + 7) (Int32.toNatClampNeg x2)) x2 f0 hI
def fX9_sort_4 : Nat → vM → Nat → Int32 → Option (vR × vM)
  | 0, _, _, _ => none
  | n9 + 1, M, x0, x1 => if x1 ≤ 0 then rV M else fX9_sort_10 (fX9_sort_4 n9) FU M x0 x1 x1
set_option maxRecDepth 20000 in
set_option maxHeartbeats 2000000 in
theorem vX9_sort_4 {l : Launch} {D : va_G} {dA : Nat → ClassId} : ∀ (n9 : Nat) (M : vM) (x0 : Nat) (x1 : Int32) (f0 : v_isW x0), v_WT M.2.2 → V l D dA sX9_sort false 175 1 0 0 4 [(0, .ref x0), (1, .int x1)] [] 175 M (fX9_sort_4 n9 M x0 x1) := by
  intro n9
  induction n9 with
  | zero => intros; exact V_none
  | succ n9 ih =>
    intro M x0 x1 f0 hI
    refine V_iload_n (k := 1) dX9_sort_4 rfl rfl ?_
    refine V_ifle (tgt := 103) dX9_sort_5 (by decide) (fun h22 => ?_) (fun h22 => ?_)
    · exact V_ret (fun _ => hI) (Or.inl ⟨rfl, rfl⟩) dX9_sort_103 (fun ty x h1 h2 => by cases h1) rfl
    · refine V_iload_n (k := 1) dX9_sort_8 rfl rfl ?_
      refine V_istore_n (lv' := [(2, .int x1), (0, .ref x0), (1, .int x1)]) dX9_sort_9 rfl (by decide) rfl ?_
      refine V_sub [1, 2, 0] rfl ?_
      exact vX9_sort_10 (ih) FU M x0 x1 x1 f0 hI
def fX9_sort (M : vM) (x0 : Nat) : Option (vR × vM) := fX9_sort_4 FU M x0 1093
set_option maxRecDepth 20000 in
set_option maxHeartbeats 2000000 in
theorem cX9_sort_ok {l : Launch} {D : va_G} {dA : Nat → ClassId} (M : vM) (x0 : Nat) (f0 : v_isW x0) (hI : v_WT M.2.2) : Ct l D dA sX9_sort false 175 1 0 0 175 [.ref x0] M (fX9_sort M x0) := by
  refine Ct_of (lv := [(0, .ref x0)]) (by decide +kernel) rfl (Nat.le_of_ble_eq_true rfl) rfl (fun h => by cases h) ?_
  refine V_sipush (v := 1093) dX9_sort_0 rfl ?_
  refine V_istore_n (lv' := [(1, .int 1093), (0, .ref x0)]) dX9_sort_3 rfl (by decide) rfl ?_
  refine V_sub [1, 0] rfl ?_
  exact vX9_sort_4 FU M x0 1093 f0 hI
def fX3_looseBits_54 (k27 : vM → Nat → Int32 → Int32 → Int32 → Option (vR × vM)) (M : vM) (x0 : Nat) (x1 : Int32) (x2 : Int32) (x3 : Int32) : Option (vR × vM) := bi (fX3_coupleBit M x3 x2) fun y6 M7 => k27 M7 x0 (x1 ||| y6) x2 (x3 + 1)
set_option maxRecDepth 20000 in
set_option maxHeartbeats 2000000 in
theorem vX3_looseBits_54 {l : Launch} {D : va_G} {dA : Nat → ClassId} {k27 : vM → Nat → Int32 → Int32 → Int32 → Option (vR × vM)} (hk27 : ∀ (M : vM) (x0 : Nat) (x1 : Int32) (x2 : Int32) (x3 : Int32) (f0 : v_isP x0), v_WT M.2.2 → V l D dA sX3_looseBits false 175 2 0 0 27 [(0, .ref x0), (1, .int x1), (2, .int x2), (3, .int x3)] [] 175 M (k27 M x0 x1 x2 x3)) : ∀ (M : vM) (x0 : Nat) (x1 : Int32) (x2 : Int32) (x3 : Int32) (f0 : v_isP x0), v_WT M.2.2 → V l D dA sX3_looseBits false 175 2 0 0 54 [(0, .ref x0), (1, .int x1), (2, .int x2), (3, .int x3)] [] 175 M (fX3_looseBits_54 k27 M x0 x1 x2 x3) := by
  intro M x0 x1 x2 x3 f0 hI
  refine V_iload_n (k := 1) dX3_looseBits_54 rfl rfl ?_
  refine V_iload_n (k := 3) dX3_looseBits_55 rfl rfl ?_
  refine V_iload_n (k := 2) dX3_looseBits_56 rfl rfl ?_
  refine V_callSi (st0 := [.int x1]) (kc' := 0) (ks' := 0) dX3_looseBits_57 lk_X3_78 rfl (cX3_coupleBit_ok M x3 x2 hI) rfl rfl (by decide) (by decide) (Nat.le_of_ble_eq_true rfl) (Or.inl rfl) rfl rfl (by decide) (by decide) (fun y6 M7 e8 hI9 => ?_)
  refine V_ior dX3_looseBits_60 ?_
  refine V_istore_n (lv' := [(1, .int (x1 ||| y6)), (0, .ref x0), (2, .int x2), (3, .int x3)]) dX3_looseBits_61 rfl (by decide) rfl ?_
  refine V_iinc (k := 3) (v := x3 + 1) (lv' := [(3, .int (x3 + 1)), (1, .int (x1 ||| y6)), (0, .ref x0), (2, .int x2)]) dX3_looseBits_62 rfl rfl (by decide) rfl ?_
  refine V_goto (tgt := 27) dX3_looseBits_65 (by decide) ?_
  refine V_sub [2, 1, 3, 0] rfl ?_
  exact hk27 M7 x0 (x1 ||| y6) x2 (x3 + 1) f0 hI9
def fX3_looseBits_27 (k17 : vM → Nat → Int32 → Int32 → Option (vR × vM)) : Nat → vM → Nat → Int32 → Int32 → Int32 → Option (vR × vM)
  | 0, _, _, _, _, _ => none
  | n9 + 1, M, x0, x1, x2, x3 => if x2 ≤ x3 then k17 M x0 x1 (x2 + 1) else if (((M.1 x0 6) >>> (x3 &&& (31 : Int32))) &&& 1) = 0 then if (((M.1 x0 6) >>> (x2 &&& (31 : Int32))) &&& 1) = 0 then fX3_looseBits_27 k17 n9 M x0 x1 x2 (x3 + 1) else fX3_looseBits_54 (fX3_looseBits_27 k17 n9) M x0 x1 x2 x3 else fX3_looseBits_54 (fX3_looseBits_27 k17 n9) M x0 x1 x2 x3
set_option maxRecDepth 20000 in
set_option maxHeartbeats 2000000 in
theorem vX3_looseBits_27 {l : Launch} {D : va_G} {dA : Nat → ClassId} {k17 : vM → Nat → Int32 → Int32 → Option (vR × vM)} (hk17 : ∀ (M : vM) (x0 : Nat) (x1 : Int32) (x2 : Int32) (f0 : v_isP x0), v_WT M.2.2 → V l D dA sX3_looseBits false 175 2 0 0 17 [(0, .ref x0), (1, .int x1), (2, .int x2)] [] 175 M (k17 M x0 x1 x2)) : ∀ (n9 : Nat) (M : vM) (x0 : Nat) (x1 : Int32) (x2 : Int32) (x3 : Int32) (f0 : v_isP x0), v_WT M.2.2 → V l D dA sX3_looseBits false 175 2 0 0 27 [(0, .ref x0), (1, .int x1), (2, .int x2), (3, .int x3)] [] 175 M (fX3_looseBits_27 k17 n9 M x0 x1 x2 x3) := by
  intro n9
  induction n9 with
  | zero => intros; exact V_none
  | succ n9 ih =>
    intro M x0 x1 x2 x3 f0 hI
    refine V_iload_n (k := 3) dX3_looseBits_27 rfl rfl ?_
    refine V_iload_n (k := 2) dX3_looseBits_28 rfl rfl ?_
    refine V_icmpge (tgt := 68) dX3_looseBits_29 (by decide) (fun h10 => ?_) (fun h10 => ?_)
    · refine V_iinc (k := 2) (v := x2 + 1) (lv' := [(2, .int (x2 + 1)), (0, .ref x0), (1, .int x1), (3, .int x3)]) dX3_looseBits_68 rfl rfl (by decide) rfl ?_
      refine V_goto (tgt := 17) dX3_looseBits_71 (by decide) ?_
      refine V_sub [1, 2, 0] rfl ?_
      exact hk17 M x0 x1 (x2 + 1) f0 hI
    · refine V_aload_n (k := 0) dX3_looseBits_32 rfl rfl ?_
      refine V_geti dX3_looseBits_33 (v_LP f0).2.1 (v_LP f0).1 vf_X3_46 (by decide) ?_
      refine V_iload_n (k := 3) dX3_looseBits_36 rfl rfl ?_
      refine V_ishr dX3_looseBits_37 ?_
      refine V_iconst (v := 1) dX3_looseBits_38 rfl ?_
      refine V_iand dX3_looseBits_39 ?_
      refine V_ifne (tgt := 54) dX3_looseBits_40 (by decide) (fun h11 => ?_) (fun h11 => ?_)
      · refine V_sub [0, 1, 2, 3] rfl ?_
        exact vX3_looseBits_54 (ih) M x0 x1 x2 x3 f0 hI
      · refine V_aload_n (k := 0) dX3_looseBits_43 rfl rfl ?_
        refine V_geti dX3_looseBits_44 (v_LP f0).2.1 (v_LP f0).1 vf_X3_46 (by decide) ?_
        refine V_iload_n (k := 2) dX3_looseBits_47 rfl rfl ?_
        refine V_ishr dX3_looseBits_48 ?_
        refine V_iconst (v := 1) dX3_looseBits_49 rfl ?_
        refine V_iand dX3_looseBits_50 ?_
        refine V_ifeq (tgt := 62) dX3_looseBits_51 (by decide) (fun h12 => ?_) (fun h12 => ?_)
        · refine V_iinc (k := 3) (v := x3 + 1) (lv' := [(3, .int (x3 + 1)), (0, .ref x0), (1, .int x1), (2, .int x2)]) dX3_looseBits_62 rfl rfl (by decide) rfl ?_
          refine V_goto (tgt := 27) dX3_looseBits_65 (by decide) ?_
          refine V_sub [1, 2, 3, 0] rfl ?_
          exact ih M x0 x1 x2 (x3 + 1) f0 hI
        · refine V_sub [0, 1, 2, 3] rfl ?_
          exact vX3_looseBits_54 (ih) M x0 x1 x2 x3 f0 hI
def fX3_looseBits_17 : Nat → vM → Nat → Int32 → Int32 → Option (vR × vM)
  | 0, _, _, _, _ => none
  | n9 + 1, M, x0, x1, x2 => if (M.1 x0 4) ≤ x2 then rI x1 M else fX3_looseBits_27 (fX3_looseBits_17 n9) FU M x0 x1 x2 0
set_option maxRecDepth 20000 in
set_option maxHeartbeats 2000000 in
theorem vX3_looseBits_17 {l : Launch} {D : va_G} {dA : Nat → ClassId} : ∀ (n9 : Nat) (M : vM) (x0 : Nat) (x1 : Int32) (x2 : Int32) (f0 : v_isP x0), v_WT M.2.2 → V l D dA sX3_looseBits false 175 2 0 0 17 [(0, .ref x0), (1, .int x1), (2, .int x2)] [] 175 M (fX3_looseBits_17 n9 M x0 x1 x2) := by
  intro n9
  induction n9 with
  | zero => intros; exact V_none
  | succ n9 ih =>
    intro M x0 x1 x2 f0 hI
    refine V_iload_n (k := 2) dX3_looseBits_17 rfl rfl ?_
    refine V_aload_n (k := 0) dX3_looseBits_18 rfl rfl ?_
    refine V_geti dX3_looseBits_19 (v_LP f0).2.1 (v_LP f0).1 vf_X3_40 (by decide) ?_
    refine V_icmpge (tgt := 74) dX3_looseBits_22 (by decide) (fun h13 => ?_) (fun h13 => ?_)
    · refine V_iload_n (k := 1) dX3_looseBits_74 rfl rfl ?_
      exact V_ret (fun _ => hI) (Or.inr (Or.inl ⟨rfl, _, rfl⟩)) dX3_looseBits_75 (fun ty x h1 h2 => by cases h1; rfl) rfl
    · refine V_iconst (v := 0) dX3_looseBits_25 rfl ?_
      refine V_istore_n (lv' := [(3, .int 0), (0, .ref x0), (1, .int x1), (2, .int x2)]) dX3_looseBits_26 rfl (by decide) rfl ?_
      refine V_sub [1, 2, 3, 0] rfl ?_
      exact vX3_looseBits_27 (ih) FU M x0 x1 x2 0 f0 hI
def fX3_looseBits (M : vM) (x0 : Nat) : Option (vR × vM) := if (M.1 x0 0) = 2 then fX3_looseBits_17 FU M x0 0 1 else rI (M.1 x0 6) M
set_option maxRecDepth 20000 in
set_option maxHeartbeats 2000000 in
theorem cX3_looseBits_ok {l : Launch} {D : va_G} {dA : Nat → ClassId} (M : vM) (x0 : Nat) (f0 : v_isP x0) (hI : v_WT M.2.2) : Ct l D dA sX3_looseBits false 175 2 0 0 175 [.ref x0] M (fX3_looseBits M x0) := by
  refine Ct_of (lv := [(0, .ref x0)]) (by decide +kernel) rfl (Nat.le_of_ble_eq_true rfl) rfl (fun h => by cases h) ?_
  refine V_aload_n (k := 0) dX3_looseBits_0 rfl rfl ?_
  refine V_geti dX3_looseBits_1 (v_LP f0).2.1 (v_LP f0).1 vf_X3_27 (by decide) ?_
  refine V_iconst (v := 2) dX3_looseBits_4 rfl ?_
  refine V_icmpeq (tgt := 13) dX3_looseBits_5 (by decide) (fun h14 => ?_) (fun h14 => ?_)
  · refine V_iconst (v := 0) dX3_looseBits_13 rfl ?_
    refine V_istore_n (lv' := [(1, .int 0), (0, .ref x0)]) dX3_looseBits_14 rfl (by decide) rfl ?_
    refine V_iconst (v := 1) dX3_looseBits_15 rfl ?_
    refine V_istore_n (lv' := [(2, .int 1), (1, .int 0), (0, .ref x0)]) dX3_looseBits_16 rfl (by decide) rfl ?_
    refine V_sub [2, 1, 0] rfl ?_
    exact vX3_looseBits_17 FU M x0 0 1 f0 hI
  · refine V_aload_n (k := 0) dX3_looseBits_8 rfl rfl ?_
    refine V_geti dX3_looseBits_9 (v_LP f0).2.1 (v_LP f0).1 vf_X3_46 (by decide) ?_
    exact V_ret (fun _ => hI) (Or.inr (Or.inl ⟨rfl, _, rfl⟩)) dX3_looseBits_12 (fun ty x h1 h2 => by cases h1; rfl) rfl
def fX9_listWays_52 (M : vM) (x0 : Nat) : Option (vR × vM) := bv (fX9_sort M x0) fun M3 => bi (fX3_looseBits M3 (M3.2.2 x0 0 - 1)) fun y6 M7 => bv (fX9_unspendAll (v_si M7 x0 3 y6) x0) fun M10 => rV M10
set_option maxRecDepth 20000 in
set_option maxHeartbeats 2000000 in
theorem vX9_listWays_52 {l : Launch} {D : va_G} {dA : Nat → ClassId} : ∀ (M : vM) (x0 : Nat) (f0 : v_isW x0), v_WT M.2.2 → V l D dA sX9_listWays false 175 18 0 0 52 [(0, .ref x0)] [] 175 M (fX9_listWays_52 M x0) := by
  intro M x0 f0 hI
  refine V_aload_n (k := 0) dX9_listWays_52 rfl rfl ?_
  refine V_callVv (q := (RX9, TX9, 6)) (cls := 9) (st0 := []) (kc' := 0) (ks' := 0) dX9_listWays_53 lk_X9_42 rfl (v_LW f0).1 (v_LW f0).2.1 rfl rfl (cX9_sort_ok M x0 f0 hI) rfl rfl (by decide) (by decide) (Nat.le_of_ble_eq_true rfl) (Or.inl rfl) rfl rfl (by decide) (by decide) (fun  M3 e4 hI5 => ?_)
  refine V_aload_n (k := 0) dX9_listWays_56 rfl rfl ?_
  refine V_aload_n (k := 0) dX9_listWays_57 rfl rfl ?_
  refine V_getr (k := M3.2.2 x0 0 - 1) dX9_listWays_58 (v_LW f0).2.1 (v_LW f0).1 vf_X9_19 (by decide) (v_pln hI5 f0) ?_
  refine V_callVi (q := (RX3, TX3, 12)) (cls := 3) (st0 := [.ref x0]) (kc' := 0) (ks' := 0) dX9_listWays_61 lk_X9_45 rfl (v_LP (v_plnP hI5 f0)).1 (v_LP (v_plnP hI5 f0)).2.1 rfl rfl (cX3_looseBits_ok M3 (M3.2.2 x0 0 - 1) (v_plnP hI5 f0) hI5) rfl rfl (by decide) (by decide) (Nat.le_of_ble_eq_true rfl) (Or.inl rfl) rfl rfl (by decide) (by decide) (fun y6 M7 e8 hI9 => ?_)
  refine V_puti dX9_listWays_64 (v_LW f0).2.1 (v_LW f0).1 vf_X9_49 (by decide) rfl rfl ?_
  refine V_aload_n (k := 0) dX9_listWays_67 rfl rfl ?_
  refine V_callVv (q := (RX9, TX9, 6)) (cls := 9) (st0 := []) (kc' := 0) (ks' := 0) dX9_listWays_68 lk_X9_52 rfl (v_LW f0).1 (v_LW f0).2.1 rfl rfl (cX9_unspendAll_ok (v_si M7 x0 3 y6) x0 f0 hI9) rfl rfl (by decide) (by decide) (Nat.le_of_ble_eq_true rfl) (Or.inl rfl) rfl rfl (by decide) (by decide) (fun  M10 e11 hI12 => ?_)
  exact V_ret (fun _ => hI12) (Or.inl ⟨rfl, rfl⟩) dX9_listWays_71 (fun ty x h1 h2 => by cases h1) rfl
def fX9_listWays (M : vM) (x0 : Nat) : Option (vR × vM) := if ((v_si M x0 1 0).1 ((v_si M x0 1 0).2.2 x0 0 - 1) 0) = 0 then bv (fX9_walk (v_si M x0 1 0) x0 0 0 0 0) fun M21 => fX9_listWays_52 M21 x0 else if ((v_si M x0 1 0).1 ((v_si M x0 1 0).2.2 x0 0 - 1) 0) = 1 then bv (fX9_choose (v_si M x0 1 0) x0) fun M18 => fX9_listWays_52 M18 x0 else bv (fX9_line (v_si M x0 1 0) x0 0 0 0 0) fun M15 => fX9_listWays_52 M15 x0
set_option maxRecDepth 20000 in
set_option maxHeartbeats 2000000 in
theorem cX9_listWays_ok {l : Launch} {D : va_G} {dA : Nat → ClassId} (M : vM) (x0 : Nat) (f0 : v_isW x0) (hI : v_WT M.2.2) : Ct l D dA sX9_listWays false 175 18 0 0 175 [.ref x0] M (fX9_listWays M x0) := by
  refine Ct_of (lv := [(0, .ref x0)]) (by decide +kernel) rfl (Nat.le_of_ble_eq_true rfl) rfl (fun h => by cases h) ?_
  refine V_aload_n (k := 0) dX9_listWays_0 rfl rfl ?_
  refine V_iconst (v := 0) dX9_listWays_1 rfl ?_
  refine V_puti dX9_listWays_2 (v_LW f0).2.1 (v_LW f0).1 vf_X9_23 (by decide) rfl rfl ?_
  refine V_aload_n (k := 0) dX9_listWays_5 rfl rfl ?_
  refine V_getr (k := (v_si M x0 1 0).2.2 x0 0 - 1) dX9_listWays_6 (v_LW f0).2.1 (v_LW f0).1 vf_X9_19 (by decide) (v_pln hI f0) ?_
  refine V_geti dX9_listWays_9 (v_LP (v_plnP hI f0)).2.1 (v_LP (v_plnP hI f0)).1 vf_X9_27 (by decide) ?_
  refine V_ifne (tgt := 26) dX9_listWays_12 (by decide) (fun h13 => ?_) (fun h13 => ?_)
  · refine V_aload_n (k := 0) dX9_listWays_26 rfl rfl ?_
    refine V_getr (k := (v_si M x0 1 0).2.2 x0 0 - 1) dX9_listWays_27 (v_LW f0).2.1 (v_LW f0).1 vf_X9_19 (by decide) (v_pln hI f0) ?_
    refine V_geti dX9_listWays_30 (v_LP (v_plnP hI f0)).2.1 (v_LP (v_plnP hI f0)).1 vf_X9_27 (by decide) ?_
    refine V_iconst (v := 1) dX9_listWays_33 rfl ?_
    refine V_icmpne (tgt := 44) dX9_listWays_34 (by decide) (fun h14 => ?_) (fun h14 => ?_)
    · refine V_aload_n (k := 0) dX9_listWays_44 rfl rfl ?_
      refine V_iconst (v := 0) dX9_listWays_45 rfl ?_
      refine V_iconst (v := 0) dX9_listWays_46 rfl ?_
      refine V_iconst (v := 0) dX9_listWays_47 rfl ?_
      refine V_iconst (v := 0) dX9_listWays_48 rfl ?_
      refine V_callVv (q := (RX9, TX9, 6)) (cls := 9) (st0 := []) (kc' := 0) (ks' := 0) dX9_listWays_49 lk_X9_39 rfl (v_LW f0).1 (v_LW f0).2.1 rfl rfl (cX9_line_ok (v_si M x0 1 0) x0 0 0 0 0 f0 hI) rfl rfl (by decide) (by decide) (Nat.le_of_ble_eq_true rfl) (Or.inl rfl) rfl rfl (by decide) (by decide) (fun  M15 e16 hI17 => ?_)
      refine V_sub [0] rfl ?_
      exact vX9_listWays_52 M15 x0 f0 hI17
    · refine V_aload_n (k := 0) dX9_listWays_37 rfl rfl ?_
      refine V_callVv (q := (RX9, TX9, 6)) (cls := 9) (st0 := []) (kc' := 0) (ks' := 0) dX9_listWays_38 lk_X9_36 rfl (v_LW f0).1 (v_LW f0).2.1 rfl rfl (cX9_choose_ok (v_si M x0 1 0) x0 f0 hI) rfl rfl (by decide) (by decide) (Nat.le_of_ble_eq_true rfl) (Or.inl rfl) rfl rfl (by decide) (by decide) (fun  M18 e19 hI20 => ?_)
      refine V_goto (tgt := 52) dX9_listWays_41 (by decide) ?_
      refine V_sub [0] rfl ?_
      exact vX9_listWays_52 M18 x0 f0 hI20
  · refine V_aload_n (k := 0) dX9_listWays_15 rfl rfl ?_
    refine V_iconst (v := 0) dX9_listWays_16 rfl ?_
    refine V_iconst (v := 0) dX9_listWays_17 rfl ?_
    refine V_iconst (v := 0) dX9_listWays_18 rfl ?_
    refine V_iconst (v := 0) dX9_listWays_19 rfl ?_
    refine V_callVv (q := (RX9, TX9, 6)) (cls := 9) (st0 := []) (kc' := 0) (ks' := 0) dX9_listWays_20 lk_X9_32 rfl (v_LW f0).1 (v_LW f0).2.1 rfl rfl (cX9_walk_ok (v_si M x0 1 0) x0 0 0 0 0 f0 hI) rfl rfl (by decide) (by decide) (Nat.le_of_ble_eq_true rfl) (Or.inl rfl) rfl rfl (by decide) (by decide) (fun  M21 e22 hI23 => ?_)
    refine V_goto (tgt := 52) dX9_listWays_23 (by decide) ?_
    refine V_sub [0] rfl ?_
    exact vX9_listWays_52 M21 x0 f0 hI23
def fX1_clearForTown (M : vM) (x0 : Nat) : Option (vR × vM) := bv (fJ7_fill_53178 (v_si M x0 0 0) (x0 + 3) 0) fun M1 => bv (fJ7_fill_53178 M1 (x0 + 5) 0) fun M4 => bv (fJ7_fill_53178 M4 (x0 + 7) 1) fun M7 => rV M7
set_option maxRecDepth 20000 in
set_option maxHeartbeats 2000000 in
theorem cX1_clearForTown_ok {l : Launch} {D : va_G} {dA : Nat → ClassId} (M : vM) (x0 : Nat) (f0 : v_isG x0) (hI : v_WT M.2.2) : Ct l D dA sX1_clearForTown false 175 2 0 0 175 [.ref x0] M (fX1_clearForTown M x0) := by
  refine Ct_of (lv := [(0, .ref x0)]) (by decide +kernel) rfl (Nat.le_of_ble_eq_true rfl) rfl (fun h => by cases h) ?_
  refine V_aload_n (k := 0) dX1_clearForTown_0 rfl rfl ?_
  refine V_iconst (v := 0) dX1_clearForTown_1 rfl ?_
  refine V_puti dX1_clearForTown_2 (v_LG f0).2.1 (v_LG f0).1 vf_X1_42 (by decide) rfl rfl ?_
  refine V_aload_n (k := 0) dX1_clearForTown_5 rfl rfl ?_
  refine V_getr (k := x0 + 3) dX1_clearForTown_6 (v_LG f0).2.1 (v_LG f0).1 vf_X1_18 (by decide) (v_finG hI f0).2.2.1 ?_
  refine V_iconst (v := 0) dX1_clearForTown_9 rfl ?_
  refine V_callSv (st0 := []) (kc' := 0) (ks' := 0) dX1_clearForTown_10 lk_X1_36 rfl (cJ7_fill_53178_ok (v_si M x0 0 0) (x0 + 3) 0 (v_isA_of (v_LG f0).2.2.2.2.2.1 (v_LG f0).2.2.1.2.2.1) hI) rfl rfl (by decide) (by decide) (Nat.le_of_ble_eq_true rfl) (Or.inl rfl) rfl rfl (by decide) (by decide) (fun  M1 e2 hI3 => ?_)
  refine V_aload_n (k := 0) dX1_clearForTown_13 rfl rfl ?_
  refine V_getr (k := x0 + 5) dX1_clearForTown_14 (v_LG f0).2.1 (v_LG f0).1 vf_X1_24 (by decide) (v_finG hI3 f0).2.2.2.2.1 ?_
  refine V_iconst (v := 0) dX1_clearForTown_17 rfl ?_
  refine V_callSv (st0 := []) (kc' := 0) (ks' := 0) dX1_clearForTown_18 lk_X1_36 rfl (cJ7_fill_53178_ok M1 (x0 + 5) 0 (v_isA_of (v_LG f0).2.2.2.2.2.2.2.1 (v_LG f0).2.2.1.2.2.2.2.1) hI3) rfl rfl (by decide) (by decide) (Nat.le_of_ble_eq_true rfl) (Or.inl rfl) rfl rfl (by decide) (by decide) (fun  M4 e5 hI6 => ?_)
  refine V_aload_n (k := 0) dX1_clearForTown_21 rfl rfl ?_
  refine V_getr (k := x0 + 7) dX1_clearForTown_22 (v_LG f0).2.1 (v_LG f0).1 vf_X1_30 (by decide) (v_finG hI6 f0).2.2.2.2.2.2.1 ?_
  refine V_iconst (v := 1) dX1_clearForTown_25 rfl ?_
  refine V_callSv (st0 := []) (kc' := 0) (ks' := 0) dX1_clearForTown_26 lk_X1_36 rfl (cJ7_fill_53178_ok M4 (x0 + 7) 1 (v_isA_of (v_LG f0).2.2.2.2.2.2.2.2.2.1 (v_LG f0).2.2.1.2.2.2.2.2.2.1) hI6) rfl rfl (by decide) (by decide) (Nat.le_of_ble_eq_true rfl) (Or.inl rfl) rfl rfl (by decide) (by decide) (fun  M7 e8 hI9 => ?_)
  exact V_ret (fun _ => hI9) (Or.inl ⟨rfl, rfl⟩) dX1_clearForTown_29 (fun ty x h1 h2 => by cases h1) rfl
def fX10_settleTown_12 : Nat → vM → Int32 → Option (vR × vM)
  | 0, _, _ => none
  | n9 + 1, M, x2 => if (M.1 0 12) ≤ x2 then bv (fX1_clearForTown M 6) fun M10 => rV (v_si M10 0 14 0) else if v_in x2 6 = true then if v_in x2 6 = true then if v_in x2 6 = true then if v_in x2 6 = true then if v_in x2 6 = true then bv (fX9_listWays (v_sr (v_sr M (46 + 15 * (Int32.toNatClampNeg x2)) 0 ((M.2.2 4 (Int32.toNatClampNeg x2) - 1) + 1)) 4 (Int32.toNatClampNeg x2) ((M.2.2 (46 + 15 * (Int32.toNatClampNeg x2)) 0 - 1) + 1)) (46 + 15 * (Int32.toNatClampNeg x2))) fun M20 => fX10_settleTown_12 n9 M20 (x2 + 1) else none else none else none else none else none
set_option maxRecDepth 20000 in
set_option maxHeartbeats 2000000 in
theorem vX10_settleTown_12 {l : Launch} {D : va_G} {dA : Nat → ClassId} : ∀ (n9 : Nat) (M : vM) (x2 : Int32), v_WT M.2.2 → V l D dA sX10_settleTown false 175 19 0 0 12 [(0, .ref 0), (2, .int x2)] [] 175 M (fX10_settleTown_12 n9 M x2) := by
  intro n9
  induction n9 with
  | zero => intros; exact V_none
  | succ n9 ih =>
    intro M x2 hI
    refine V_iload_n (k := 1) dX10_settleTown_12 rfl rfl ?_
    refine V_aload_n (k := 0) dX10_settleTown_13 rfl rfl ?_
    refine V_geti dX10_settleTown_14 rfl (by decide) vf_X10_129 (by decide) ?_
    refine V_icmpge (tgt := 67) dX10_settleTown_17 (by decide) (fun h9 => ?_) (fun h9 => ?_)
    · refine V_aload_n (k := 0) dX10_settleTown_67 rfl rfl ?_
      refine V_getr (k := 6) dX10_settleTown_68 rfl (by decide) vf_X10_40 (by decide) (v_fin hI 4 rfl) ?_
      refine V_callVv (q := (RX1, TX1, 9)) (cls := 1) (st0 := []) (kc' := 0) (ks' := 0) dX10_settleTown_71 lk_X10_139 rfl (by decide) rfl rfl rfl (cX1_clearForTown_ok M 6 (Or.inl rfl) hI) rfl rfl (by decide) (by decide) (Nat.le_of_ble_eq_true rfl) (Or.inl rfl) rfl rfl (by decide) (by decide) (fun  M10 e11 hI12 => ?_)
      refine V_aload_n (k := 0) dX10_settleTown_74 rfl rfl ?_
      refine V_iconst (v := 0) dX10_settleTown_75 rfl ?_
      refine V_puti dX10_settleTown_76 rfl (by decide) vf_X10_142 (by decide) rfl rfl ?_
      exact V_ret (fun _ => hI12) (Or.inl ⟨rfl, rfl⟩) dX10_settleTown_79 (fun ty x h1 h2 => by cases h1) rfl
    · refine V_aload_n (k := 0) dX10_settleTown_20 rfl rfl ?_
      refine V_getr (k := 5) dX10_settleTown_21 rfl (by decide) vf_X10_33 (by decide) (v_fin hI 3 rfl) ?_
      refine V_iload_n (k := 1) dX10_settleTown_24 rfl rfl ?_
      refine V_aald (k := (46 + 15 * (Int32.toNatClampNeg x2))) dX10_settleTown_25 rfl (by decide) (by decide) rfl (fun h13 => v_wrk hI h13) (fun h13 => ?_)
      refine V_getr (k := M.2.2 (46 + 15 * (Int32.toNatClampNeg x2)) 0 - 1) dX10_settleTown_26 (v_LW (v_wrkW h13)).2.1 (v_LW (v_wrkW h13)).1 vf_X10_132 (by decide) (v_pln hI (v_wrkW h13)) ?_
      refine V_astore_n (lv' := [(3, .ref (M.2.2 (46 + 15 * (Int32.toNatClampNeg x2)) 0 - 1)), (0, .ref 0), (2, .int x2)]) dX10_settleTown_29 rfl (by decide) rfl ?_
      refine V_aload_n (k := 1) dX10_settleTown_30 rfl rfl ?_
      refine V_getr (k := 5) dX10_settleTown_31 rfl (by decide) vf_X10_33 (by decide) (v_fin hI 3 rfl) ?_
      refine V_iload_n (k := 2) dX10_settleTown_34 rfl rfl ?_
      refine V_aald (k := (46 + 15 * (Int32.toNatClampNeg x2))) dX10_settleTown_35 rfl (by decide) (by decide) rfl (fun h14 => v_wrk hI h14) (fun h14 => ?_)
      refine V_aload_n (k := 1) dX10_settleTown_36 rfl rfl ?_
      refine V_getr (k := 4) dX10_settleTown_37 rfl (by decide) vf_X10_27 (by decide) (v_fin hI 2 rfl) ?_
      refine V_iload_n (k := 2) dX10_settleTown_40 rfl rfl ?_
      refine V_aald (k := (M.2.2 4 (Int32.toNatClampNeg x2) - 1)) dX10_settleTown_41 rfl (by decide) (by decide) rfl (fun h15 => v_spr hI h15) (fun h15 => ?_)
      refine V_putr (k := M.2.2 4 (Int32.toNatClampNeg x2) - 1) dX10_settleTown_42 (v_LW (v_wrkW h14)).2.1 (v_LW (v_wrkW h14)).1 vf_X10_132 (by decide) (fun h => by cases h) (fun a => ⟨rfl, rfl⟩) (Or.inl (v_LP (v_sprP hI h15)).1) ?_
      have hI16 := v_WT_plan hI (v_wrkW h14) (v_sprP hI h15)
      refine V_aload_n (k := 1) dX10_settleTown_45 rfl rfl ?_
      refine V_getr (k := 4) dX10_settleTown_46 rfl (by decide) vf_X10_27 (by decide) (v_fin hI16 2 rfl) ?_
      refine V_iload_n (k := 2) dX10_settleTown_49 rfl rfl ?_
      refine V_aload_n (k := 0) dX10_settleTown_50 rfl rfl ?_
      refine V_aast (k := M.2.2 (46 + 15 * (Int32.toNatClampNeg x2)) 0 - 1) (cls := 3) (q := (RX3, TX3, 12)) dX10_settleTown_51 rfl (by decide) (by decide) rfl (v_LP (v_plnP hI (v_wrkW h13))).1 (v_LP (v_plnP hI (v_wrkW h13))).2.1 rfl (fun h17 => ?_)
      have hI18 := v_WT_spare hI16 (v_in_lt h17) (v_plnP hI (v_wrkW h13))
      refine V_aload_n (k := 1) dX10_settleTown_52 rfl rfl ?_
      refine V_getr (k := 5) dX10_settleTown_53 rfl (by decide) vf_X10_33 (by decide) (v_fin hI18 3 rfl) ?_
      refine V_iload_n (k := 2) dX10_settleTown_56 rfl rfl ?_
      refine V_aald (k := (46 + 15 * (Int32.toNatClampNeg x2))) dX10_settleTown_57 rfl (by decide) (by decide) rfl (fun h19 => v_wrk hI18 h19) (fun h19 => ?_)
      refine V_callVv (q := (RX9, TX9, 6)) (cls := 9) (st0 := []) (kc' := 0) (ks' := 0) dX10_settleTown_58 lk_X10_136 rfl (v_LW (v_wrkW h19)).1 (v_LW (v_wrkW h19)).2.1 rfl rfl (cX9_listWays_ok (v_sr (v_sr M (46 + 15 * (Int32.toNatClampNeg x2)) 0 ((M.2.2 4 (Int32.toNatClampNeg x2) - 1) + 1)) 4 (Int32.toNatClampNeg x2) ((M.2.2 (46 + 15 * (Int32.toNatClampNeg x2)) 0 - 1) + 1)) (46 + 15 * (Int32.toNatClampNeg x2)) (v_wrkW h19) hI18) rfl rfl (by decide) (by decide) (Nat.le_of_ble_eq_true rfl) (Or.inl rfl) rfl rfl (by decide) (by decide) (fun  M20 e21 hI22 => ?_)
      refine V_iinc (k := 2) (v := x2 + 1) (lv' := [(2, .int (x2 + 1)), (3, .ref (M.2.2 (46 + 15 * (Int32.toNatClampNeg x2)) 0 - 1)), (0, .ref 0)]) dX10_settleTown_61 rfl rfl (by decide) rfl ?_
      refine V_goto (tgt := 12) dX10_settleTown_64 (by decide) ?_
      refine V_sub [2, 0] rfl ?_
      exact ih M20 (x2 + 1) hI22
def fX10_settleTown (M : vM) (x1 : Int32) : Option (vR × vM) := fX10_settleTown_12 FU (v_si M 0 12 (if 6 < x1 then 6 else x1)) 0
set_option maxRecDepth 20000 in
set_option maxHeartbeats 2000000 in
theorem cX10_settleTown_ok {l : Launch} {D : va_G} {dA : Nat → ClassId} (M : vM) (x1 : Int32) (hI : v_WT M.2.2) : Ct l D dA sX10_settleTown false 175 19 0 0 175 [.ref 0, .int x1] M (fX10_settleTown M x1) := by
  refine Ct_of (lv := [(0, .ref 0), (1, .int x1)]) (by decide +kernel) rfl (Nat.le_of_ble_eq_true rfl) rfl (fun h => by cases h) ?_
  refine V_aload_n (k := 0) dX10_settleTown_0 rfl rfl ?_
  refine V_iload_n (k := 1) dX10_settleTown_1 rfl rfl ?_
  refine V_bipush (v := 6) dX10_settleTown_2 rfl ?_
  refine V_mmin dX10_settleTown_4 gw792 gw793 gw101 gw794 (by decide) (Nat.le_of_ble_eq_true rfl) ?_
  refine V_puti dX10_settleTown_7 rfl (by decide) vf_X10_129 (by decide) rfl rfl ?_
  refine V_iconst (v := 0) dX10_settleTown_10 rfl ?_
  refine V_istore_n (lv' := [(2, .int 0), (0, .ref 0), (1, .int x1)]) dX10_settleTown_11 rfl (by decide) rfl ?_
  refine V_sub [1, 0] rfl ?_
  exact vX10_settleTown_12 FU (v_si M 0 12 (if 6 < x1 then 6 else x1)) 0 hI
def fX1_addTold (M : vM) (x0 : Nat) (x1 : Int32) (x2 : Int32) : Option (vR × vM) := bi (fX1_toldOf M x0 x1) fun y1 M2 => bv (fX10_put M2 (x0 + 4) ((x1 * 100) + y1) x2) fun M5 => bv (fX10_put M5 (x0 + 3) x1 (y1 + 1)) fun M8 => rI (y1 + 1) M8
set_option maxRecDepth 20000 in
set_option maxHeartbeats 2000000 in
theorem cX1_addTold_ok {l : Launch} {D : va_G} {dA : Nat → ClassId} (M : vM) (x0 : Nat) (x1 : Int32) (x2 : Int32) (f0 : v_isG x0) (hI : v_WT M.2.2) : Ct l D dA sX1_addTold false 175 3 0 0 175 [.ref x0, .int x1, .int x2] M (fX1_addTold M x0 x1 x2) := by
  refine Ct_of (lv := [(0, .ref x0), (1, .int x1), (2, .int x2)]) (by decide +kernel) rfl (Nat.le_of_ble_eq_true rfl) rfl (fun h => by cases h) ?_
  refine V_aload_n (k := 0) dX1_addTold_0 rfl rfl ?_
  refine V_iload_n (k := 1) dX1_addTold_1 rfl rfl ?_
  refine V_callVi (q := (RX1, TX1, 9)) (cls := 1) (st0 := []) (kc' := 0) (ks' := 0) dX1_addTold_2 lk_X1_64 rfl (v_LG f0).1 (v_LG f0).2.1 rfl rfl (cX1_toldOf_ok M x0 x1 f0 hI) rfl rfl (by decide) (by decide) (Nat.le_of_ble_eq_true rfl) (Or.inl rfl) rfl rfl (by decide) (by decide) (fun y1 M2 e3 hI4 => ?_)
  refine V_istore_n (lv' := [(3, .int y1), (0, .ref x0), (1, .int x1), (2, .int x2)]) dX1_addTold_5 rfl (by decide) rfl ?_
  refine V_aload_n (k := 1) dX1_addTold_6 rfl rfl ?_
  refine V_getr (k := x0 + 4) dX1_addTold_7 (v_LG f0).2.1 (v_LG f0).1 vf_X1_21 (by decide) (v_finG hI4 f0).2.2.2.1 ?_
  refine V_iload_n (k := 2) dX1_addTold_10 rfl rfl ?_
  refine V_bipush (v := 100) dX1_addTold_11 rfl ?_
  refine V_imul dX1_addTold_13 ?_
  refine V_iload_n (k := 0) dX1_addTold_14 rfl rfl ?_
  refine V_iadd dX1_addTold_15 ?_
  refine V_iload_n (k := 3) dX1_addTold_16 rfl rfl ?_
  refine V_callSv (st0 := []) (kc' := 0) (ks' := 0) dX1_addTold_17 lk_X1_56 rfl (cX10_put_ok M2 (x0 + 4) ((x1 * 100) + y1) x2 (v_isA_of (v_LG f0).2.2.2.2.2.2.1 (v_LG f0).2.2.1.2.2.2.1) hI4) rfl rfl (by decide) (by decide) (Nat.le_of_ble_eq_true rfl) (Or.inl rfl) rfl rfl (by decide) (by decide) (fun  M5 e6 hI7 => ?_)
  refine V_aload_n (k := 1) dX1_addTold_20 rfl rfl ?_
  refine V_getr (k := x0 + 3) dX1_addTold_21 (v_LG f0).2.1 (v_LG f0).1 vf_X1_18 (by decide) (v_finG hI7 f0).2.2.1 ?_
  refine V_iload_n (k := 2) dX1_addTold_24 rfl rfl ?_
  refine V_iload_n (k := 0) dX1_addTold_25 rfl rfl ?_
  refine V_iconst (v := 1) dX1_addTold_26 rfl ?_
  refine V_iadd dX1_addTold_27 ?_
  refine V_callSv (st0 := []) (kc' := 0) (ks' := 0) dX1_addTold_28 lk_X1_56 rfl (cX10_put_ok M5 (x0 + 3) x1 (y1 + 1) (v_isA_of (v_LG f0).2.2.2.2.2.1 (v_LG f0).2.2.1.2.2.1) hI7) rfl rfl (by decide) (by decide) (Nat.le_of_ble_eq_true rfl) (Or.inl rfl) rfl rfl (by decide) (by decide) (fun  M8 e9 hI10 => ?_)
  refine V_iload_n (k := 0) dX1_addTold_31 rfl rfl ?_
  refine V_iconst (v := 1) dX1_addTold_32 rfl ?_
  refine V_iadd dX1_addTold_33 ?_
  exact V_ret (fun _ => hI10) (Or.inr (Or.inl ⟨rfl, _, rfl⟩)) dX1_addTold_34 (fun ty x h1 h2 => by cases h1; rfl) rfl
def fX10_tell (M : vM) (x1 : Int32) (x2 : Int32) : Option (vR × vM) := br (fX10_workOf M x1) fun y2 M3 => bi (fX1_toldOf M3 6 x1) fun y6 M7 => if y6 < 100 then bi (fX1_addTold M7 6 x1 x2) fun y11 M12 => rI y11 M12 else bv (fX1_refuse M7 6 2) fun M15 => rI ((-1)) M15
set_option maxRecDepth 20000 in
set_option maxHeartbeats 2000000 in
theorem cX10_tell_ok {l : Launch} {D : va_G} {dA : Nat → ClassId} (hT : l.stackTraces = false) (M : vM) (x1 : Int32) (x2 : Int32) (hI : v_WT M.2.2) : Ct l D dA sX10_tell false 175 7 1 6 175 [.ref 0, .int x1, .int x2] M (fX10_tell M x1 x2) := by
  refine Ct_of (lv := [(0, .ref 0), (1, .int x1), (2, .int x2)]) (by decide +kernel) rfl (Nat.le_of_ble_eq_true rfl) rfl (fun h => by cases h) ?_
  refine V_aload_n (k := 0) dX10_tell_0 rfl rfl ?_
  refine V_iload_n (k := 1) dX10_tell_1 rfl rfl ?_
  refine V_callVr (q := (RX10, TX10, 15)) (cls := 10) (st0 := []) (kc' := 0) (ks' := 0) dX10_tell_2 lk_X10_158 rfl (by decide) rfl rfl rfl (cX10_workOf_ok hT M x1 hI) rfl rfl (by decide) (by decide) (Nat.le_of_ble_eq_true rfl) (Or.inl rfl) rfl rfl (by decide) (by decide) (fun y2 M3 e4 hI5 => ?_)
  have wy2 := wX10_workOf_ret e4
  refine V_pop dX10_tell_5 rfl ?_
  refine V_aload_n (k := 0) dX10_tell_6 rfl rfl ?_
  refine V_getr (k := 6) dX10_tell_7 rfl (by decide) vf_X10_40 (by decide) (v_fin hI5 4 rfl) ?_
  refine V_iload_n (k := 1) dX10_tell_10 rfl rfl ?_
  refine V_callVi (q := (RX1, TX1, 9)) (cls := 1) (st0 := []) (kc' := 0) (ks' := 0) dX10_tell_11 lk_X10_186 rfl (by decide) rfl rfl rfl (cX1_toldOf_ok M3 6 x1 (Or.inl rfl) hI5) rfl rfl (by decide) (by decide) (Nat.le_of_ble_eq_true rfl) (Or.inl rfl) rfl rfl (by decide) (by decide) (fun y6 M7 e8 hI9 => ?_)
  refine V_bipush (v := 100) dX10_tell_14 rfl ?_
  refine V_icmplt (tgt := 29) dX10_tell_16 (by decide) (fun h10 => ?_) (fun h10 => ?_)
  · refine V_aload_n (k := 0) dX10_tell_29 rfl rfl ?_
    refine V_getr (k := 6) dX10_tell_30 rfl (by decide) vf_X10_40 (by decide) (v_fin hI9 4 rfl) ?_
    refine V_iload_n (k := 1) dX10_tell_33 rfl rfl ?_
    refine V_iload_n (k := 2) dX10_tell_34 rfl rfl ?_
    refine V_callVi (q := (RX1, TX1, 9)) (cls := 1) (st0 := []) (kc' := 0) (ks' := 0) dX10_tell_35 lk_X10_248 rfl (by decide) rfl rfl rfl (cX1_addTold_ok M7 6 x1 x2 (Or.inl rfl) hI9) rfl rfl (by decide) (by decide) (Nat.le_of_ble_eq_true rfl) (Or.inl rfl) rfl rfl (by decide) (by decide) (fun y11 M12 e13 hI14 => ?_)
    exact V_ret (fun _ => hI14) (Or.inr (Or.inl ⟨rfl, _, rfl⟩)) dX10_tell_38 (fun ty x h1 h2 => by cases h1; rfl) rfl
  · refine V_aload_n (k := 0) dX10_tell_19 rfl rfl ?_
    refine V_getr (k := 6) dX10_tell_20 rfl (by decide) vf_X10_40 (by decide) (v_fin hI9 4 rfl) ?_
    refine V_iconst (v := 2) dX10_tell_23 rfl ?_
    refine V_callVv (q := (RX1, TX1, 9)) (cls := 1) (st0 := []) (kc' := 0) (ks' := 0) dX10_tell_24 lk_X10_115 rfl (by decide) rfl rfl rfl (cX1_refuse_ok M7 6 2 (Or.inl rfl) hI9) rfl rfl (by decide) (by decide) (Nat.le_of_ble_eq_true rfl) (Or.inl rfl) rfl rfl (by decide) (by decide) (fun  M15 e16 hI17 => ?_)
    refine V_iconst (v := (-1)) dX10_tell_27 rfl ?_
    exact V_ret (fun _ => hI17) (Or.inr (Or.inl ⟨rfl, _, rfl⟩)) dX10_tell_28 (fun ty x h1 h2 => by cases h1; rfl) rfl
def fX8_byteAt (M : vM) (x1 : Int32) : Option (vR × vM) := if x1 < 0 then rI 0 M else if (nI 700) ≤ x1 then rI 0 M else if v_in x1 700 = true then rI (M.1 2 (Int32.toNatClampNeg x1)) M else none
set_option maxRecDepth 20000 in
set_option maxHeartbeats 2000000 in
theorem cX8_byteAt_ok {l : Launch} {D : va_G} {dA : Nat → ClassId} (M : vM) (x1 : Int32) (hI : v_WT M.2.2) : Ct l D dA sX8_byteAt false 175 1 0 0 175 [.ref 1, .int x1] M (fX8_byteAt M x1) := by
  refine Ct_of (lv := [(0, .ref 1), (1, .int x1)]) (by decide +kernel) rfl (Nat.le_of_ble_eq_true rfl) rfl (fun h => by cases h) ?_
  refine V_iload_n (k := 1) dX8_byteAt_0 rfl rfl ?_
  refine V_iflt (tgt := 22) dX8_byteAt_1 (by decide) (fun h4 => ?_) (fun h4 => ?_)
  · refine V_iconst (v := 0) dX8_byteAt_22 rfl ?_
    exact V_ret (fun _ => hI) (Or.inr (Or.inl ⟨rfl, _, rfl⟩)) dX8_byteAt_23 (fun ty x h1 h2 => by cases h1; rfl) rfl
  · refine V_iload_n (k := 1) dX8_byteAt_4 rfl rfl ?_
    refine V_aload_n (k := 0) dX8_byteAt_5 rfl rfl ?_
    refine V_getr (k := 2) dX8_byteAt_6 rfl (by decide) vf_X8_9 (by decide) (v_fin hI 12 rfl) ?_
    refine V_alen dX8_byteAt_9 rfl (by decide) (by decide) ?_
    refine V_icmpge (tgt := 22) dX8_byteAt_10 (by decide) (fun h5 => ?_) (fun h5 => ?_)
    · refine V_iconst (v := 0) dX8_byteAt_22 rfl ?_
      exact V_ret (fun _ => hI) (Or.inr (Or.inl ⟨rfl, _, rfl⟩)) dX8_byteAt_23 (fun ty x h1 h2 => by cases h1; rfl) rfl
    · refine V_aload_n (k := 0) dX8_byteAt_13 rfl rfl ?_
      refine V_getr (k := 2) dX8_byteAt_14 rfl (by decide) vf_X8_9 (by decide) (v_fin hI 12 rfl) ?_
      refine V_iload_n (k := 1) dX8_byteAt_17 rfl rfl ?_
      refine V_bald dX8_byteAt_18 rfl (by decide) (fun h6 => ?_)
      refine V_goto (tgt := 23) dX8_byteAt_19 (by decide) ?_
      exact V_ret (fun _ => hI) (Or.inr (Or.inl ⟨rfl, _, rfl⟩)) dX8_byteAt_23 (fun ty x h1 h2 => by cases h1; rfl) rfl
