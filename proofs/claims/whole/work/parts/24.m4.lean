def fX1_setWeight (M : vM) (x0 : Nat) (x1 : Int32) (x2 : Int32) : Option (vR × vM) := bv (fX10_put M (x0 + 7) x1 x2) fun M1 => rV M1
set_option maxRecDepth 20000 in
set_option maxHeartbeats 2000000 in
theorem cX1_setWeight_ok {l : Launch} {D : va_G} {dA : Nat → ClassId} (M : vM) (x0 : Nat) (x1 : Int32) (x2 : Int32) (f0 : v_isG x0) (hI : v_WT M.2.2) : Ct l D dA sX1_setWeight false 175 2 0 0 175 [.ref x0, .int x1, .int x2] M (fX1_setWeight M x0 x1 x2) := by
  refine Ct_of (lv := [(0, .ref x0), (1, .int x1), (2, .int x2)]) (by decide +kernel) rfl (Nat.le_of_ble_eq_true rfl) rfl (fun h => by cases h) ?_
  refine V_aload_n (k := 0) dX1_setWeight_0 rfl rfl ?_
  refine V_getr (k := x0 + 7) dX1_setWeight_1 (v_LG f0).2.1 (v_LG f0).1 vf_X1_30 (by decide) (v_finG hI f0).2.2.2.2.2.2.1 ?_
  refine V_iload_n (k := 1) dX1_setWeight_4 rfl rfl ?_
  refine V_iload_n (k := 2) dX1_setWeight_5 rfl rfl ?_
  refine V_callSv (st0 := []) (kc' := 0) (ks' := 0) dX1_setWeight_6 lk_X1_56 rfl (cX10_put_ok M (x0 + 7) x1 x2 (v_isA_of (v_LG f0).2.2.2.2.2.2.2.2.2.1 (v_LG f0).2.2.1.2.2.2.2.2.2.1) hI) rfl rfl (by decide) (by decide) (Nat.le_of_ble_eq_true rfl) (Or.inl rfl) rfl rfl (by decide) (by decide) (fun  M1 e2 hI3 => ?_)
  exact V_ret (fun _ => hI3) (Or.inl ⟨rfl, rfl⟩) dX1_setWeight_9 (fun ty x h1 h2 => by cases h1) rfl
def fX10_weight (M : vM) (x1 : Int32) (x2 : Int32) : Option (vR × vM) := if x1 < 0 then rI 0 M else if 100 ≤ x1 then rI 0 M else if x2 < 0 then rI 0 M else if x2 ≤ 99 then bv (fX1_setWeight M 6 x1 x2) fun M9 => rI 1 M9 else rI 0 M
set_option maxRecDepth 20000 in
set_option maxHeartbeats 2000000 in
theorem cX10_weight_ok {l : Launch} {D : va_G} {dA : Nat → ClassId} (M : vM) (x1 : Int32) (x2 : Int32) (hI : v_WT M.2.2) : Ct l D dA sX10_weight false 175 3 0 0 175 [.ref 0, .int x1, .int x2] M (fX10_weight M x1 x2) := by
  refine Ct_of (lv := [(0, .ref 0), (1, .int x1), (2, .int x2)]) (by decide +kernel) rfl (Nat.le_of_ble_eq_true rfl) rfl (fun h => by cases h) ?_
  refine V_iload_n (k := 1) dX10_weight_0 rfl rfl ?_
  refine V_iflt (tgt := 20) dX10_weight_1 (by decide) (fun h5 => ?_) (fun h5 => ?_)
  · refine V_iconst (v := 0) dX10_weight_20 rfl ?_
    exact V_ret (fun _ => hI) (Or.inr (Or.inr (Or.inl ⟨rfl, _, rfl⟩))) dX10_weight_21 (fun ty x h1 h2 => by cases h1; cases h2; rfl) rfl
  · refine V_iload_n (k := 1) dX10_weight_4 rfl rfl ?_
    refine V_bipush (v := 100) dX10_weight_5 rfl ?_
    refine V_icmpge (tgt := 20) dX10_weight_7 (by decide) (fun h6 => ?_) (fun h6 => ?_)
    · refine V_iconst (v := 0) dX10_weight_20 rfl ?_
      exact V_ret (fun _ => hI) (Or.inr (Or.inr (Or.inl ⟨rfl, _, rfl⟩))) dX10_weight_21 (fun ty x h1 h2 => by cases h1; cases h2; rfl) rfl
    · refine V_iload_n (k := 2) dX10_weight_10 rfl rfl ?_
      refine V_iflt (tgt := 20) dX10_weight_11 (by decide) (fun h7 => ?_) (fun h7 => ?_)
      · refine V_iconst (v := 0) dX10_weight_20 rfl ?_
        exact V_ret (fun _ => hI) (Or.inr (Or.inr (Or.inl ⟨rfl, _, rfl⟩))) dX10_weight_21 (fun ty x h1 h2 => by cases h1; cases h2; rfl) rfl
      · refine V_iload_n (k := 2) dX10_weight_14 rfl rfl ?_
        refine V_bipush (v := 99) dX10_weight_15 rfl ?_
        refine V_icmple (tgt := 22) dX10_weight_17 (by decide) (fun h8 => ?_) (fun h8 => ?_)
        · refine V_aload_n (k := 0) dX10_weight_22 rfl rfl ?_
          refine V_getr (k := 6) dX10_weight_23 rfl (by decide) vf_X10_40 (by decide) (v_fin hI 4 rfl) ?_
          refine V_iload_n (k := 1) dX10_weight_26 rfl rfl ?_
          refine V_iload_n (k := 2) dX10_weight_27 rfl rfl ?_
          refine V_callVv (q := (RX1, TX1, 9)) (cls := 1) (st0 := []) (kc' := 0) (ks' := 0) dX10_weight_28 lk_X10_270 rfl (by decide) rfl rfl rfl (cX1_setWeight_ok M 6 x1 x2 (Or.inl rfl) hI) rfl rfl (by decide) (by decide) (Nat.le_of_ble_eq_true rfl) (Or.inl rfl) rfl rfl (by decide) (by decide) (fun  M9 e10 hI11 => ?_)
          refine V_iconst (v := 1) dX10_weight_31 rfl ?_
          exact V_ret (fun _ => hI11) (Or.inr (Or.inr (Or.inl ⟨rfl, _, rfl⟩))) dX10_weight_32 (fun ty x h1 h2 => by cases h1; cases h2; rfl) rfl
        · refine V_iconst (v := 0) dX10_weight_20 rfl ?_
          exact V_ret (fun _ => hI) (Or.inr (Or.inr (Or.inl ⟨rfl, _, rfl⟩))) dX10_weight_21 (fun ty x h1 h2 => by cases h1; cases h2; rfl) rfl
def fX1_bookedOf_4 : Nat → vM → Nat → Int32 → Int32 → Int32 → Option (vR × vM)
  | 0, _, _, _, _, _ => none
  | n9 + 1, M, x0, x1, x2, x3 => if (M.1 x0 0) ≤ x3 then rI x2 M else bi (fX1_bookWork M x0 x3) fun y4 M5 => if y4 = x1 then fX1_bookedOf_4 n9 M5 x0 x1 (x2 + 1) (x3 + 1) else fX1_bookedOf_4 n9 M5 x0 x1 x2 (x3 + 1)
set_option maxRecDepth 20000 in
set_option maxHeartbeats 2000000 in
theorem vX1_bookedOf_4 {l : Launch} {D : va_G} {dA : Nat → ClassId} : ∀ (n9 : Nat) (M : vM) (x0 : Nat) (x1 : Int32) (x2 : Int32) (x3 : Int32) (f0 : v_isG x0), v_WT M.2.2 → V l D dA sX1_bookedOf false 175 3 0 0 4 [(0, .ref x0), (1, .int x1), (2, .int x2), (3, .int x3)] [] 175 M (fX1_bookedOf_4 n9 M x0 x1 x2 x3) := by
  intro n9
  induction n9 with
  | zero => intros; exact V_none
  | succ n9 ih =>
    intro M x0 x1 x2 x3 f0 hI
    refine V_iload_n (k := 3) dX1_bookedOf_4 rfl rfl ?_
    refine V_aload_n (k := 0) dX1_bookedOf_5 rfl rfl ?_
    refine V_geti dX1_bookedOf_6 (v_LG f0).2.1 (v_LG f0).1 vf_X1_42 (by decide) ?_
    refine V_icmpge (tgt := 30) dX1_bookedOf_9 (by decide) (fun h3 => ?_) (fun h3 => ?_)
    · refine V_iload_n (k := 2) dX1_bookedOf_30 rfl rfl ?_
      exact V_ret (fun _ => hI) (Or.inr (Or.inl ⟨rfl, _, rfl⟩)) dX1_bookedOf_31 (fun ty x h1 h2 => by cases h1; rfl) rfl
    · refine V_aload_n (k := 0) dX1_bookedOf_12 rfl rfl ?_
      refine V_iload_n (k := 3) dX1_bookedOf_13 rfl rfl ?_
      refine V_callVi (q := (RX1, TX1, 9)) (cls := 1) (st0 := []) (kc' := 0) (ks' := 0) dX1_bookedOf_14 lk_X1_60 rfl (v_LG f0).1 (v_LG f0).2.1 rfl rfl (cX1_bookWork_ok M x0 x3 f0 hI) rfl rfl (by decide) (by decide) (Nat.le_of_ble_eq_true rfl) (Or.inl rfl) rfl rfl (by decide) (by decide) (fun y4 M5 e6 hI7 => ?_)
      refine V_iload_n (k := 1) dX1_bookedOf_17 rfl rfl ?_
      refine V_icmpne (tgt := 24) dX1_bookedOf_18 (by decide) (fun h8 => ?_) (fun h8 => ?_)
      · refine V_iinc (k := 3) (v := x3 + 1) (lv' := [(3, .int (x3 + 1)), (0, .ref x0), (1, .int x1), (2, .int x2)]) dX1_bookedOf_24 rfl rfl (by decide) rfl ?_
        refine V_goto (tgt := 4) dX1_bookedOf_27 (by decide) ?_
        refine V_sub [1, 2, 3, 0] rfl ?_
        exact ih M5 x0 x1 x2 (x3 + 1) f0 hI7
      · refine V_iinc (k := 2) (v := x2 + 1) (lv' := [(2, .int (x2 + 1)), (0, .ref x0), (1, .int x1), (3, .int x3)]) dX1_bookedOf_21 rfl rfl (by decide) rfl ?_
        refine V_iinc (k := 3) (v := x3 + 1) (lv' := [(3, .int (x3 + 1)), (2, .int (x2 + 1)), (0, .ref x0), (1, .int x1)]) dX1_bookedOf_24 rfl rfl (by decide) rfl ?_
        refine V_goto (tgt := 4) dX1_bookedOf_27 (by decide) ?_
        refine V_sub [2, 3, 1, 0] rfl ?_
        exact ih M5 x0 x1 (x2 + 1) (x3 + 1) f0 hI7
def fX1_bookedOf (M : vM) (x0 : Nat) (x1 : Int32) : Option (vR × vM) := fX1_bookedOf_4 FU M x0 x1 0 0
set_option maxRecDepth 20000 in
set_option maxHeartbeats 2000000 in
theorem cX1_bookedOf_ok {l : Launch} {D : va_G} {dA : Nat → ClassId} (M : vM) (x0 : Nat) (x1 : Int32) (f0 : v_isG x0) (hI : v_WT M.2.2) : Ct l D dA sX1_bookedOf false 175 3 0 0 175 [.ref x0, .int x1] M (fX1_bookedOf M x0 x1) := by
  refine Ct_of (lv := [(0, .ref x0), (1, .int x1)]) (by decide +kernel) rfl (Nat.le_of_ble_eq_true rfl) rfl (fun h => by cases h) ?_
  refine V_iconst (v := 0) dX1_bookedOf_0 rfl ?_
  refine V_istore_n (lv' := [(2, .int 0), (0, .ref x0), (1, .int x1)]) dX1_bookedOf_1 rfl (by decide) rfl ?_
  refine V_iconst (v := 0) dX1_bookedOf_2 rfl ?_
  refine V_istore_n (lv' := [(3, .int 0), (2, .int 0), (0, .ref x0), (1, .int x1)]) dX1_bookedOf_3 rfl (by decide) rfl ?_
  refine V_sub [2, 3, 1, 0] rfl ?_
  exact vX1_bookedOf_4 FU M x0 x1 0 0 f0 hI
def fX10_work (M : vM) (x1 : Int32) (x2 : Int32) : Option (vR × vM) := br (fX10_workOf M x1) fun y11 M12 => if x2 = 0 then rI (M12.1 (M12.2.2 y11 0 - 1) 0) M12 else if x2 = 1 then rI (M12.1 y11 1) M12 else if x2 = 2 then rI (M12.1 (M12.2.2 y11 0 - 1) 2) M12 else if x2 = 3 then rI (M12.1 (M12.2.2 y11 0 - 1) 3) M12 else if x2 = 4 then rI (M12.1 (M12.2.2 y11 0 - 1) 4) M12 else if x2 = 5 then rI (M12.1 y11 2) M12 else if x2 = 6 then bi (fX1_bookedOf M12 6 x1) fun y22 M23 => rI y22 M23 else if x2 = 7 then rI (M12.1 (M12.2.2 y11 0 - 1) 6) M12 else if x2 = 8 then bi (fX1_toldOf M12 6 x1) fun y28 M29 => rI y28 M29 else if x2 = 9 then bi (fX1_peopleOf M12 6 x1) fun y33 M34 => rI y33 M34 else rT 1 M12
set_option maxRecDepth 20000 in
set_option maxHeartbeats 2000000 in
theorem cX10_work_ok {l : Launch} {D : va_G} {dA : Nat → ClassId} (hT : l.stackTraces = false) (M : vM) (x1 : Int32) (x2 : Int32) (hI : v_WT M.2.2) : Ct l D dA sX10_work false 175 7 2 12 175 [.ref 0, .int x1, .int x2] M (fX10_work M x1 x2) := by
  refine Ct_of (lv := [(0, .ref 0), (1, .int x1), (2, .int x2)]) (by decide +kernel) rfl (Nat.le_of_ble_eq_true rfl) rfl (fun h => by cases h) ?_
  refine V_aload_n (k := 0) dX10_work_0 rfl rfl ?_
  refine V_iload_n (k := 1) dX10_work_1 rfl rfl ?_
  refine V_callVr (q := (RX10, TX10, 15)) (cls := 10) (st0 := []) (kc' := 1) (ks' := 6) dX10_work_2 lk_X10_158 rfl (by decide) rfl rfl rfl (cX10_workOf_ok hT M x1 hI) rfl rfl (by decide) (by decide) (Nat.le_of_ble_eq_true rfl) (Or.inl rfl) rfl rfl (by decide) (by decide) (fun y11 M12 e13 hI14 => ?_)
  have wy11 := wX10_workOf_ret e13
  refine V_astore_n (lv' := [(3, .ref y11), (0, .ref 0), (1, .int x1), (2, .int x2)]) dX10_work_5 rfl (by decide) rfl ?_
  refine V_iload_n (k := 3) dX10_work_6 rfl rfl ?_
  refine V_tcase (k := 0) (tgt := 60) dX10_work_7 (by decide) (by decide) rfl (by decide) (fun h15 => ?_) (fun h15 => ?_)
  · refine V_aload_n (k := 0) dX10_work_60 rfl rfl ?_
    refine V_getr (k := M12.2.2 y11 0 - 1) dX10_work_61 (v_LW wy11).2.1 (v_LW wy11).1 vf_X10_132 (by decide) (v_pln hI14 wy11) ?_
    refine V_geti dX10_work_64 (v_LP (v_plnP hI14 wy11)).2.1 (v_LP (v_plnP hI14 wy11)).1 vf_X10_162 (by decide) ?_
    exact V_ret (fun _ => hI14) (Or.inr (Or.inl ⟨rfl, _, rfl⟩)) dX10_work_67 (fun ty x h1 h2 => by cases h1; rfl) rfl
  refine V_tcase (k := 1) (tgt := 68) dX10_work_7 (by decide) (by decide) rfl (by decide) (fun h16 => ?_) (fun h16 => ?_)
  · refine V_aload_n (k := 0) dX10_work_68 rfl rfl ?_
    refine V_geti dX10_work_69 (v_LW wy11).2.1 (v_LW wy11).1 vf_X10_165 (by decide) ?_
    exact V_ret (fun _ => hI14) (Or.inr (Or.inl ⟨rfl, _, rfl⟩)) dX10_work_72 (fun ty x h1 h2 => by cases h1; rfl) rfl
  refine V_tcase (k := 2) (tgt := 73) dX10_work_7 (by decide) (by decide) rfl (by decide) (fun h17 => ?_) (fun h17 => ?_)
  · refine V_aload_n (k := 0) dX10_work_73 rfl rfl ?_
    refine V_getr (k := M12.2.2 y11 0 - 1) dX10_work_74 (v_LW wy11).2.1 (v_LW wy11).1 vf_X10_132 (by decide) (v_pln hI14 wy11) ?_
    refine V_geti dX10_work_77 (v_LP (v_plnP hI14 wy11)).2.1 (v_LP (v_plnP hI14 wy11)).1 vf_X10_168 (by decide) ?_
    exact V_ret (fun _ => hI14) (Or.inr (Or.inl ⟨rfl, _, rfl⟩)) dX10_work_80 (fun ty x h1 h2 => by cases h1; rfl) rfl
  refine V_tcase (k := 3) (tgt := 81) dX10_work_7 (by decide) (by decide) rfl (by decide) (fun h18 => ?_) (fun h18 => ?_)
  · refine V_aload_n (k := 0) dX10_work_81 rfl rfl ?_
    refine V_getr (k := M12.2.2 y11 0 - 1) dX10_work_82 (v_LW wy11).2.1 (v_LW wy11).1 vf_X10_132 (by decide) (v_pln hI14 wy11) ?_
    refine V_geti dX10_work_85 (v_LP (v_plnP hI14 wy11)).2.1 (v_LP (v_plnP hI14 wy11)).1 vf_X10_171 (by decide) ?_
    exact V_ret (fun _ => hI14) (Or.inr (Or.inl ⟨rfl, _, rfl⟩)) dX10_work_88 (fun ty x h1 h2 => by cases h1; rfl) rfl
  refine V_tcase (k := 4) (tgt := 89) dX10_work_7 (by decide) (by decide) rfl (by decide) (fun h19 => ?_) (fun h19 => ?_)
  · refine V_aload_n (k := 0) dX10_work_89 rfl rfl ?_
    refine V_getr (k := M12.2.2 y11 0 - 1) dX10_work_90 (v_LW wy11).2.1 (v_LW wy11).1 vf_X10_132 (by decide) (v_pln hI14 wy11) ?_
    refine V_geti dX10_work_93 (v_LP (v_plnP hI14 wy11)).2.1 (v_LP (v_plnP hI14 wy11)).1 vf_X10_174 (by decide) ?_
    exact V_ret (fun _ => hI14) (Or.inr (Or.inl ⟨rfl, _, rfl⟩)) dX10_work_96 (fun ty x h1 h2 => by cases h1; rfl) rfl
  refine V_tcase (k := 5) (tgt := 97) dX10_work_7 (by decide) (by decide) rfl (by decide) (fun h20 => ?_) (fun h20 => ?_)
  · refine V_aload_n (k := 0) dX10_work_97 rfl rfl ?_
    refine V_geti dX10_work_98 (v_LW wy11).2.1 (v_LW wy11).1 vf_X10_177 (by decide) ?_
    exact V_ret (fun _ => hI14) (Or.inr (Or.inl ⟨rfl, _, rfl⟩)) dX10_work_101 (fun ty x h1 h2 => by cases h1; rfl) rfl
  refine V_tcase (k := 6) (tgt := 102) dX10_work_7 (by decide) (by decide) rfl (by decide) (fun h21 => ?_) (fun h21 => ?_)
  · refine V_aload_n (k := 1) dX10_work_102 rfl rfl ?_
    refine V_getr (k := 6) dX10_work_103 rfl (by decide) vf_X10_40 (by decide) (v_fin hI14 4 rfl) ?_
    refine V_iload_n (k := 2) dX10_work_106 rfl rfl ?_
    refine V_callVi (q := (RX1, TX1, 9)) (cls := 1) (st0 := []) (kc' := 1) (ks' := 6) dX10_work_107 lk_X10_180 rfl (by decide) rfl rfl rfl (cX1_bookedOf_ok M12 6 x1 (Or.inl rfl) hI14) rfl rfl (by decide) (by decide) (Nat.le_of_ble_eq_true rfl) (Or.inl rfl) rfl rfl (by decide) (by decide) (fun y22 M23 e24 hI25 => ?_)
    exact V_ret (fun _ => hI25) (Or.inr (Or.inl ⟨rfl, _, rfl⟩)) dX10_work_110 (fun ty x h1 h2 => by cases h1; rfl) rfl
  refine V_tcase (k := 7) (tgt := 111) dX10_work_7 (by decide) (by decide) rfl (by decide) (fun h26 => ?_) (fun h26 => ?_)
  · refine V_aload_n (k := 0) dX10_work_111 rfl rfl ?_
    refine V_getr (k := M12.2.2 y11 0 - 1) dX10_work_112 (v_LW wy11).2.1 (v_LW wy11).1 vf_X10_132 (by decide) (v_pln hI14 wy11) ?_
    refine V_geti dX10_work_115 (v_LP (v_plnP hI14 wy11)).2.1 (v_LP (v_plnP hI14 wy11)).1 vf_X10_183 (by decide) ?_
    exact V_ret (fun _ => hI14) (Or.inr (Or.inl ⟨rfl, _, rfl⟩)) dX10_work_118 (fun ty x h1 h2 => by cases h1; rfl) rfl
  refine V_tcase (k := 8) (tgt := 119) dX10_work_7 (by decide) (by decide) rfl (by decide) (fun h27 => ?_) (fun h27 => ?_)
  · refine V_aload_n (k := 1) dX10_work_119 rfl rfl ?_
    refine V_getr (k := 6) dX10_work_120 rfl (by decide) vf_X10_40 (by decide) (v_fin hI14 4 rfl) ?_
    refine V_iload_n (k := 2) dX10_work_123 rfl rfl ?_
    refine V_callVi (q := (RX1, TX1, 9)) (cls := 1) (st0 := []) (kc' := 1) (ks' := 6) dX10_work_124 lk_X10_186 rfl (by decide) rfl rfl rfl (cX1_toldOf_ok M12 6 x1 (Or.inl rfl) hI14) rfl rfl (by decide) (by decide) (Nat.le_of_ble_eq_true rfl) (Or.inl rfl) rfl rfl (by decide) (by decide) (fun y28 M29 e30 hI31 => ?_)
    exact V_ret (fun _ => hI31) (Or.inr (Or.inl ⟨rfl, _, rfl⟩)) dX10_work_127 (fun ty x h1 h2 => by cases h1; rfl) rfl
  refine V_tcase (k := 9) (tgt := 128) dX10_work_7 (by decide) (by decide) rfl (by decide) (fun h32 => ?_) (fun h32 => ?_)
  · refine V_aload_n (k := 1) dX10_work_128 rfl rfl ?_
    refine V_getr (k := 6) dX10_work_129 rfl (by decide) vf_X10_40 (by decide) (v_fin hI14 4 rfl) ?_
    refine V_iload_n (k := 2) dX10_work_132 rfl rfl ?_
    refine V_callVi (q := (RX1, TX1, 9)) (cls := 1) (st0 := []) (kc' := 1) (ks' := 6) dX10_work_133 lk_X10_189 rfl (by decide) rfl rfl rfl (cX1_peopleOf_ok M12 6 x1 (Or.inl rfl) hI14) rfl rfl (by decide) (by decide) (Nat.le_of_ble_eq_true rfl) (Or.inl rfl) rfl rfl (by decide) (by decide) (fun y33 M34 e35 hI36 => ?_)
    exact V_ret (fun _ => hI36) (Or.inr (Or.inl ⟨rfl, _, rfl⟩)) dX10_work_136 (fun ty x h1 h2 => by cases h1; rfl) rfl
  refine V_tdef (tgt := 137) dX10_work_7 (v_tout (m := 9) (by decide) (lt_s (lt_s (lt_s (lt_s (lt_s (lt_s (lt_s (lt_s (lt_s (lt_s lt_0 h15) h16) h17) h18) h19) h20) h21) h26) h27) h32)) (by decide) ?_
  exact V_throwN (sid := 18) (text := "no such what") (fun _ => hI14) hT rfl (by decide +kernel) dX10_work_137 dX10_work_140 dX10_work_141 dX10_work_143 dX10_work_146 rfl (by decide) (by decide) (by decide) (Nat.le_of_ble_eq_true rfl)
def fX1_weightOf (M : vM) (x0 : Nat) (x1 : Int32) : Option (vR × vM) := bi (fX10_at M (x0 + 7) x1) fun y1 M2 => rI y1 M2
set_option maxRecDepth 20000 in
set_option maxHeartbeats 2000000 in
theorem cX1_weightOf_ok {l : Launch} {D : va_G} {dA : Nat → ClassId} (M : vM) (x0 : Nat) (x1 : Int32) (f0 : v_isG x0) (hI : v_WT M.2.2) : Ct l D dA sX1_weightOf false 175 2 0 0 175 [.ref x0, .int x1] M (fX1_weightOf M x0 x1) := by
  refine Ct_of (lv := [(0, .ref x0), (1, .int x1)]) (by decide +kernel) rfl (Nat.le_of_ble_eq_true rfl) rfl (fun h => by cases h) ?_
  refine V_aload_n (k := 0) dX1_weightOf_0 rfl rfl ?_
  refine V_getr (k := x0 + 7) dX1_weightOf_1 (v_LG f0).2.1 (v_LG f0).1 vf_X1_30 (by decide) (v_finG hI f0).2.2.2.2.2.2.1 ?_
  refine V_iload_n (k := 1) dX1_weightOf_4 rfl rfl ?_
  refine V_callSi (st0 := []) (kc' := 0) (ks' := 0) dX1_weightOf_5 lk_X1_52 rfl (cX10_at_ok M (x0 + 7) x1 (v_isA_of (v_LG f0).2.2.2.2.2.2.2.2.2.1 (v_LG f0).2.2.1.2.2.2.2.2.2.1) hI) rfl rfl (by decide) (by decide) (Nat.le_of_ble_eq_true rfl) (Or.inl rfl) rfl rfl (by decide) (by decide) (fun y1 M2 e3 hI4 => ?_)
  exact V_ret (fun _ => hI4) (Or.inr (Or.inl ⟨rfl, _, rfl⟩)) dX1_weightOf_8 (fun ty x h1 h2 => by cases h1; rfl) rfl
def fX0_countWeights_10 : Nat → vM → Nat → Int32 → Int32 → Option (vR × vM)
  | 0, _, _, _, _ => none
  | n9 + 1, M, x1, x2, x3 => if x2 ≤ x3 then rV M else bi (fX1_weightOf M x1 x3) fun y3 M4 => bi (fX10_at M4 33 y3) fun y7 M8 => bv (fX10_put M8 33 y3 (y7 + 1)) fun M11 => fX0_countWeights_10 n9 M11 x1 x2 (x3 + 1)
set_option maxRecDepth 20000 in
set_option maxHeartbeats 2000000 in
theorem vX0_countWeights_10 {l : Launch} {D : va_G} {dA : Nat → ClassId} : ∀ (n9 : Nat) (M : vM) (x1 : Nat) (x2 : Int32) (x3 : Int32) (f1 : v_isG x1), v_WT M.2.2 → V l D dA sX0_countWeights false 175 3 0 0 10 [(0, .ref 32), (1, .ref x1), (2, .int x2), (3, .int x3)] [] 175 M (fX0_countWeights_10 n9 M x1 x2 x3) := by
  intro n9
  induction n9 with
  | zero => intros; exact V_none
  | succ n9 ih =>
    intro M x1 x2 x3 f1 hI
    refine V_iload_n (k := 3) dX0_countWeights_10 rfl rfl ?_
    refine V_iload_n (k := 2) dX0_countWeights_11 rfl rfl ?_
    refine V_icmpge (tgt := 48) dX0_countWeights_12 (by decide) (fun h2 => ?_) (fun h2 => ?_)
    · exact V_ret (fun _ => hI) (Or.inl ⟨rfl, rfl⟩) dX0_countWeights_48 (fun ty x h1 h2 => by cases h1) rfl
    · refine V_aload_n (k := 1) dX0_countWeights_15 rfl rfl ?_
      refine V_iload_n (k := 3) dX0_countWeights_16 rfl rfl ?_
      refine V_callVi (q := (RX1, TX1, 9)) (cls := 1) (st0 := []) (kc' := 0) (ks' := 0) dX0_countWeights_17 lk_X0_21 rfl (v_LG f1).1 (v_LG f1).2.1 rfl rfl (cX1_weightOf_ok M x1 x3 f1 hI) rfl rfl (by decide) (by decide) (Nat.le_of_ble_eq_true rfl) (Or.inl rfl) rfl rfl (by decide) (by decide) (fun y3 M4 e5 hI6 => ?_)
      refine V_istore (lv' := [(4, .int y3), (0, .ref 32), (1, .ref x1), (2, .int x2), (3, .int x3)]) dX0_countWeights_20 (by decide) rfl ?_
      refine V_aload_n (k := 1) dX0_countWeights_22 rfl rfl ?_
      refine V_getr (k := 33) dX0_countWeights_23 rfl (by decide) vf_X0_9 (by decide) (v_fin hI6 42 rfl) ?_
      refine V_iload (k := 0) dX0_countWeights_26 rfl ?_
      refine V_aload_n (k := 1) dX0_countWeights_28 rfl rfl ?_
      refine V_getr (k := 33) dX0_countWeights_29 rfl (by decide) vf_X0_9 (by decide) (v_fin hI6 42 rfl) ?_
      refine V_iload (k := 0) dX0_countWeights_32 rfl ?_
      refine V_callSi (st0 := [.int y3, .ref 33]) (kc' := 0) (ks' := 0) dX0_countWeights_34 lk_X0_27 rfl (cX10_at_ok M4 33 y3 (v_isA_of (by decide) rfl) hI6) rfl rfl (by decide) (by decide) (Nat.le_of_ble_eq_true rfl) (Or.inl rfl) rfl rfl (by decide) (by decide) (fun y7 M8 e9 hI10 => ?_)
      refine V_iconst (v := 1) dX0_countWeights_37 rfl ?_
      refine V_iadd dX0_countWeights_38 ?_
      refine V_callSv (st0 := []) (kc' := 0) (ks' := 0) dX0_countWeights_39 lk_X0_31 rfl (cX10_put_ok M8 33 y3 (y7 + 1) (v_isA_of (by decide) rfl) hI10) rfl rfl (by decide) (by decide) (Nat.le_of_ble_eq_true rfl) (Or.inl rfl) rfl rfl (by decide) (by decide) (fun  M11 e12 hI13 => ?_)
      refine V_iinc (k := 4) (v := x3 + 1) (lv' := [(3, .int (x3 + 1)), (4, .int y3), (0, .ref 32), (1, .ref x1), (2, .int x2)]) dX0_countWeights_42 rfl rfl (by decide) rfl ?_
      refine V_goto (tgt := 10) dX0_countWeights_45 (by decide) ?_
      refine V_sub [2, 3, 4, 0] rfl ?_
      exact ih M11 x1 x2 (x3 + 1) f1 hI13
def fX0_countWeights (M : vM) (x1 : Nat) (x2 : Int32) : Option (vR × vM) := bv (fJ7_fill_53178 M 33 0) fun M14 => fX0_countWeights_10 FU M14 x1 x2 0
set_option maxRecDepth 20000 in
set_option maxHeartbeats 2000000 in
theorem cX0_countWeights_ok {l : Launch} {D : va_G} {dA : Nat → ClassId} (M : vM) (x1 : Nat) (x2 : Int32) (f1 : v_isG x1) (hI : v_WT M.2.2) : Ct l D dA sX0_countWeights false 175 3 0 0 175 [.ref 32, .ref x1, .int x2] M (fX0_countWeights M x1 x2) := by
  refine Ct_of (lv := [(0, .ref 32), (1, .ref x1), (2, .int x2)]) (by decide +kernel) rfl (Nat.le_of_ble_eq_true rfl) rfl (fun h => by cases h) ?_
  refine V_aload_n (k := 0) dX0_countWeights_0 rfl rfl ?_
  refine V_getr (k := 33) dX0_countWeights_1 rfl (by decide) vf_X0_9 (by decide) (v_fin hI 42 rfl) ?_
  refine V_iconst (v := 0) dX0_countWeights_4 rfl ?_
  refine V_callSv (st0 := []) (kc' := 0) (ks' := 0) dX0_countWeights_5 lk_X0_15 rfl (cJ7_fill_53178_ok M 33 0 (v_isA_of (by decide) rfl) hI) rfl rfl (by decide) (by decide) (Nat.le_of_ble_eq_true rfl) (Or.inl rfl) rfl rfl (by decide) (by decide) (fun  M14 e15 hI16 => ?_)
  refine V_iconst (v := 0) dX0_countWeights_8 rfl ?_
  refine V_istore_n (lv' := [(3, .int 0), (0, .ref 32), (1, .ref x1), (2, .int x2)]) dX0_countWeights_9 rfl (by decide) rfl ?_
  refine V_sub [1, 2, 3, 0] rfl ?_
  exact vX0_countWeights_10 FU M14 x1 x2 0 f1 hI16
def fX0_leastCost_29 (k13 : vM → Nat → Int32 → Int32 → Int32 → Option (vR × vM)) : Nat → vM → Nat → Int32 → Int32 → Int32 → Int32 → Option (vR × vM)
  | 0, _, _, _, _, _, _ => none
  | n9 + 1, M, x1, x3, x4, x5, x6 => if x6 ≤ 0 then k13 M x1 x3 x4 (x5 + (-1)) else if x4 = ((-1)) then k13 M x1 x3 x4 (x5 + (-1)) else bi (fX9_costOf M x1 x4) fun y6 M7 => bi (fX9_nextUnspent M7 x1 (x4 + 1)) fun y10 M11 => fX0_leastCost_29 k13 n9 M11 x1 (x3 + (x5 * y6)) y10 x5 (x6 + (-1))
set_option maxRecDepth 20000 in
set_option maxHeartbeats 2000000 in
theorem vX0_leastCost_29 {l : Launch} {D : va_G} {dA : Nat → ClassId} {k13 : vM → Nat → Int32 → Int32 → Int32 → Option (vR × vM)} (hk13 : ∀ (M : vM) (x1 : Nat) (x3 : Int32) (x4 : Int32) (x5 : Int32) (f1 : v_isW x1), v_WT M.2.2 → V l D dA sX0_leastCost false 175 4 0 0 13 [(0, .ref 32), (1, .ref x1), (3, .int x3), (4, .int x4), (5, .int x5)] [] 175 M (k13 M x1 x3 x4 x5)) : ∀ (n9 : Nat) (M : vM) (x1 : Nat) (x3 : Int32) (x4 : Int32) (x5 : Int32) (x6 : Int32) (f1 : v_isW x1), v_WT M.2.2 → V l D dA sX0_leastCost false 175 4 0 0 29 [(0, .ref 32), (1, .ref x1), (3, .int x3), (4, .int x4), (5, .int x5), (6, .int x6)] [] 175 M (fX0_leastCost_29 k13 n9 M x1 x3 x4 x5 x6) := by
  intro n9
  induction n9 with
  | zero => intros; exact V_none
  | succ n9 ih =>
    intro M x1 x3 x4 x5 x6 f1 hI
    refine V_iload (k := 5) dX0_leastCost_29 rfl ?_
    refine V_ifle (tgt := 68) dX0_leastCost_31 (by decide) (fun h4 => ?_) (fun h4 => ?_)
    · refine V_iinc (k := 4) (v := x5 + (-1)) (lv' := [(5, .int (x5 + (-1))), (0, .ref 32), (1, .ref x1), (3, .int x3), (4, .int x4), (6, .int x6)]) dX0_leastCost_68 rfl rfl (by decide) rfl ?_
      refine V_goto (tgt := 13) dX0_leastCost_71 (by decide) ?_
      refine V_sub [1, 2, 3, 4, 0] rfl ?_
      exact hk13 M x1 x3 x4 (x5 + (-1)) f1 hI
    · refine V_iload (k := 3) dX0_leastCost_34 rfl ?_
      refine V_iconst (v := (-1)) dX0_leastCost_36 rfl ?_
      refine V_icmpeq (tgt := 68) dX0_leastCost_37 (by decide) (fun h5 => ?_) (fun h5 => ?_)
      · refine V_iinc (k := 4) (v := x5 + (-1)) (lv' := [(5, .int (x5 + (-1))), (0, .ref 32), (1, .ref x1), (3, .int x3), (4, .int x4), (6, .int x6)]) dX0_leastCost_68 rfl rfl (by decide) rfl ?_
        refine V_goto (tgt := 13) dX0_leastCost_71 (by decide) ?_
        refine V_sub [1, 2, 3, 4, 0] rfl ?_
        exact hk13 M x1 x3 x4 (x5 + (-1)) f1 hI
      · refine V_iload_n (k := 2) dX0_leastCost_40 rfl rfl ?_
        refine V_iload (k := 4) dX0_leastCost_41 rfl ?_
        refine V_aload_n (k := 1) dX0_leastCost_43 rfl rfl ?_
        refine V_iload (k := 3) dX0_leastCost_44 rfl ?_
        refine V_callVi (q := (RX9, TX9, 6)) (cls := 9) (st0 := [.int x5, .int x3]) (kc' := 0) (ks' := 0) dX0_leastCost_46 lk_X0_40 rfl (v_LW f1).1 (v_LW f1).2.1 rfl rfl (cX9_costOf_ok M x1 x4 f1 hI) rfl rfl (by decide) (by decide) (Nat.le_of_ble_eq_true rfl) (Or.inl rfl) rfl rfl (by decide) (by decide) (fun y6 M7 e8 hI9 => ?_)
        refine V_imul dX0_leastCost_49 ?_
        refine V_iadd dX0_leastCost_50 ?_
        refine V_istore_n (lv' := [(3, .int (x3 + (x5 * y6))), (0, .ref 32), (1, .ref x1), (4, .int x4), (5, .int x5), (6, .int x6)]) dX0_leastCost_51 rfl (by decide) rfl ?_
        refine V_aload_n (k := 2) dX0_leastCost_52 rfl rfl ?_
        refine V_iload (k := 3) dX0_leastCost_53 rfl ?_
        refine V_iconst (v := 1) dX0_leastCost_55 rfl ?_
        refine V_iadd dX0_leastCost_56 ?_
        refine V_callVi (q := (RX9, TX9, 6)) (cls := 9) (st0 := []) (kc' := 0) (ks' := 0) dX0_leastCost_57 lk_X0_43 rfl (v_LW f1).1 (v_LW f1).2.1 rfl rfl (cX9_nextUnspent_ok M7 x1 (x4 + 1) f1 hI9) rfl rfl (by decide) (by decide) (Nat.le_of_ble_eq_true rfl) (Or.inl rfl) rfl rfl (by decide) (by decide) (fun y10 M11 e12 hI13 => ?_)
        refine V_istore (lv' := [(4, .int y10), (3, .int (x3 + (x5 * y6))), (0, .ref 32), (1, .ref x1), (5, .int x5), (6, .int x6)]) dX0_leastCost_60 (by decide) rfl ?_
        refine V_iinc (k := 5) (v := x6 + (-1)) (lv' := [(6, .int (x6 + (-1))), (4, .int y10), (3, .int (x3 + (x5 * y6))), (0, .ref 32), (1, .ref x1), (5, .int x5)]) dX0_leastCost_62 rfl rfl (by decide) rfl ?_
        refine V_goto (tgt := 29) dX0_leastCost_65 (by decide) ?_
        refine V_sub [3, 4, 2, 1, 5, 0] rfl ?_
        exact ih M11 x1 (x3 + (x5 * y6)) y10 x5 (x6 + (-1)) f1 hI13
def fX0_leastCost_13 : Nat → vM → Nat → Int32 → Int32 → Int32 → Option (vR × vM)
  | 0, _, _, _, _, _ => none
  | n9 + 1, M, x1, x3, x4, x5 => if x5 < 0 then rI x3 M else bi (fX10_at M 33 x5) fun y15 M16 => fX0_leastCost_29 (fX0_leastCost_13 n9) FU M16 x1 x3 x4 x5 y15
set_option maxRecDepth 20000 in
set_option maxHeartbeats 2000000 in
theorem vX0_leastCost_13 {l : Launch} {D : va_G} {dA : Nat → ClassId} : ∀ (n9 : Nat) (M : vM) (x1 : Nat) (x3 : Int32) (x4 : Int32) (x5 : Int32) (f1 : v_isW x1), v_WT M.2.2 → V l D dA sX0_leastCost false 175 4 0 0 13 [(0, .ref 32), (1, .ref x1), (3, .int x3), (4, .int x4), (5, .int x5)] [] 175 M (fX0_leastCost_13 n9 M x1 x3 x4 x5) := by
  intro n9
  induction n9 with
  | zero => intros; exact V_none
  | succ n9 ih =>
    intro M x1 x3 x4 x5 f1 hI
    refine V_iload (k := 4) dX0_leastCost_13 rfl ?_
    refine V_iflt (tgt := 74) dX0_leastCost_15 (by decide) (fun h14 => ?_) (fun h14 => ?_)
    · refine V_iload_n (k := 2) dX0_leastCost_74 rfl rfl ?_
      exact V_ret (fun _ => hI) (Or.inr (Or.inl ⟨rfl, _, rfl⟩)) dX0_leastCost_75 (fun ty x h1 h2 => by cases h1; rfl) rfl
    · refine V_aload_n (k := 0) dX0_leastCost_18 rfl rfl ?_
      refine V_getr (k := 33) dX0_leastCost_19 rfl (by decide) vf_X0_9 (by decide) (v_fin hI 42 rfl) ?_
      refine V_iload (k := 4) dX0_leastCost_22 rfl ?_
      refine V_callSi (st0 := []) (kc' := 0) (ks' := 0) dX0_leastCost_24 lk_X0_27 rfl (cX10_at_ok M 33 x5 (v_isA_of (by decide) rfl) hI) rfl rfl (by decide) (by decide) (Nat.le_of_ble_eq_true rfl) (Or.inl rfl) rfl rfl (by decide) (by decide) (fun y15 M16 e17 hI18 => ?_)
      refine V_istore (lv' := [(6, .int y15), (0, .ref 32), (1, .ref x1), (3, .int x3), (4, .int x4), (5, .int x5)]) dX0_leastCost_27 (by decide) rfl ?_
      refine V_sub [1, 2, 3, 4, 5, 0] rfl ?_
      exact vX0_leastCost_29 (ih) FU M16 x1 x3 x4 x5 y15 f1 hI18
def fX0_leastCost (M : vM) (x1 : Nat) (x2 : Int32) : Option (vR × vM) := bi (fX9_unspentAt M x1 x2) fun y19 M20 => fX0_leastCost_13 FU M20 x1 0 y19 99
set_option maxRecDepth 20000 in
set_option maxHeartbeats 2000000 in
theorem cX0_leastCost_ok {l : Launch} {D : va_G} {dA : Nat → ClassId} (M : vM) (x1 : Nat) (x2 : Int32) (f1 : v_isW x1) (hI : v_WT M.2.2) : Ct l D dA sX0_leastCost false 175 4 0 0 175 [.ref 32, .ref x1, .int x2] M (fX0_leastCost M x1 x2) := by
  refine Ct_of (lv := [(0, .ref 32), (1, .ref x1), (2, .int x2)]) (by decide +kernel) rfl (Nat.le_of_ble_eq_true rfl) rfl (fun h => by cases h) ?_
  refine V_iconst (v := 0) dX0_leastCost_0 rfl ?_
  refine V_istore_n (lv' := [(3, .int 0), (0, .ref 32), (1, .ref x1), (2, .int x2)]) dX0_leastCost_1 rfl (by decide) rfl ?_
  refine V_aload_n (k := 2) dX0_leastCost_2 rfl rfl ?_
  refine V_iload_n (k := 3) dX0_leastCost_3 rfl rfl ?_
  refine V_callVi (q := (RX9, TX9, 6)) (cls := 9) (st0 := []) (kc' := 0) (ks' := 0) dX0_leastCost_4 lk_X0_35 rfl (v_LW f1).1 (v_LW f1).2.1 rfl rfl (cX9_unspentAt_ok M x1 x2 f1 hI) rfl rfl (by decide) (by decide) (Nat.le_of_ble_eq_true rfl) (Or.inl rfl) rfl rfl (by decide) (by decide) (fun y19 M20 e21 hI22 => ?_)
  refine V_istore (lv' := [(4, .int y19), (3, .int 0), (0, .ref 32), (1, .ref x1), (2, .int x2)]) dX0_leastCost_7 (by decide) rfl ?_
  refine V_bipush (v := 99) dX0_leastCost_9 rfl ?_
  refine V_istore (lv' := [(5, .int 99), (4, .int y19), (3, .int 0), (0, .ref 32), (1, .ref x1), (2, .int x2)]) dX0_leastCost_11 (by decide) rfl ?_
  refine V_sub [3, 4, 2, 1, 0] rfl ?_
  exact vX0_leastCost_13 FU M20 x1 0 y19 99 f1 hI22
def fX10_years_28 (M : vM) (x2 : Int32) (x3 : Int32) (x4 : Nat) (s0 : Int32) : Option (vR × vM) := if x2 ≤ ((M.1 x4 2) - s0) then bv (fX0_countWeights M 6 x2) fun M5 => bi (fX0_leastCost M5 x4 0) fun y8 M9 => if x3 = 0 then rI y8 M9 else bi (fX0_leastCost M9 x4 s0) fun y13 M14 => rI (y13 - y8) M14 else rI ((-1)) M
set_option maxRecDepth 20000 in
set_option maxHeartbeats 2000000 in
theorem vX10_years_28 {l : Launch} {D : va_G} {dA : Nat → ClassId} (hT : l.stackTraces = false) : ∀ (M : vM) (x2 : Int32) (x3 : Int32) (x4 : Nat) (s0 : Int32) (f4 : v_isW x4), v_WT M.2.2 → V l D dA sX10_years false 175 7 0 0 28 [(0, .ref 0), (2, .int x2), (3, .int x3), (4, .ref x4)] [.int s0] 175 M (fX10_years_28 M x2 x3 x4 s0) := by
  intro M x2 x3 x4 s0 f4 hI
  refine V_istore (lv' := [(5, .int s0), (0, .ref 0), (2, .int x2), (3, .int x3), (4, .ref x4)]) dX10_years_28 (by decide) rfl ?_
  refine V_aload (k := 4) dX10_years_30 rfl ?_
  refine V_geti dX10_years_32 (v_LW f4).2.1 (v_LW f4).1 vf_X10_177 (by decide) ?_
  refine V_iload (k := 0) dX10_years_35 rfl ?_
  refine V_isub dX10_years_37 ?_
  refine V_iload_n (k := 2) dX10_years_38 rfl rfl ?_
  refine V_icmpge (tgt := 44) dX10_years_39 (by decide) (fun h4 => ?_) (fun h4 => ?_)
  · refine V_aload_n (k := 1) dX10_years_44 rfl rfl ?_
    refine V_getr (k := 32) dX10_years_45 rfl (by decide) vf_X10_64 (by decide) (v_fin hI 8 rfl) ?_
    refine V_aload_n (k := 1) dX10_years_48 rfl rfl ?_
    refine V_getr (k := 6) dX10_years_49 rfl (by decide) vf_X10_40 (by decide) (v_fin hI 4 rfl) ?_
    refine V_iload_n (k := 2) dX10_years_52 rfl rfl ?_
    refine V_callVv (q := (RX0, TX0, 1)) (cls := 0) (st0 := []) (kc' := 0) (ks' := 0) dX10_years_53 lk_X10_273 rfl (by decide) rfl rfl rfl (cX0_countWeights_ok M 6 x2 (Or.inl rfl) hI) rfl rfl (by decide) (by decide) (Nat.le_of_ble_eq_true rfl) (Or.inl rfl) rfl rfl (by decide) (by decide) (fun  M5 e6 hI7 => ?_)
    refine V_aload_n (k := 1) dX10_years_56 rfl rfl ?_
    refine V_getr (k := 32) dX10_years_57 rfl (by decide) vf_X10_64 (by decide) (v_fin hI7 8 rfl) ?_
    refine V_aload (k := 4) dX10_years_60 rfl ?_
    refine V_iconst (v := 0) dX10_years_62 rfl ?_
    refine V_callVi (q := (RX0, TX0, 1)) (cls := 0) (st0 := []) (kc' := 0) (ks' := 0) dX10_years_63 lk_X10_277 rfl (by decide) rfl rfl rfl (cX0_leastCost_ok M5 x4 0 f4 hI7) rfl rfl (by decide) (by decide) (Nat.le_of_ble_eq_true rfl) (Or.inl rfl) rfl rfl (by decide) (by decide) (fun y8 M9 e10 hI11 => ?_)
    refine V_istore (lv' := [(6, .int y8), (5, .int s0), (0, .ref 0), (2, .int x2), (3, .int x3), (4, .ref x4)]) dX10_years_66 (by decide) rfl ?_
    refine V_iload_n (k := 4) dX10_years_68 rfl rfl ?_
    refine V_ifne (tgt := 77) dX10_years_69 (by decide) (fun h12 => ?_) (fun h12 => ?_)
    · refine V_aload_n (k := 2) dX10_years_77 rfl rfl ?_
      refine V_getr (k := 32) dX10_years_78 rfl (by decide) vf_X10_64 (by decide) (v_fin hI11 8 rfl) ?_
      refine V_aload (k := 5) dX10_years_81 rfl ?_
      refine V_iload (k := 1) dX10_years_83 rfl ?_
      refine V_callVi (q := (RX0, TX0, 1)) (cls := 0) (st0 := []) (kc' := 0) (ks' := 0) dX10_years_85 lk_X10_277 rfl (by decide) rfl rfl rfl (cX0_leastCost_ok M9 x4 s0 f4 hI11) rfl rfl (by decide) (by decide) (Nat.le_of_ble_eq_true rfl) (Or.inl rfl) rfl rfl (by decide) (by decide) (fun y13 M14 e15 hI16 => ?_)
      refine V_iload (k := 0) dX10_years_88 rfl ?_
      refine V_isub dX10_years_90 ?_
      exact V_ret (fun _ => hI16) (Or.inr (Or.inl ⟨rfl, _, rfl⟩)) dX10_years_91 (fun ty x h1 h2 => by cases h1; rfl) rfl
    · refine V_iload (k := 0) dX10_years_72 rfl ?_
      refine V_goto (tgt := 91) dX10_years_74 (by decide) ?_
      exact V_ret (fun _ => hI11) (Or.inr (Or.inl ⟨rfl, _, rfl⟩)) dX10_years_91 (fun ty x h1 h2 => by cases h1; rfl) rfl
  · refine V_iconst (v := (-1)) dX10_years_42 rfl ?_
    exact V_ret (fun _ => hI) (Or.inr (Or.inl ⟨rfl, _, rfl⟩)) dX10_years_43 (fun ty x h1 h2 => by cases h1; rfl) rfl
def fX10_years (M : vM) (x1 : Int32) (x2 : Int32) (x3 : Int32) : Option (vR × vM) := br (fX10_workOf M x1) fun y17 M18 => bv (fX10_refuseUnlessWhat M18 x3 2) fun M21 => bv (fX10_refuseUnlessWithin M21 x2 1 100) fun M24 => if x3 = 0 then fX10_years_28 M24 x2 x3 y17 0 else fX10_years_28 M24 x2 x3 y17 1
set_option maxRecDepth 20000 in
set_option maxHeartbeats 2000000 in
theorem cX10_years_ok {l : Launch} {D : va_G} {dA : Nat → ClassId} (hT : l.stackTraces = false) (M : vM) (x1 : Int32) (x2 : Int32) (x3 : Int32) (hI : v_WT M.2.2) : Ct l D dA sX10_years false 175 7 3 18 175 [.ref 0, .int x1, .int x2, .int x3] M (fX10_years M x1 x2 x3) := by
  refine Ct_of (lv := [(0, .ref 0), (1, .int x1), (2, .int x2), (3, .int x3)]) (by decide +kernel) rfl (Nat.le_of_ble_eq_true rfl) rfl (fun h => by cases h) ?_
  refine V_aload_n (k := 0) dX10_years_0 rfl rfl ?_
  refine V_iload_n (k := 1) dX10_years_1 rfl rfl ?_
  refine V_callVr (q := (RX10, TX10, 15)) (cls := 10) (st0 := []) (kc' := 2) (ks' := 12) dX10_years_2 lk_X10_158 rfl (by decide) rfl rfl rfl (cX10_workOf_ok hT M x1 hI) rfl rfl (by decide) (by decide) (Nat.le_of_ble_eq_true rfl) (Or.inl rfl) rfl rfl (by decide) (by decide) (fun y17 M18 e19 hI20 => ?_)
  have wy17 := wX10_workOf_ret e19
  refine V_astore (lv' := [(4, .ref y17), (0, .ref 0), (1, .int x1), (2, .int x2), (3, .int x3)]) dX10_years_5 (by decide) rfl ?_
  refine V_iload_n (k := 4) dX10_years_7 rfl rfl ?_
  refine V_iconst (v := 2) dX10_years_8 rfl ?_
  refine V_callSv (st0 := []) (kc' := 1) (ks' := 6) dX10_years_9 lk_X10_212 rfl (cX10_refuseUnlessWhat_ok hT M18 x3 2 hI20) rfl rfl (by decide) (by decide) (Nat.le_of_ble_eq_true rfl) (Or.inl rfl) rfl rfl (by decide) (by decide) (fun  M21 e22 hI23 => ?_)
  refine V_iload_n (k := 3) dX10_years_12 rfl rfl ?_
  refine V_iconst (v := 1) dX10_years_13 rfl ?_
  refine V_bipush (v := 100) dX10_years_14 rfl ?_
  refine V_callSv (st0 := []) (kc' := 0) (ks' := 0) dX10_years_16 lk_X10_254 rfl (cX10_refuseUnlessWithin_ok hT M21 x2 1 100 hI23) rfl rfl (by decide) (by decide) (Nat.le_of_ble_eq_true rfl) (Or.inl rfl) rfl rfl (by decide) (by decide) (fun  M24 e25 hI26 => ?_)
  refine V_iload_n (k := 4) dX10_years_19 rfl rfl ?_
  refine V_ifne (tgt := 27) dX10_years_20 (by decide) (fun h27 => ?_) (fun h27 => ?_)
  · refine V_iconst (v := 1) dX10_years_27 rfl ?_
    refine V_sub [1, 3, 4, 0] rfl ?_
    exact vX10_years_28 hT M24 x2 x3 y17 1 wy17 hI26
  · refine V_iconst (v := 0) dX10_years_23 rfl ?_
    refine V_goto (tgt := 28) dX10_years_24 (by decide) ?_
    refine V_sub [1, 3, 4, 0] rfl ?_
    exact vX10_years_28 hT M24 x2 x3 y17 0 wy17 hI26
def fX11_addWay (M : vM) (x1 : Int32) (x2 : Int32) (x3 : Int32) : Option (vR × vM) := if v_in x1 6 = true then if v_in ((2000 * x1) + (M.1 145 (Int32.toNatClampNeg x1))) 12000 = true then if v_in x1 6 = true then if v_in ((2000 * x1) + ((v_si M 146 (Int32.toNatClampNeg ((2000 * x1) + (M.1 145 (Int32.toNatClampNeg x1)))) x2).1 145 (Int32.toNatClampNeg x1))) 12000 = true then if v_in x1 6 = true then if v_in x1 6 = true then rV (v_si (v_si (v_si M 146 (Int32.toNatClampNeg ((2000 * x1) + (M.1 145 (Int32.toNatClampNeg x1)))) x2) 147 (Int32.toNatClampNeg ((2000 * x1) + ((v_si M 146 (Int32.toNatClampNeg ((2000 * x1) + (M.1 145 (Int32.toNatClampNeg x1)))) x2).1 145 (Int32.toNatClampNeg x1)))) x3) 145 (Int32.toNatClampNeg x1) (((v_si (v_si M 146 (Int32.toNatClampNeg ((2000 * x1) + (M.1 145 (Int32.toNatClampNeg x1)))) x2) 147 (Int32.toNatClampNeg ((2000 * x1) + ((v_si M 146 (Int32.toNatClampNeg ((2000 * x1) + (M.1 145 (Int32.toNatClampNeg x1)))) x2).1 145 (Int32.toNatClampNeg x1)))) x3).1 145 (Int32.toNatClampNeg x1)) + 1)) else none else none else none else none else none else none
set_option maxRecDepth 20000 in
set_option maxHeartbeats 2000000 in
theorem cX11_addWay_ok {l : Launch} {D : va_G} {dA : Nat → ClassId} (M : vM) (x1 : Int32) (x2 : Int32) (x3 : Int32) (hI : v_WT M.2.2) : Ct l D dA sX11_addWay false 175 1 0 0 175 [.ref 130, .int x1, .int x2, .int x3] M (fX11_addWay M x1 x2 x3) := by
  refine Ct_of (lv := [(0, .ref 130), (1, .int x1), (2, .int x2), (3, .int x3)]) (by decide +kernel) rfl (Nat.le_of_ble_eq_true rfl) rfl (fun h => by cases h) ?_
  refine V_aload_n (k := 0) dX11_addWay_0 rfl rfl ?_
  refine V_getr (k := 146) dX11_addWay_1 rfl (by decide) vf_X11_64 (by decide) (v_fin hI 133 rfl) ?_
  refine V_sipush (v := 2000) dX11_addWay_4 rfl ?_
  refine V_iload_n (k := 1) dX11_addWay_7 rfl rfl ?_
  refine V_imul dX11_addWay_8 ?_
  refine V_aload_n (k := 0) dX11_addWay_9 rfl rfl ?_
  refine V_getr (k := 145) dX11_addWay_10 rfl (by decide) vf_X11_61 (by decide) (v_fin hI 132 rfl) ?_
  refine V_iload_n (k := 1) dX11_addWay_13 rfl rfl ?_
  refine V_iald dX11_addWay_14 rfl (by decide) (fun h7 => ?_)
  refine V_iadd dX11_addWay_15 ?_
  refine V_iload_n (k := 2) dX11_addWay_16 rfl rfl ?_
  refine V_iast dX11_addWay_17 rfl (by decide) (fun h8 => ?_)
  refine V_aload_n (k := 0) dX11_addWay_18 rfl rfl ?_
  refine V_getr (k := 147) dX11_addWay_19 rfl (by decide) vf_X11_67 (by decide) (v_fin hI 134 rfl) ?_
  refine V_sipush (v := 2000) dX11_addWay_22 rfl ?_
  refine V_iload_n (k := 1) dX11_addWay_25 rfl rfl ?_
  refine V_imul dX11_addWay_26 ?_
  refine V_aload_n (k := 0) dX11_addWay_27 rfl rfl ?_
  refine V_getr (k := 145) dX11_addWay_28 rfl (by decide) vf_X11_61 (by decide) (v_fin hI 132 rfl) ?_
  refine V_iload_n (k := 1) dX11_addWay_31 rfl rfl ?_
  refine V_iald dX11_addWay_32 rfl (by decide) (fun h9 => ?_)
  refine V_iadd dX11_addWay_33 ?_
  refine V_iload_n (k := 3) dX11_addWay_34 rfl rfl ?_
  refine V_iast dX11_addWay_35 rfl (by decide) (fun h10 => ?_)
  refine V_aload_n (k := 0) dX11_addWay_36 rfl rfl ?_
  refine V_getr (k := 145) dX11_addWay_37 rfl (by decide) vf_X11_61 (by decide) (v_fin hI 132 rfl) ?_
  refine V_iload_n (k := 1) dX11_addWay_40 rfl rfl ?_
  refine V_dup2 dX11_addWay_41 rfl rfl ?_
  refine V_iald dX11_addWay_42 rfl (by decide) (fun h11 => ?_)
  refine V_iconst (v := 1) dX11_addWay_43 rfl ?_
  refine V_iadd dX11_addWay_44 ?_
  refine V_iast dX11_addWay_45 rfl (by decide) (fun h12 => ?_)
  exact V_ret (fun _ => hI) (Or.inl ⟨rfl, rfl⟩) dX11_addWay_46 (fun ty x h1 h2 => by cases h1) rfl
def fX11_couple (M : vM) (x0 : Int32) (x1 : Int32) : Option (vR × vM) := rI (((x1 * (x1 - 1)) / 2) + x0) M
set_option maxRecDepth 20000 in
set_option maxHeartbeats 2000000 in
theorem cX11_couple_ok {l : Launch} {D : va_G} {dA : Nat → ClassId} (M : vM) (x0 : Int32) (x1 : Int32) (hI : v_WT M.2.2) : Ct l D dA sX11_couple false 175 1 0 0 175 [.int x0, .int x1] M (fX11_couple M x0 x1) := by
  refine Ct_of (lv := [(0, .int x0), (1, .int x1)]) (by decide +kernel) rfl (Nat.le_of_ble_eq_true rfl) rfl (fun h => by cases h) ?_
  refine V_iload_n (k := 1) dX11_couple_0 rfl rfl ?_
  refine V_iload_n (k := 1) dX11_couple_1 rfl rfl ?_
  refine V_iconst (v := 1) dX11_couple_2 rfl ?_
  refine V_isub dX11_couple_3 ?_
  refine V_imul dX11_couple_4 ?_
  refine V_iconst (v := 2) dX11_couple_5 rfl ?_
  refine V_idiv dX11_couple_6 (by decide) ?_
  refine V_iload_n (k := 0) dX11_couple_7 rfl rfl ?_
  refine V_iadd dX11_couple_8 ?_
  exact V_ret (fun _ => hI) (Or.inr (Or.inl ⟨rfl, _, rfl⟩)) dX11_couple_9 (fun ty x h1 h2 => by cases h1; rfl) rfl
def fX11_freeBits_34 (k21 : vM → Int32 → Int32 → Int32 → Option (vR × vM)) : Nat → vM → Int32 → Int32 → Int32 → Int32 → Option (vR × vM)
  | 0, _, _, _, _, _ => none
  | n9 + 1, M, x1, x2, x3, x4 => if x3 ≤ x4 then k21 M x1 x2 (x3 + 1) else if v_in x1 12 = true then if v_in x1 12 = true then if ((((M.1 137 (Int32.toNatClampNeg x1)) >>> (x4 &&& (31 : Int32))) &&& 1) + (((M.1 137 (Int32.toNatClampNeg x1)) >>> (x3 &&& (31 : Int32))) &&& 1)) ≤ 0 then fX11_freeBits_34 k21 n9 M x1 x2 x3 (x4 + 1) else bi (fX11_couple M x4 x3) fun y14 M15 => fX11_freeBits_34 k21 n9 M15 x1 (x2 ||| (1 <<< (y14 &&& (31 : Int32)))) x3 (x4 + 1) else none else none
set_option maxRecDepth 20000 in
set_option maxHeartbeats 2000000 in
theorem vX11_freeBits_34 {l : Launch} {D : va_G} {dA : Nat → ClassId} {k21 : vM → Int32 → Int32 → Int32 → Option (vR × vM)} (hk21 : ∀ (M : vM) (x1 : Int32) (x2 : Int32) (x3 : Int32), v_WT M.2.2 → V l D dA sX11_freeBits false 175 2 0 0 21 [(0, .ref 130), (1, .int x1), (2, .int x2), (3, .int x3)] [] 175 M (k21 M x1 x2 x3)) : ∀ (n9 : Nat) (M : vM) (x1 : Int32) (x2 : Int32) (x3 : Int32) (x4 : Int32), v_WT M.2.2 → V l D dA sX11_freeBits false 175 2 0 0 34 [(0, .ref 130), (1, .int x1), (2, .int x2), (3, .int x3), (4, .int x4)] [] 175 M (fX11_freeBits_34 k21 n9 M x1 x2 x3 x4) := by
  intro n9
  induction n9 with
  | zero => intros; exact V_none
  | succ n9 ih =>
    intro M x1 x2 x3 x4 hI
    refine V_iload (k := 4) dX11_freeBits_34 rfl ?_
    refine V_iload_n (k := 3) dX11_freeBits_36 rfl rfl ?_
    refine V_icmpge (tgt := 82) dX11_freeBits_37 (by decide) (fun h10 => ?_) (fun h10 => ?_)
    · refine V_iinc (k := 3) (v := x3 + 1) (lv' := [(3, .int (x3 + 1)), (0, .ref 130), (1, .int x1), (2, .int x2), (4, .int x4)]) dX11_freeBits_82 rfl rfl (by decide) rfl ?_
      refine V_goto (tgt := 21) dX11_freeBits_85 (by decide) ?_
      refine V_sub [1, 2, 3, 0] rfl ?_
      exact hk21 M x1 x2 (x3 + 1) hI
    · refine V_aload_n (k := 0) dX11_freeBits_40 rfl rfl ?_
      refine V_getr (k := 137) dX11_freeBits_41 rfl (by decide) vf_X11_37 (by decide) (v_fin hI 124 rfl) ?_
      refine V_iload_n (k := 1) dX11_freeBits_44 rfl rfl ?_
      refine V_iald dX11_freeBits_45 rfl (by decide) (fun h11 => ?_)
      refine V_iload (k := 4) dX11_freeBits_46 rfl ?_
      refine V_ishr dX11_freeBits_48 ?_
      refine V_iconst (v := 1) dX11_freeBits_49 rfl ?_
      refine V_iand dX11_freeBits_50 ?_
      refine V_aload_n (k := 0) dX11_freeBits_51 rfl rfl ?_
      refine V_getr (k := 137) dX11_freeBits_52 rfl (by decide) vf_X11_37 (by decide) (v_fin hI 124 rfl) ?_
      refine V_iload_n (k := 1) dX11_freeBits_55 rfl rfl ?_
      refine V_iald dX11_freeBits_56 rfl (by decide) (fun h12 => ?_)
      refine V_iload_n (k := 3) dX11_freeBits_57 rfl rfl ?_
      refine V_ishr dX11_freeBits_58 ?_
      refine V_iconst (v := 1) dX11_freeBits_59 rfl ?_
      refine V_iand dX11_freeBits_60 ?_
      refine V_iadd dX11_freeBits_61 ?_
      refine V_ifle (tgt := 76) dX11_freeBits_62 (by decide) (fun h13 => ?_) (fun h13 => ?_)
      · refine V_iinc (k := 4) (v := x4 + 1) (lv' := [(4, .int (x4 + 1)), (0, .ref 130), (1, .int x1), (2, .int x2), (3, .int x3)]) dX11_freeBits_76 rfl rfl (by decide) rfl ?_
        refine V_goto (tgt := 34) dX11_freeBits_79 (by decide) ?_
        refine V_sub [1, 2, 3, 4, 0] rfl ?_
        exact ih M x1 x2 x3 (x4 + 1) hI
      · refine V_iload_n (k := 2) dX11_freeBits_65 rfl rfl ?_
        refine V_iconst (v := 1) dX11_freeBits_66 rfl ?_
        refine V_iload (k := 4) dX11_freeBits_67 rfl ?_
        refine V_iload_n (k := 3) dX11_freeBits_69 rfl rfl ?_
        refine V_callSi (st0 := [.int 1, .int x2]) (kc' := 0) (ks' := 0) dX11_freeBits_70 lk_X11_330 rfl (cX11_couple_ok M x4 x3 hI) rfl rfl (by decide) (by decide) (Nat.le_of_ble_eq_true rfl) (Or.inl rfl) rfl rfl (by decide) (by decide) (fun y14 M15 e16 hI17 => ?_)
        refine V_ishl dX11_freeBits_73 ?_
        refine V_ior dX11_freeBits_74 ?_
        refine V_istore_n (lv' := [(2, .int (x2 ||| (1 <<< (y14 &&& (31 : Int32))))), (0, .ref 130), (1, .int x1), (3, .int x3), (4, .int x4)]) dX11_freeBits_75 rfl (by decide) rfl ?_
        refine V_iinc (k := 4) (v := x4 + 1) (lv' := [(4, .int (x4 + 1)), (2, .int (x2 ||| (1 <<< (y14 &&& (31 : Int32))))), (0, .ref 130), (1, .int x1), (3, .int x3)]) dX11_freeBits_76 rfl rfl (by decide) rfl ?_
        refine V_goto (tgt := 34) dX11_freeBits_79 (by decide) ?_
        refine V_sub [2, 3, 1, 4, 0] rfl ?_
        exact ih M15 x1 (x2 ||| (1 <<< (y14 &&& (31 : Int32)))) x3 (x4 + 1) hI17
def fX11_freeBits_21 : Nat → vM → Int32 → Int32 → Int32 → Option (vR × vM)
  | 0, _, _, _, _ => none
  | n9 + 1, M, x1, x2, x3 => if v_in x1 12 = true then if (M.1 136 (Int32.toNatClampNeg x1)) ≤ x3 then rI x2 M else fX11_freeBits_34 (fX11_freeBits_21 n9) FU M x1 x2 x3 0 else none
set_option maxRecDepth 20000 in
set_option maxHeartbeats 2000000 in
theorem vX11_freeBits_21 {l : Launch} {D : va_G} {dA : Nat → ClassId} : ∀ (n9 : Nat) (M : vM) (x1 : Int32) (x2 : Int32) (x3 : Int32), v_WT M.2.2 → V l D dA sX11_freeBits false 175 2 0 0 21 [(0, .ref 130), (1, .int x1), (2, .int x2), (3, .int x3)] [] 175 M (fX11_freeBits_21 n9 M x1 x2 x3) := by
  intro n9
  induction n9 with
  | zero => intros; exact V_none
  | succ n9 ih =>
    intro M x1 x2 x3 hI
    refine V_iload_n (k := 3) dX11_freeBits_21 rfl rfl ?_
    refine V_aload_n (k := 0) dX11_freeBits_22 rfl rfl ?_
    refine V_getr (k := 136) dX11_freeBits_23 rfl (by decide) vf_X11_34 (by decide) (v_fin hI 123 rfl) ?_
    refine V_iload_n (k := 1) dX11_freeBits_26 rfl rfl ?_
    refine V_iald dX11_freeBits_27 rfl (by decide) (fun h18 => ?_)
    refine V_icmpge (tgt := 88) dX11_freeBits_28 (by decide) (fun h19 => ?_) (fun h19 => ?_)
    · refine V_iload_n (k := 2) dX11_freeBits_88 rfl rfl ?_
      exact V_ret (fun _ => hI) (Or.inr (Or.inl ⟨rfl, _, rfl⟩)) dX11_freeBits_89 (fun ty x h1 h2 => by cases h1; rfl) rfl
    · refine V_iconst (v := 0) dX11_freeBits_31 rfl ?_
      refine V_istore (lv' := [(4, .int 0), (0, .ref 130), (1, .int x1), (2, .int x2), (3, .int x3)]) dX11_freeBits_32 (by decide) rfl ?_
      refine V_sub [1, 2, 3, 4, 0] rfl ?_
      exact vX11_freeBits_34 (ih) FU M x1 x2 x3 0 hI
def fX11_freeBits (M : vM) (x1 : Int32) : Option (vR × vM) := if v_in x1 12 = true then if (M.1 132 (Int32.toNatClampNeg x1)) = 2 then fX11_freeBits_21 FU M x1 0 0 else if v_in x1 12 = true then rI (M.1 137 (Int32.toNatClampNeg x1)) M else none else none
set_option maxRecDepth 20000 in
set_option maxHeartbeats 2000000 in
theorem cX11_freeBits_ok {l : Launch} {D : va_G} {dA : Nat → ClassId} (M : vM) (x1 : Int32) (hI : v_WT M.2.2) : Ct l D dA sX11_freeBits false 175 2 0 0 175 [.ref 130, .int x1] M (fX11_freeBits M x1) := by
  refine Ct_of (lv := [(0, .ref 130), (1, .int x1)]) (by decide +kernel) rfl (Nat.le_of_ble_eq_true rfl) rfl (fun h => by cases h) ?_
  refine V_aload_n (k := 0) dX11_freeBits_0 rfl rfl ?_
  refine V_getr (k := 132) dX11_freeBits_1 rfl (by decide) vf_X11_21 (by decide) (v_fin hI 119 rfl) ?_
  refine V_iload_n (k := 1) dX11_freeBits_4 rfl rfl ?_
  refine V_iald dX11_freeBits_5 rfl (by decide) (fun h20 => ?_)
  refine V_iconst (v := 2) dX11_freeBits_6 rfl ?_
  refine V_icmpeq (tgt := 17) dX11_freeBits_7 (by decide) (fun h21 => ?_) (fun h21 => ?_)
  · refine V_iconst (v := 0) dX11_freeBits_17 rfl ?_
    refine V_istore_n (lv' := [(2, .int 0), (0, .ref 130), (1, .int x1)]) dX11_freeBits_18 rfl (by decide) rfl ?_
    refine V_iconst (v := 0) dX11_freeBits_19 rfl ?_
    refine V_istore_n (lv' := [(3, .int 0), (2, .int 0), (0, .ref 130), (1, .int x1)]) dX11_freeBits_20 rfl (by decide) rfl ?_
    refine V_sub [2, 3, 1, 0] rfl ?_
    exact vX11_freeBits_21 FU M x1 0 0 hI
  · refine V_aload_n (k := 0) dX11_freeBits_10 rfl rfl ?_
    refine V_getr (k := 137) dX11_freeBits_11 rfl (by decide) vf_X11_37 (by decide) (v_fin hI 124 rfl) ?_
    refine V_iload_n (k := 1) dX11_freeBits_14 rfl rfl ?_
    refine V_iald dX11_freeBits_15 rfl (by decide) (fun h22 => ?_)
    exact V_ret (fun _ => hI) (Or.inr (Or.inl ⟨rfl, _, rfl⟩)) dX11_freeBits_16 (fun ty x h1 h2 => by cases h1; rfl) rfl
def fX11_bitsOf_4 : Nat → vM → Int32 → Int32 → Option (vR × vM)
  | 0, _, _, _ => none
  | n9 + 1, M, x1, x2 => if x2 = 0 then rI x1 M else fX11_bitsOf_4 n9 M (x1 + 1) (x2 &&& (x2 - 1))
set_option maxRecDepth 20000 in
set_option maxHeartbeats 2000000 in
theorem vX11_bitsOf_4 {l : Launch} {D : va_G} {dA : Nat → ClassId} : ∀ (n9 : Nat) (M : vM) (x1 : Int32) (x2 : Int32), v_WT M.2.2 → V l D dA sX11_bitsOf false 175 1 0 0 4 [(1, .int x1), (2, .int x2)] [] 175 M (fX11_bitsOf_4 n9 M x1 x2) := by
  intro n9
  induction n9 with
  | zero => intros; exact V_none
  | succ n9 ih =>
    intro M x1 x2 hI
    refine V_iload_n (k := 1) dX11_bitsOf_4 rfl rfl ?_
    refine V_ifeq (tgt := 20) dX11_bitsOf_5 (by decide) (fun h2 => ?_) (fun h2 => ?_)
    · refine V_iload_n (k := 0) dX11_bitsOf_20 rfl rfl ?_
      exact V_ret (fun _ => hI) (Or.inr (Or.inl ⟨rfl, _, rfl⟩)) dX11_bitsOf_21 (fun ty x h1 h2 => by cases h1; rfl) rfl
    · refine V_iinc (k := 0) (v := x1 + 1) (lv' := [(1, .int (x1 + 1)), (2, .int x2)]) dX11_bitsOf_8 rfl rfl (by decide) rfl ?_
      refine V_iload_n (k := 1) dX11_bitsOf_11 rfl rfl ?_
      refine V_iload_n (k := 1) dX11_bitsOf_12 rfl rfl ?_
      refine V_iconst (v := 1) dX11_bitsOf_13 rfl ?_
      refine V_isub dX11_bitsOf_14 ?_
      refine V_iand dX11_bitsOf_15 ?_
      refine V_istore_n (lv' := [(2, .int (x2 &&& (x2 - 1))), (1, .int (x1 + 1))]) dX11_bitsOf_16 rfl (by decide) rfl ?_
      refine V_goto (tgt := 4) dX11_bitsOf_17 (by decide) ?_
      refine V_sub [1, 0] rfl ?_
      exact ih M (x1 + 1) (x2 &&& (x2 - 1)) hI
def fX11_bitsOf (M : vM) (x0 : Int32) : Option (vR × vM) := fX11_bitsOf_4 FU M 0 x0
set_option maxRecDepth 20000 in
set_option maxHeartbeats 2000000 in
theorem cX11_bitsOf_ok {l : Launch} {D : va_G} {dA : Nat → ClassId} (M : vM) (x0 : Int32) (hI : v_WT M.2.2) : Ct l D dA sX11_bitsOf false 175 1 0 0 175 [.int x0] M (fX11_bitsOf M x0) := by
  refine Ct_of (lv := [(0, .int x0)]) (by decide +kernel) rfl (Nat.le_of_ble_eq_true rfl) rfl (fun h => by cases h) ?_
  refine V_iconst (v := 0) dX11_bitsOf_0 rfl ?_
  refine V_istore_n (lv' := [(1, .int 0), (0, .int x0)]) dX11_bitsOf_1 rfl (by decide) rfl ?_
  refine V_iload_n (k := 1) dX11_bitsOf_2 rfl rfl ?_
  refine V_istore_n (lv' := [(2, .int x0), (1, .int 0), (0, .int x0)]) dX11_bitsOf_3 rfl (by decide) rfl ?_
  refine V_sub [1, 0] rfl ?_
  exact vX11_bitsOf_4 FU M 0 x0 hI
def fX11_areSame (M : vM) (x0 : Int32) (x1 : Int32) (x2 : Int32) (x3 : Int32) (x4 : Int32) : Option (vR × vM) := if x2 = 0 then if (x0 ^^^ x1) = 0 then rI 1 M else rI 0 M else if x2 = 1 then if ((x0 ^^^ x1) &&& (x3 ^^^ ((-1)))) = 0 then rI 1 M else rI 0 M else bi (fX11_bitsOf M (x0 ^^^ x1)) fun y8 M9 => if x4 ≤ y8 then rI 0 M9 else rI 1 M9
set_option maxRecDepth 20000 in
set_option maxHeartbeats 2000000 in
theorem cX11_areSame_ok {l : Launch} {D : va_G} {dA : Nat → ClassId} (M : vM) (x0 : Int32) (x1 : Int32) (x2 : Int32) (x3 : Int32) (x4 : Int32) (hI : v_WT M.2.2) : Ct l D dA sX11_areSame false 175 2 0 0 175 [.int x0, .int x1, .int x2, .int x3, .int x4] M (fX11_areSame M x0 x1 x2 x3 x4) := by
  refine Ct_of (lv := [(0, .int x0), (1, .int x1), (2, .int x2), (3, .int x3), (4, .int x4)]) (by decide +kernel) rfl (Nat.le_of_ble_eq_true rfl) rfl (fun h => by cases h) ?_
  refine V_iload_n (k := 0) dX11_areSame_0 rfl rfl ?_
  refine V_iload_n (k := 1) dX11_areSame_1 rfl rfl ?_
  refine V_ixor dX11_areSame_2 ?_
  refine V_istore (lv' := [(5, .int (x0 ^^^ x1)), (0, .int x0), (1, .int x1), (2, .int x2), (3, .int x3), (4, .int x4)]) dX11_areSame_3 (by decide) rfl ?_
  refine V_iload_n (k := 3) dX11_areSame_5 rfl rfl ?_
  refine V_ifne (tgt := 22) dX11_areSame_6 (by decide) (fun h6 => ?_) (fun h6 => ?_)
  · refine V_iload_n (k := 3) dX11_areSame_22 rfl rfl ?_
    refine V_iconst (v := 1) dX11_areSame_23 rfl ?_
    refine V_icmpne (tgt := 44) dX11_areSame_24 (by decide) (fun h7 => ?_) (fun h7 => ?_)
    · refine V_iload (k := 0) dX11_areSame_44 rfl ?_
      refine V_callSi (st0 := []) (kc' := 0) (ks' := 0) dX11_areSame_46 lk_X11_324 rfl (cX11_bitsOf_ok M (x0 ^^^ x1) hI) rfl rfl (by decide) (by decide) (Nat.le_of_ble_eq_true rfl) (Or.inl rfl) rfl rfl (by decide) (by decide) (fun y8 M9 e10 hI11 => ?_)
      refine V_iload (k := 5) dX11_areSame_49 rfl ?_
      refine V_icmpge (tgt := 58) dX11_areSame_51 (by decide) (fun h12 => ?_) (fun h12 => ?_)
      · refine V_iconst (v := 0) dX11_areSame_58 rfl ?_
        exact V_ret (fun _ => hI11) (Or.inr (Or.inr (Or.inl ⟨rfl, _, rfl⟩))) dX11_areSame_59 (fun ty x h1 h2 => by cases h1; cases h2; rfl) rfl
      · refine V_iconst (v := 1) dX11_areSame_54 rfl ?_
        refine V_goto (tgt := 59) dX11_areSame_55 (by decide) ?_
        exact V_ret (fun _ => hI11) (Or.inr (Or.inr (Or.inl ⟨rfl, _, rfl⟩))) dX11_areSame_59 (fun ty x h1 h2 => by cases h1; cases h2; rfl) rfl
    · refine V_iload (k := 0) dX11_areSame_27 rfl ?_
      refine V_iload_n (k := 4) dX11_areSame_29 rfl rfl ?_
      refine V_iconst (v := (-1)) dX11_areSame_30 rfl ?_
      refine V_ixor dX11_areSame_31 ?_
      refine V_iand dX11_areSame_32 ?_
      refine V_ifne (tgt := 40) dX11_areSame_33 (by decide) (fun h13 => ?_) (fun h13 => ?_)
      · refine V_iconst (v := 0) dX11_areSame_40 rfl ?_
        refine V_goto (tgt := 59) dX11_areSame_41 (by decide) ?_
        exact V_ret (fun _ => hI) (Or.inr (Or.inr (Or.inl ⟨rfl, _, rfl⟩))) dX11_areSame_59 (fun ty x h1 h2 => by cases h1; cases h2; rfl) rfl
      · refine V_iconst (v := 1) dX11_areSame_36 rfl ?_
        refine V_goto (tgt := 59) dX11_areSame_37 (by decide) ?_
        exact V_ret (fun _ => hI) (Or.inr (Or.inr (Or.inl ⟨rfl, _, rfl⟩))) dX11_areSame_59 (fun ty x h1 h2 => by cases h1; cases h2; rfl) rfl
  · refine V_iload (k := 0) dX11_areSame_9 rfl ?_
    refine V_ifne (tgt := 18) dX11_areSame_11 (by decide) (fun h14 => ?_) (fun h14 => ?_)
    · refine V_iconst (v := 0) dX11_areSame_18 rfl ?_
      refine V_goto (tgt := 59) dX11_areSame_19 (by decide) ?_
      exact V_ret (fun _ => hI) (Or.inr (Or.inr (Or.inl ⟨rfl, _, rfl⟩))) dX11_areSame_59 (fun ty x h1 h2 => by cases h1; cases h2; rfl) rfl
    · refine V_iconst (v := 1) dX11_areSame_14 rfl ?_
      refine V_goto (tgt := 59) dX11_areSame_15 (by decide) ?_
      exact V_ret (fun _ => hI) (Or.inr (Or.inr (Or.inl ⟨rfl, _, rfl⟩))) dX11_areSame_59 (fun ty x h1 h2 => by cases h1; cases h2; rfl) rfl
def fX11_alike_27 (M : vM) (x1 : Int32) (s0 : Int32) (s1 : Int32) (s2 : Int32) (s3 : Int32) : Option (vR × vM) := if v_in x1 12 = true then bi (fX11_areSame M s0 s1 s2 s3 (M.1 135 (Int32.toNatClampNeg x1))) fun y6 M7 => if v_nz y6 = y6 then rI y6 M7 else none else none
set_option maxRecDepth 20000 in
set_option maxHeartbeats 2000000 in
theorem vX11_alike_27 {l : Launch} {D : va_G} {dA : Nat → ClassId} : ∀ (M : vM) (x1 : Int32) (s0 : Int32) (s1 : Int32) (s2 : Int32) (s3 : Int32), v_WT M.2.2 → V l D dA sX11_alike false 175 3 0 0 27 [(0, .ref 130), (1, .int x1)] [.int s3, .int s2, .int s1, .int s0] 175 M (fX11_alike_27 M x1 s0 s1 s2 s3) := by
  intro M x1 s0 s1 s2 s3 hI
  refine V_aload_n (k := 0) dX11_alike_27 rfl rfl ?_
  refine V_getr (k := 135) dX11_alike_28 rfl (by decide) vf_X11_31 (by decide) (v_fin hI 122 rfl) ?_
  refine V_iload_n (k := 1) dX11_alike_31 rfl rfl ?_
  refine V_iald dX11_alike_32 rfl (by decide) (fun h5 => ?_)
  refine V_callSi (st0 := []) (kc' := 0) (ks' := 0) dX11_alike_33 lk_X11_345 rfl (cX11_areSame_ok M s0 s1 s2 s3 (M.1 135 (Int32.toNatClampNeg x1)) hI) rfl rfl (by decide) (by decide) (Nat.le_of_ble_eq_true rfl) (Or.inl rfl) rfl rfl (by decide) (by decide) (fun y6 M7 e8 hI9 => ?_)
  exact V_retz (fun _ => hI9) rfl dX11_alike_36
def fX11_alike (M : vM) (x1 : Int32) (x2 : Int32) (x3 : Int32) : Option (vR × vM) := if v_in x1 12 = true then if v_in x1 12 = true then if (M.1 134 (Int32.toNatClampNeg x1)) = 1 then bi (fX11_freeBits M x1) fun y13 M14 => fX11_alike_27 M14 x1 x2 x3 (M.1 134 (Int32.toNatClampNeg x1)) y13 else fX11_alike_27 M x1 x2 x3 (M.1 134 (Int32.toNatClampNeg x1)) 0 else none else none
set_option maxRecDepth 20000 in
set_option maxHeartbeats 2000000 in
theorem cX11_alike_ok {l : Launch} {D : va_G} {dA : Nat → ClassId} (M : vM) (x1 : Int32) (x2 : Int32) (x3 : Int32) (hI : v_WT M.2.2) : Ct l D dA sX11_alike false 175 3 0 0 175 [.ref 130, .int x1, .int x2, .int x3] M (fX11_alike M x1 x2 x3) := by
  refine Ct_of (lv := [(0, .ref 130), (1, .int x1), (2, .int x2), (3, .int x3)]) (by decide +kernel) rfl (Nat.le_of_ble_eq_true rfl) rfl (fun h => by cases h) ?_
  refine V_iload_n (k := 2) dX11_alike_0 rfl rfl ?_
  refine V_iload_n (k := 3) dX11_alike_1 rfl rfl ?_
  refine V_aload_n (k := 0) dX11_alike_2 rfl rfl ?_
  refine V_getr (k := 134) dX11_alike_3 rfl (by decide) vf_X11_28 (by decide) (v_fin hI 121 rfl) ?_
  refine V_iload_n (k := 1) dX11_alike_6 rfl rfl ?_
  refine V_iald dX11_alike_7 rfl (by decide) (fun h10 => ?_)
  refine V_aload_n (k := 0) dX11_alike_8 rfl rfl ?_
  refine V_getr (k := 134) dX11_alike_9 rfl (by decide) vf_X11_28 (by decide) (v_fin hI 121 rfl) ?_
  refine V_iload_n (k := 1) dX11_alike_12 rfl rfl ?_
  refine V_iald dX11_alike_13 rfl (by decide) (fun h11 => ?_)
  refine V_iconst (v := 1) dX11_alike_14 rfl ?_
  refine V_icmpne (tgt := 26) dX11_alike_15 (by decide) (fun h12 => ?_) (fun h12 => ?_)
  · refine V_iconst (v := 0) dX11_alike_26 rfl ?_
    refine V_sub [0, 1] rfl ?_
    exact vX11_alike_27 M x1 x2 x3 (M.1 134 (Int32.toNatClampNeg x1)) 0 hI
  · refine V_aload_n (k := 0) dX11_alike_18 rfl rfl ?_
    refine V_iload_n (k := 1) dX11_alike_19 rfl rfl ?_
    refine V_callVi (q := (RX11, TX11, 61)) (cls := 11) (st0 := [.int (M.1 134 (Int32.toNatClampNeg x1)), .int x3, .int x2]) (kc' := 0) (ks' := 0) dX11_alike_20 lk_X11_342 rfl (by decide) rfl rfl rfl (cX11_freeBits_ok M x1 hI) rfl rfl (by decide) (by decide) (Nat.le_of_ble_eq_true rfl) (Or.inl rfl) rfl rfl (by decide) (by decide) (fun y13 M14 e15 hI16 => ?_)
    refine V_goto (tgt := 27) dX11_alike_23 (by decide) ?_
    refine V_sub [0, 1] rfl ?_
    exact vX11_alike_27 M14 x1 x2 x3 (M.1 134 (Int32.toNatClampNeg x1)) y13 hI16
def fX11_isIn (M : vM) (x0 : Int32) (x1 : Int32) (x2 : Int32) : Option (vR × vM) := if x0 < x1 then rI 0 M else if x2 < x0 then rI 0 M else rI 1 M
set_option maxRecDepth 20000 in
set_option maxHeartbeats 2000000 in
theorem cX11_isIn_ok {l : Launch} {D : va_G} {dA : Nat → ClassId} (M : vM) (x0 : Int32) (x1 : Int32) (x2 : Int32) (hI : v_WT M.2.2) : Ct l D dA sX11_isIn false 175 1 0 0 175 [.int x0, .int x1, .int x2] M (fX11_isIn M x0 x1 x2) := by
  refine Ct_of (lv := [(0, .int x0), (1, .int x1), (2, .int x2)]) (by decide +kernel) rfl (Nat.le_of_ble_eq_true rfl) rfl (fun h => by cases h) ?_
  refine V_iload_n (k := 0) dX11_isIn_0 rfl rfl ?_
  refine V_iload_n (k := 1) dX11_isIn_1 rfl rfl ?_
  refine V_icmplt (tgt := 14) dX11_isIn_2 (by decide) (fun h3 => ?_) (fun h3 => ?_)
  · refine V_iconst (v := 0) dX11_isIn_14 rfl ?_
    exact V_ret (fun _ => hI) (Or.inr (Or.inr (Or.inl ⟨rfl, _, rfl⟩))) dX11_isIn_15 (fun ty x h1 h2 => by cases h1; cases h2; rfl) rfl
  · refine V_iload_n (k := 0) dX11_isIn_5 rfl rfl ?_
    refine V_iload_n (k := 2) dX11_isIn_6 rfl rfl ?_
    refine V_icmpgt (tgt := 14) dX11_isIn_7 (by decide) (fun h4 => ?_) (fun h4 => ?_)
    · refine V_iconst (v := 0) dX11_isIn_14 rfl ?_
      exact V_ret (fun _ => hI) (Or.inr (Or.inr (Or.inl ⟨rfl, _, rfl⟩))) dX11_isIn_15 (fun ty x h1 h2 => by cases h1; cases h2; rfl) rfl
    · refine V_iconst (v := 1) dX11_isIn_10 rfl ?_
      refine V_goto (tgt := 15) dX11_isIn_11 (by decide) ?_
      exact V_ret (fun _ => hI) (Or.inr (Or.inr (Or.inl ⟨rfl, _, rfl⟩))) dX11_isIn_15 (fun ty x h1 h2 => by cases h1; cases h2; rfl) rfl
def fX11_isWork (M : vM) (x1 : Int32) : Option (vR × vM) := bi (fX11_isIn M x1 0 ((M.1 130 2) - 1)) fun y1 M2 => if v_nz y1 = y1 then rI y1 M2 else none
set_option maxRecDepth 20000 in
set_option maxHeartbeats 2000000 in
theorem cX11_isWork_ok {l : Launch} {D : va_G} {dA : Nat → ClassId} (M : vM) (x1 : Int32) (hI : v_WT M.2.2) : Ct l D dA sX11_isWork false 175 2 0 0 175 [.ref 130, .int x1] M (fX11_isWork M x1) := by
  refine Ct_of (lv := [(0, .ref 130), (1, .int x1)]) (by decide +kernel) rfl (Nat.le_of_ble_eq_true rfl) rfl (fun h => by cases h) ?_
  refine V_iload_n (k := 1) dX11_isWork_0 rfl rfl ?_
  refine V_iconst (v := 0) dX11_isWork_1 rfl ?_
  refine V_aload_n (k := 0) dX11_isWork_2 rfl rfl ?_
  refine V_geti dX11_isWork_3 rfl (by decide) vf_X11_157 (by decide) ?_
  refine V_iconst (v := 1) dX11_isWork_6 rfl ?_
  refine V_isub dX11_isWork_7 ?_
  refine V_callSi (st0 := []) (kc' := 0) (ks' := 0) dX11_isWork_8 lk_X11_160 rfl (cX11_isIn_ok M x1 0 ((M.1 130 2) - 1) hI) rfl rfl (by decide) (by decide) (Nat.le_of_ble_eq_true rfl) (Or.inl rfl) rfl rfl (by decide) (by decide) (fun y1 M2 e3 hI4 => ?_)
  exact V_retz (fun _ => hI4) rfl dX11_isWork_11
def fX11_fail (M : vM) (x1 : Int32) : Option (vR × vM) := rI 0 (v_si M 130 1 x1)
set_option maxRecDepth 20000 in
set_option maxHeartbeats 2000000 in
theorem cX11_fail_ok {l : Launch} {D : va_G} {dA : Nat → ClassId} (M : vM) (x1 : Int32) (hI : v_WT M.2.2) : Ct l D dA sX11_fail false 175 1 0 0 175 [.ref 130, .int x1] M (fX11_fail M x1) := by
  refine Ct_of (lv := [(0, .ref 130), (1, .int x1)]) (by decide +kernel) rfl (Nat.le_of_ble_eq_true rfl) rfl (fun h => by cases h) ?_
  refine V_aload_n (k := 0) dX11_fail_0 rfl rfl ?_
  refine V_iload_n (k := 1) dX11_fail_1 rfl rfl ?_
  refine V_puti dX11_fail_2 rfl (by decide) vf_X11_154 (by decide) rfl rfl ?_
  refine V_iconst (v := 0) dX11_fail_5 rfl ?_
  exact V_ret (fun _ => hI) (Or.inr (Or.inl ⟨rfl, _, rfl⟩)) dX11_fail_6 (fun ty x h1 h2 => by cases h1; rfl) rfl
def fX11_leftOf_4 : Nat → vM → Int32 → Int32 → Int32 → Option (vR × vM)
  | 0, _, _, _, _ => none
  | n9 + 1, M, x1, x2, x3 => if v_in x1 6 = true then if (M.1 145 (Int32.toNatClampNeg x1)) ≤ x3 then rI x2 M else if v_in ((2000 * x1) + x3) 12000 = true then if (M.1 148 (Int32.toNatClampNeg ((2000 * x1) + x3))) = 0 then fX11_leftOf_4 n9 M x1 (x2 + 1) (x3 + 1) else fX11_leftOf_4 n9 M x1 (x2 + 0) (x3 + 1) else none else none
set_option maxRecDepth 20000 in
set_option maxHeartbeats 2000000 in
theorem vX11_leftOf_4 {l : Launch} {D : va_G} {dA : Nat → ClassId} : ∀ (n9 : Nat) (M : vM) (x1 : Int32) (x2 : Int32) (x3 : Int32), v_WT M.2.2 → V l D dA sX11_leftOf false 175 1 0 0 4 [(0, .ref 130), (1, .int x1), (2, .int x2), (3, .int x3)] [] 175 M (fX11_leftOf_4 n9 M x1 x2 x3) := by
  intro n9
  induction n9 with
  | zero => intros; exact V_none
  | succ n9 ih =>
    intro M x1 x2 x3 hI
    refine V_iload_n (k := 3) dX11_leftOf_4 rfl rfl ?_
    refine V_aload_n (k := 0) dX11_leftOf_5 rfl rfl ?_
    refine V_getr (k := 145) dX11_leftOf_6 rfl (by decide) vf_X11_61 (by decide) (v_fin hI 132 rfl) ?_
    refine V_iload_n (k := 1) dX11_leftOf_9 rfl rfl ?_
    refine V_iald dX11_leftOf_10 rfl (by decide) (fun h5 => ?_)
    refine V_icmpge (tgt := 43) dX11_leftOf_11 (by decide) (fun h6 => ?_) (fun h6 => ?_)
    · refine V_iload_n (k := 2) dX11_leftOf_43 rfl rfl ?_
      exact V_ret (fun _ => hI) (Or.inr (Or.inl ⟨rfl, _, rfl⟩)) dX11_leftOf_44 (fun ty x h1 h2 => by cases h1; rfl) rfl
    · refine V_iload_n (k := 2) dX11_leftOf_14 rfl rfl ?_
      refine V_aload_n (k := 0) dX11_leftOf_15 rfl rfl ?_
      refine V_getr (k := 148) dX11_leftOf_16 rfl (by decide) vf_X11_70 (by decide) (v_fin hI 135 rfl) ?_
      refine V_sipush (v := 2000) dX11_leftOf_19 rfl ?_
      refine V_iload_n (k := 1) dX11_leftOf_22 rfl rfl ?_
      refine V_imul dX11_leftOf_23 ?_
      refine V_iload_n (k := 3) dX11_leftOf_24 rfl rfl ?_
      refine V_iadd dX11_leftOf_25 ?_
      refine V_zald dX11_leftOf_26 rfl (by decide) (fun h7 => ?_)
      refine V_ifeq (tgt := 34) dX11_leftOf_27 (by decide) (fun h8 => ?_) (fun h8 => ?_)
      · refine V_iconst (v := 1) dX11_leftOf_34 rfl ?_
        refine V_iadd dX11_leftOf_35 ?_
        refine V_istore_n (lv' := [(2, .int (x2 + 1)), (0, .ref 130), (1, .int x1), (3, .int x3)]) dX11_leftOf_36 rfl (by decide) rfl ?_
        refine V_iinc (k := 3) (v := x3 + 1) (lv' := [(3, .int (x3 + 1)), (2, .int (x2 + 1)), (0, .ref 130), (1, .int x1)]) dX11_leftOf_37 rfl rfl (by decide) rfl ?_
        refine V_goto (tgt := 4) dX11_leftOf_40 (by decide) ?_
        refine V_sub [2, 3, 1, 0] rfl ?_
        exact ih M x1 (x2 + 1) (x3 + 1) hI
      · refine V_iconst (v := 0) dX11_leftOf_30 rfl ?_
        refine V_goto (tgt := 35) dX11_leftOf_31 (by decide) ?_
        refine V_iadd dX11_leftOf_35 ?_
        refine V_istore_n (lv' := [(2, .int (x2 + 0)), (0, .ref 130), (1, .int x1), (3, .int x3)]) dX11_leftOf_36 rfl (by decide) rfl ?_
        refine V_iinc (k := 3) (v := x3 + 1) (lv' := [(3, .int (x3 + 1)), (2, .int (x2 + 0)), (0, .ref 130), (1, .int x1)]) dX11_leftOf_37 rfl rfl (by decide) rfl ?_
        refine V_goto (tgt := 4) dX11_leftOf_40 (by decide) ?_
        refine V_sub [2, 3, 1, 0] rfl ?_
        exact ih M x1 (x2 + 0) (x3 + 1) hI
def fX11_leftOf (M : vM) (x1 : Int32) : Option (vR × vM) := fX11_leftOf_4 FU M x1 0 0
set_option maxRecDepth 20000 in
set_option maxHeartbeats 2000000 in
theorem cX11_leftOf_ok {l : Launch} {D : va_G} {dA : Nat → ClassId} (M : vM) (x1 : Int32) (hI : v_WT M.2.2) : Ct l D dA sX11_leftOf false 175 1 0 0 175 [.ref 130, .int x1] M (fX11_leftOf M x1) := by
  refine Ct_of (lv := [(0, .ref 130), (1, .int x1)]) (by decide +kernel) rfl (Nat.le_of_ble_eq_true rfl) rfl (fun h => by cases h) ?_
  refine V_iconst (v := 0) dX11_leftOf_0 rfl ?_
  refine V_istore_n (lv' := [(2, .int 0), (0, .ref 130), (1, .int x1)]) dX11_leftOf_1 rfl (by decide) rfl ?_
  refine V_iconst (v := 0) dX11_leftOf_2 rfl ?_
  refine V_istore_n (lv' := [(3, .int 0), (2, .int 0), (0, .ref 130), (1, .int x1)]) dX11_leftOf_3 rfl (by decide) rfl ?_
  refine V_sub [2, 3, 1, 0] rfl ?_
  exact vX11_leftOf_4 FU M x1 0 0 hI
def fX11_leftAt_5 : Nat → vM → Int32 → Int32 → Int32 → Int32 → Option (vR × vM)
  | 0, _, _, _, _, _ => none
  | n9 + 1, M, x1, x2, x3, x4 => if v_in x1 6 = true then if (M.1 145 (Int32.toNatClampNeg x1)) ≤ x4 then rI ((-1)) M else if v_in ((2000 * x1) + x4) 12000 = true then if (M.1 148 (Int32.toNatClampNeg ((2000 * x1) + x4))) = 0 then if x3 = x2 then rI x4 M else fX11_leftAt_5 n9 M x1 x2 (x3 + 1) (x4 + 1) else fX11_leftAt_5 n9 M x1 x2 x3 (x4 + 1) else none else none
set_option maxRecDepth 20000 in
set_option maxHeartbeats 2000000 in
theorem vX11_leftAt_5 {l : Launch} {D : va_G} {dA : Nat → ClassId} : ∀ (n9 : Nat) (M : vM) (x1 : Int32) (x2 : Int32) (x3 : Int32) (x4 : Int32), v_WT M.2.2 → V l D dA sX11_leftAt false 175 1 0 0 5 [(0, .ref 130), (1, .int x1), (2, .int x2), (3, .int x3), (4, .int x4)] [] 175 M (fX11_leftAt_5 n9 M x1 x2 x3 x4) := by
  intro n9
  induction n9 with
  | zero => intros; exact V_none
  | succ n9 ih =>
    intro M x1 x2 x3 x4 hI
    refine V_iload (k := 4) dX11_leftAt_5 rfl ?_
    refine V_aload_n (k := 0) dX11_leftAt_7 rfl rfl ?_
    refine V_getr (k := 145) dX11_leftAt_8 rfl (by decide) vf_X11_61 (by decide) (v_fin hI 132 rfl) ?_
    refine V_iload_n (k := 1) dX11_leftAt_11 rfl rfl ?_
    refine V_iald dX11_leftAt_12 rfl (by decide) (fun h6 => ?_)
    refine V_icmpge (tgt := 52) dX11_leftAt_13 (by decide) (fun h7 => ?_) (fun h7 => ?_)
    · refine V_iconst (v := (-1)) dX11_leftAt_52 rfl ?_
      exact V_ret (fun _ => hI) (Or.inr (Or.inl ⟨rfl, _, rfl⟩)) dX11_leftAt_53 (fun ty x h1 h2 => by cases h1; rfl) rfl
    · refine V_aload_n (k := 0) dX11_leftAt_16 rfl rfl ?_
      refine V_getr (k := 148) dX11_leftAt_17 rfl (by decide) vf_X11_70 (by decide) (v_fin hI 135 rfl) ?_
      refine V_sipush (v := 2000) dX11_leftAt_20 rfl ?_
      refine V_iload_n (k := 1) dX11_leftAt_23 rfl rfl ?_
      refine V_imul dX11_leftAt_24 ?_
      refine V_iload (k := 4) dX11_leftAt_25 rfl ?_
      refine V_iadd dX11_leftAt_27 ?_
      refine V_zald dX11_leftAt_28 rfl (by decide) (fun h8 => ?_)
      refine V_ifeq (tgt := 35) dX11_leftAt_29 (by decide) (fun h9 => ?_) (fun h9 => ?_)
      · refine V_iload_n (k := 3) dX11_leftAt_35 rfl rfl ?_
        refine V_iload_n (k := 2) dX11_leftAt_36 rfl rfl ?_
        refine V_icmpne (tgt := 43) dX11_leftAt_37 (by decide) (fun h10 => ?_) (fun h10 => ?_)
        · refine V_iinc (k := 3) (v := x3 + 1) (lv' := [(3, .int (x3 + 1)), (0, .ref 130), (1, .int x1), (2, .int x2), (4, .int x4)]) dX11_leftAt_43 rfl rfl (by decide) rfl ?_
          refine V_iinc (k := 4) (v := x4 + 1) (lv' := [(4, .int (x4 + 1)), (3, .int (x3 + 1)), (0, .ref 130), (1, .int x1), (2, .int x2)]) dX11_leftAt_46 rfl rfl (by decide) rfl ?_
          refine V_goto (tgt := 5) dX11_leftAt_49 (by decide) ?_
          refine V_sub [2, 3, 4, 1, 0] rfl ?_
          exact ih M x1 x2 (x3 + 1) (x4 + 1) hI
        · refine V_iload (k := 4) dX11_leftAt_40 rfl ?_
          exact V_ret (fun _ => hI) (Or.inr (Or.inl ⟨rfl, _, rfl⟩)) dX11_leftAt_42 (fun ty x h1 h2 => by cases h1; rfl) rfl
      · refine V_goto (tgt := 46) dX11_leftAt_32 (by decide) ?_
        refine V_iinc (k := 4) (v := x4 + 1) (lv' := [(4, .int (x4 + 1)), (0, .ref 130), (1, .int x1), (2, .int x2), (3, .int x3)]) dX11_leftAt_46 rfl rfl (by decide) rfl ?_
        refine V_goto (tgt := 5) dX11_leftAt_49 (by decide) ?_
        refine V_sub [1, 2, 3, 4, 0] rfl ?_
        exact ih M x1 x2 x3 (x4 + 1) hI
def fX11_leftAt (M : vM) (x1 : Int32) (x2 : Int32) : Option (vR × vM) := fX11_leftAt_5 FU M x1 x2 0 0
set_option maxRecDepth 20000 in
set_option maxHeartbeats 2000000 in
theorem cX11_leftAt_ok {l : Launch} {D : va_G} {dA : Nat → ClassId} (M : vM) (x1 : Int32) (x2 : Int32) (hI : v_WT M.2.2) : Ct l D dA sX11_leftAt false 175 1 0 0 175 [.ref 130, .int x1, .int x2] M (fX11_leftAt M x1 x2) := by
  refine Ct_of (lv := [(0, .ref 130), (1, .int x1), (2, .int x2)]) (by decide +kernel) rfl (Nat.le_of_ble_eq_true rfl) rfl (fun h => by cases h) ?_
  refine V_iconst (v := 0) dX11_leftAt_0 rfl ?_
  refine V_istore_n (lv' := [(3, .int 0), (0, .ref 130), (1, .int x1), (2, .int x2)]) dX11_leftAt_1 rfl (by decide) rfl ?_
  refine V_iconst (v := 0) dX11_leftAt_2 rfl ?_
  refine V_istore (lv' := [(4, .int 0), (3, .int 0), (0, .ref 130), (1, .int x1), (2, .int x2)]) dX11_leftAt_3 (by decide) rfl ?_
  refine V_sub [2, 3, 4, 1, 0] rfl ?_
  exact vX11_leftAt_5 FU M x1 x2 0 0 hI
def fX11_markOf (M : vM) (x1 : Int32) (x2 : Int32) : Option (vR × vM) := if v_in ((2000 * x1) + x2) 12000 = true then rI (M.1 147 (Int32.toNatClampNeg ((2000 * x1) + x2))) M else none
set_option maxRecDepth 20000 in
set_option maxHeartbeats 2000000 in
theorem cX11_markOf_ok {l : Launch} {D : va_G} {dA : Nat → ClassId} (M : vM) (x1 : Int32) (x2 : Int32) (hI : v_WT M.2.2) : Ct l D dA sX11_markOf false 175 1 0 0 175 [.ref 130, .int x1, .int x2] M (fX11_markOf M x1 x2) := by
  refine Ct_of (lv := [(0, .ref 130), (1, .int x1), (2, .int x2)]) (by decide +kernel) rfl (Nat.le_of_ble_eq_true rfl) rfl (fun h => by cases h) ?_
  refine V_aload_n (k := 0) dX11_markOf_0 rfl rfl ?_
  refine V_getr (k := 147) dX11_markOf_1 rfl (by decide) vf_X11_67 (by decide) (v_fin hI 134 rfl) ?_
  refine V_sipush (v := 2000) dX11_markOf_4 rfl ?_
  refine V_iload_n (k := 1) dX11_markOf_7 rfl rfl ?_
  refine V_imul dX11_markOf_8 ?_
  refine V_iload_n (k := 2) dX11_markOf_9 rfl rfl ?_
  refine V_iadd dX11_markOf_10 ?_
  refine V_iald dX11_markOf_11 rfl (by decide) (fun h2 => ?_)
  exact V_ret (fun _ => hI) (Or.inr (Or.inl ⟨rfl, _, rfl⟩)) dX11_markOf_12 (fun ty x h1 h2 => by cases h1; rfl) rfl
def fX11_areApart_13 (k3 : vM → Int32 → Int32 → Int32 → Int32 → Option (vR × vM)) : Nat → vM → Int32 → Int32 → Int32 → Int32 → Int32 → Option (vR × vM)
  | 0, _, _, _, _, _, _ => none
  | n9 + 1, M, x1, x2, x3, x4, x5 => if x4 ≤ x5 then k3 M x1 x2 x3 (x4 + 1) else if ((x2 >>> (x4 &&& (31 : Int32))) &&& 1) = 1 then if ((x2 >>> (x5 &&& (31 : Int32))) &&& 1) = 1 then if v_in x4 14 = true then bi (fX11_markOf M x1 (M.1 158 (Int32.toNatClampNeg x4))) fun y12 M13 => if v_in x5 14 = true then bi (fX11_markOf M13 x1 (M13.1 158 (Int32.toNatClampNeg x5))) fun y17 M18 => bi (fX11_bitsOf M18 (y12 ^^^ y17)) fun y21 M22 => if x3 ≤ y21 then fX11_areApart_13 k3 n9 M22 x1 x2 x3 x4 (x5 + 1) else rI 0 M22 else none else none else fX11_areApart_13 k3 n9 M x1 x2 x3 x4 (x5 + 1) else k3 M x1 x2 x3 (x4 + 1)
set_option maxRecDepth 20000 in
set_option maxHeartbeats 2000000 in
theorem vX11_areApart_13 {l : Launch} {D : va_G} {dA : Nat → ClassId} {k3 : vM → Int32 → Int32 → Int32 → Int32 → Option (vR × vM)} (hk3 : ∀ (M : vM) (x1 : Int32) (x2 : Int32) (x3 : Int32) (x4 : Int32), v_WT M.2.2 → V l D dA sX11_areApart false 175 2 0 0 3 [(0, .ref 130), (1, .int x1), (2, .int x2), (3, .int x3), (4, .int x4)] [] 175 M (k3 M x1 x2 x3 x4)) : ∀ (n9 : Nat) (M : vM) (x1 : Int32) (x2 : Int32) (x3 : Int32) (x4 : Int32) (x5 : Int32), v_WT M.2.2 → V l D dA sX11_areApart false 175 2 0 0 13 [(0, .ref 130), (1, .int x1), (2, .int x2), (3, .int x3), (4, .int x4), (5, .int x5)] [] 175 M (fX11_areApart_13 k3 n9 M x1 x2 x3 x4 x5) := by
  intro n9
  induction n9 with
  | zero => intros; exact V_none
  | succ n9 ih =>
    intro M x1 x2 x3 x4 x5 hI
    refine V_iload (k := 5) dX11_areApart_13 rfl ?_
    refine V_iload (k := 4) dX11_areApart_15 rfl ?_
    refine V_icmpge (tgt := 80) dX11_areApart_17 (by decide) (fun h8 => ?_) (fun h8 => ?_)
    · refine V_iinc (k := 4) (v := x4 + 1) (lv' := [(4, .int (x4 + 1)), (0, .ref 130), (1, .int x1), (2, .int x2), (3, .int x3), (5, .int x5)]) dX11_areApart_80 rfl rfl (by decide) rfl ?_
      refine V_goto (tgt := 3) dX11_areApart_83 (by decide) ?_
      refine V_sub [1, 2, 3, 4, 0] rfl ?_
      exact hk3 M x1 x2 x3 (x4 + 1) hI
    · refine V_iload_n (k := 2) dX11_areApart_20 rfl rfl ?_
      refine V_iload (k := 4) dX11_areApart_21 rfl ?_
      refine V_ishr dX11_areApart_23 ?_
      refine V_iconst (v := 1) dX11_areApart_24 rfl ?_
      refine V_iand dX11_areApart_25 ?_
      refine V_iconst (v := 1) dX11_areApart_26 rfl ?_
      refine V_icmpne (tgt := 80) dX11_areApart_27 (by decide) (fun h9 => ?_) (fun h9 => ?_)
      · refine V_iinc (k := 4) (v := x4 + 1) (lv' := [(4, .int (x4 + 1)), (0, .ref 130), (1, .int x1), (2, .int x2), (3, .int x3), (5, .int x5)]) dX11_areApart_80 rfl rfl (by decide) rfl ?_
        refine V_goto (tgt := 3) dX11_areApart_83 (by decide) ?_
        refine V_sub [1, 2, 3, 4, 0] rfl ?_
        exact hk3 M x1 x2 x3 (x4 + 1) hI
      · refine V_iload_n (k := 2) dX11_areApart_30 rfl rfl ?_
        refine V_iload (k := 5) dX11_areApart_31 rfl ?_
        refine V_ishr dX11_areApart_33 ?_
        refine V_iconst (v := 1) dX11_areApart_34 rfl ?_
        refine V_iand dX11_areApart_35 ?_
        refine V_iconst (v := 1) dX11_areApart_36 rfl ?_
        refine V_icmpne (tgt := 74) dX11_areApart_37 (by decide) (fun h10 => ?_) (fun h10 => ?_)
        · refine V_iinc (k := 5) (v := x5 + 1) (lv' := [(5, .int (x5 + 1)), (0, .ref 130), (1, .int x1), (2, .int x2), (3, .int x3), (4, .int x4)]) dX11_areApart_74 rfl rfl (by decide) rfl ?_
          refine V_goto (tgt := 13) dX11_areApart_77 (by decide) ?_
          refine V_sub [1, 2, 3, 4, 5, 0] rfl ?_
          exact ih M x1 x2 x3 x4 (x5 + 1) hI
        · refine V_aload_n (k := 0) dX11_areApart_40 rfl rfl ?_
          refine V_iload_n (k := 1) dX11_areApart_41 rfl rfl ?_
          refine V_aload_n (k := 0) dX11_areApart_42 rfl rfl ?_
          refine V_getr (k := 158) dX11_areApart_43 rfl (by decide) vf_X11_105 (by decide) (v_fin hI 145 rfl) ?_
          refine V_iload (k := 4) dX11_areApart_46 rfl ?_
          refine V_iald dX11_areApart_48 rfl (by decide) (fun h11 => ?_)
          refine V_callVi (q := (RX11, TX11, 61)) (cls := 11) (st0 := []) (kc' := 0) (ks' := 0) dX11_areApart_49 lk_X11_349 rfl (by decide) rfl rfl rfl (cX11_markOf_ok M x1 (M.1 158 (Int32.toNatClampNeg x4)) hI) rfl rfl (by decide) (by decide) (Nat.le_of_ble_eq_true rfl) (Or.inl rfl) rfl rfl (by decide) (by decide) (fun y12 M13 e14 hI15 => ?_)
          refine V_aload_n (k := 0) dX11_areApart_52 rfl rfl ?_
          refine V_iload_n (k := 1) dX11_areApart_53 rfl rfl ?_
          refine V_aload_n (k := 0) dX11_areApart_54 rfl rfl ?_
          refine V_getr (k := 158) dX11_areApart_55 rfl (by decide) vf_X11_105 (by decide) (v_fin hI15 145 rfl) ?_
          refine V_iload (k := 5) dX11_areApart_58 rfl ?_
          refine V_iald dX11_areApart_60 rfl (by decide) (fun h16 => ?_)
          refine V_callVi (q := (RX11, TX11, 61)) (cls := 11) (st0 := [.int y12]) (kc' := 0) (ks' := 0) dX11_areApart_61 lk_X11_349 rfl (by decide) rfl rfl rfl (cX11_markOf_ok M13 x1 (M13.1 158 (Int32.toNatClampNeg x5)) hI15) rfl rfl (by decide) (by decide) (Nat.le_of_ble_eq_true rfl) (Or.inl rfl) rfl rfl (by decide) (by decide) (fun y17 M18 e19 hI20 => ?_)
          refine V_ixor dX11_areApart_64 ?_
          refine V_callSi (st0 := []) (kc' := 0) (ks' := 0) dX11_areApart_65 lk_X11_324 rfl (cX11_bitsOf_ok M18 (y12 ^^^ y17) hI20) rfl rfl (by decide) (by decide) (Nat.le_of_ble_eq_true rfl) (Or.inl rfl) rfl rfl (by decide) (by decide) (fun y21 M22 e23 hI24 => ?_)
          refine V_iload_n (k := 3) dX11_areApart_68 rfl rfl ?_
          refine V_icmpge (tgt := 74) dX11_areApart_69 (by decide) (fun h25 => ?_) (fun h25 => ?_)
          · refine V_iinc (k := 5) (v := x5 + 1) (lv' := [(5, .int (x5 + 1)), (0, .ref 130), (1, .int x1), (2, .int x2), (3, .int x3), (4, .int x4)]) dX11_areApart_74 rfl rfl (by decide) rfl ?_
            refine V_goto (tgt := 13) dX11_areApart_77 (by decide) ?_
            refine V_sub [1, 2, 3, 4, 5, 0] rfl ?_
            exact ih M22 x1 x2 x3 x4 (x5 + 1) hI24
          · refine V_iconst (v := 0) dX11_areApart_72 rfl ?_
            exact V_ret (fun _ => hI24) (Or.inr (Or.inr (Or.inl ⟨rfl, _, rfl⟩))) dX11_areApart_73 (fun ty x h1 h2 => by cases h1; cases h2; rfl) rfl
def fX11_areApart_3 : Nat → vM → Int32 → Int32 → Int32 → Int32 → Option (vR × vM)
  | 0, _, _, _, _, _ => none
  | n9 + 1, M, x1, x2, x3, x4 => if 14 ≤ x4 then rI 1 M else fX11_areApart_13 (fX11_areApart_3 n9) FU M x1 x2 x3 x4 0
set_option maxRecDepth 20000 in
set_option maxHeartbeats 2000000 in
theorem vX11_areApart_3 {l : Launch} {D : va_G} {dA : Nat → ClassId} : ∀ (n9 : Nat) (M : vM) (x1 : Int32) (x2 : Int32) (x3 : Int32) (x4 : Int32), v_WT M.2.2 → V l D dA sX11_areApart false 175 2 0 0 3 [(0, .ref 130), (1, .int x1), (2, .int x2), (3, .int x3), (4, .int x4)] [] 175 M (fX11_areApart_3 n9 M x1 x2 x3 x4) := by
  intro n9
  induction n9 with
  | zero => intros; exact V_none
  | succ n9 ih =>
    intro M x1 x2 x3 x4 hI
    refine V_iload (k := 4) dX11_areApart_3 rfl ?_
    refine V_bipush (v := 14) dX11_areApart_5 rfl ?_
    refine V_icmpge (tgt := 86) dX11_areApart_7 (by decide) (fun h26 => ?_) (fun h26 => ?_)
    · refine V_iconst (v := 1) dX11_areApart_86 rfl ?_
      exact V_ret (fun _ => hI) (Or.inr (Or.inr (Or.inl ⟨rfl, _, rfl⟩))) dX11_areApart_87 (fun ty x h1 h2 => by cases h1; cases h2; rfl) rfl
    · refine V_iconst (v := 0) dX11_areApart_10 rfl ?_
      refine V_istore (lv' := [(5, .int 0), (0, .ref 130), (1, .int x1), (2, .int x2), (3, .int x3), (4, .int x4)]) dX11_areApart_11 (by decide) rfl ?_
      refine V_sub [1, 2, 3, 4, 5, 0] rfl ?_
      exact vX11_areApart_13 (ih) FU M x1 x2 x3 x4 0 hI
def fX11_areApart (M : vM) (x1 : Int32) (x2 : Int32) (x3 : Int32) : Option (vR × vM) := fX11_areApart_3 FU M x1 x2 x3 0
set_option maxRecDepth 20000 in
set_option maxHeartbeats 2000000 in
theorem cX11_areApart_ok {l : Launch} {D : va_G} {dA : Nat → ClassId} (M : vM) (x1 : Int32) (x2 : Int32) (x3 : Int32) (hI : v_WT M.2.2) : Ct l D dA sX11_areApart false 175 2 0 0 175 [.ref 130, .int x1, .int x2, .int x3] M (fX11_areApart M x1 x2 x3) := by
  refine Ct_of (lv := [(0, .ref 130), (1, .int x1), (2, .int x2), (3, .int x3)]) (by decide +kernel) rfl (Nat.le_of_ble_eq_true rfl) rfl (fun h => by cases h) ?_
  refine V_iconst (v := 0) dX11_areApart_0 rfl ?_
  refine V_istore (lv' := [(4, .int 0), (0, .ref 130), (1, .int x1), (2, .int x2), (3, .int x3)]) dX11_areApart_1 (by decide) rfl ?_
  refine V_sub [1, 2, 3, 4, 0] rfl ?_
  exact vX11_areApart_3 FU M x1 x2 x3 0 hI
def fX11_apart_22 (M : vM) : Option (vR × vM) := bi (fX11_fail M 1) fun y16 M17 => rI y16 M17
set_option maxRecDepth 20000 in
set_option maxHeartbeats 2000000 in
theorem vX11_apart_22 {l : Launch} {D : va_G} {dA : Nat → ClassId} : ∀ (M : vM), v_WT M.2.2 → V l D dA sX11_apart false 175 3 0 0 22 [(0, .ref 130)] [] 175 M (fX11_apart_22 M) := by
  intro M hI
  refine V_aload_n (k := 0) dX11_apart_22 rfl rfl ?_
  refine V_iconst (v := 1) dX11_apart_23 rfl ?_
  refine V_callVi (q := (RX11, TX11, 61)) (cls := 11) (st0 := []) (kc' := 0) (ks' := 0) dX11_apart_24 lk_X11_287 rfl (by decide) rfl rfl rfl (cX11_fail_ok M 1 hI) rfl rfl (by decide) (by decide) (Nat.le_of_ble_eq_true rfl) (Or.inl rfl) rfl rfl (by decide) (by decide) (fun y16 M17 e18 hI19 => ?_)
  exact V_ret (fun _ => hI19) (Or.inr (Or.inl ⟨rfl, _, rfl⟩)) dX11_apart_27 (fun ty x h1 h2 => by cases h1; rfl) rfl
def fX11_apart_141 (k98 : vM → Int32 → Int32 → Int32 → Int32 → Int32 → Int32 → Int32 → Int32 → Option (vR × vM)) : Nat → vM → Int32 → Int32 → Int32 → Int32 → Int32 → Int32 → Int32 → Int32 → Int32 → Int32 → Int32 → Option (vR × vM)
  | 0, _, _, _, _, _, _, _, _, _, _, _, _ => none
  | n9 + 1, M, x1, x2, x3, x4, x5, x6, x7, x8, x9, x10, x11 => if x4 ≤ x11 then if x9 = x6 then if x10 < x7 then k98 M x1 x2 x3 x4 x8 x9 x10 (x8 + 1) else k98 M x1 x2 x3 x4 x5 x6 x7 (x8 + 1) else k98 M x1 x2 x3 x4 x8 x9 x10 (x8 + 1) else if v_in x11 14 = true then if v_in ((2000 * x1) + (M.1 158 (Int32.toNatClampNeg x11))) 12000 = true then fX11_apart_141 k98 n9 M x1 x2 x3 x4 x5 x6 x7 x8 x9 (x10 + (((x8 >>> (x11 &&& (31 : Int32))) &&& 1) * (M.1 146 (Int32.toNatClampNeg ((2000 * x1) + (M.1 158 (Int32.toNatClampNeg x11))))))) (x11 + 1) else none else none
set_option maxRecDepth 20000 in
set_option maxHeartbeats 2000000 in
theorem vX11_apart_141 {l : Launch} {D : va_G} {dA : Nat → ClassId} {k98 : vM → Int32 → Int32 → Int32 → Int32 → Int32 → Int32 → Int32 → Int32 → Option (vR × vM)} (hk98 : ∀ (M : vM) (x1 : Int32) (x2 : Int32) (x3 : Int32) (x4 : Int32) (x5 : Int32) (x6 : Int32) (x7 : Int32) (x8 : Int32), v_WT M.2.2 → V l D dA sX11_apart false 175 3 0 0 98 [(0, .ref 130), (1, .int x1), (2, .int x2), (3, .int x3), (4, .int x4), (5, .int x5), (6, .int x6), (7, .int x7), (8, .int x8)] [] 175 M (k98 M x1 x2 x3 x4 x5 x6 x7 x8)) : ∀ (n9 : Nat) (M : vM) (x1 : Int32) (x2 : Int32) (x3 : Int32) (x4 : Int32) (x5 : Int32) (x6 : Int32) (x7 : Int32) (x8 : Int32) (x9 : Int32) (x10 : Int32) (x11 : Int32), v_WT M.2.2 → V l D dA sX11_apart false 175 3 0 0 141 [(0, .ref 130), (1, .int x1), (2, .int x2), (3, .int x3), (4, .int x4), (5, .int x5), (6, .int x6), (7, .int x7), (8, .int x8), (9, .int x9), (10, .int x10), (11, .int x11)] [] 175 M (fX11_apart_141 k98 n9 M x1 x2 x3 x4 x5 x6 x7 x8 x9 x10 x11) := by
  intro n9
  induction n9 with
  | zero => intros; exact V_none
  | succ n9 ih =>
    intro M x1 x2 x3 x4 x5 x6 x7 x8 x9 x10 x11 hI
    refine V_iload (k := 11) dX11_apart_141 rfl ?_
    refine V_iload (k := 4) dX11_apart_143 rfl ?_
    refine V_icmpge (tgt := 185) dX11_apart_145 (by decide) (fun h20 => ?_) (fun h20 => ?_)
    · refine V_iload (k := 9) dX11_apart_185 rfl ?_
      refine V_iload (k := 6) dX11_apart_187 rfl ?_
      refine V_icmpne (tgt := 202) dX11_apart_189 (by decide) (fun h21 => ?_) (fun h21 => ?_)
      · refine V_iload (k := 8) dX11_apart_202 rfl ?_
        refine V_istore (lv' := [(5, .int x8), (0, .ref 130), (1, .int x1), (2, .int x2), (3, .int x3), (4, .int x4), (6, .int x6), (7, .int x7), (8, .int x8), (9, .int x9), (10, .int x10), (11, .int x11)]) dX11_apart_204 (by decide) rfl ?_
        refine V_iload (k := 9) dX11_apart_206 rfl ?_
        refine V_istore (lv' := [(6, .int x9), (5, .int x8), (0, .ref 130), (1, .int x1), (2, .int x2), (3, .int x3), (4, .int x4), (7, .int x7), (8, .int x8), (9, .int x9), (10, .int x10), (11, .int x11)]) dX11_apart_208 (by decide) rfl ?_
        refine V_iload (k := 10) dX11_apart_210 rfl ?_
        refine V_istore (lv' := [(7, .int x10), (6, .int x9), (5, .int x8), (0, .ref 130), (1, .int x1), (2, .int x2), (3, .int x3), (4, .int x4), (8, .int x8), (9, .int x9), (10, .int x10), (11, .int x11)]) dX11_apart_212 (by decide) rfl ?_
        refine V_iinc (k := 8) (v := x8 + 1) (lv' := [(8, .int (x8 + 1)), (7, .int x10), (6, .int x9), (5, .int x8), (0, .ref 130), (1, .int x1), (2, .int x2), (3, .int x3), (4, .int x4), (9, .int x9), (10, .int x10), (11, .int x11)]) dX11_apart_214 rfl rfl (by decide) rfl ?_
        refine V_goto (tgt := 98) dX11_apart_217 (by decide) ?_
        refine V_sub [4, 5, 6, 7, 8, 3, 2, 1, 0] rfl ?_
        exact hk98 M x1 x2 x3 x4 x8 x9 x10 (x8 + 1) hI
      · refine V_iload (k := 10) dX11_apart_192 rfl ?_
        refine V_iload (k := 7) dX11_apart_194 rfl ?_
        refine V_icmplt (tgt := 202) dX11_apart_196 (by decide) (fun h22 => ?_) (fun h22 => ?_)
        · refine V_iload (k := 8) dX11_apart_202 rfl ?_
          refine V_istore (lv' := [(5, .int x8), (0, .ref 130), (1, .int x1), (2, .int x2), (3, .int x3), (4, .int x4), (6, .int x6), (7, .int x7), (8, .int x8), (9, .int x9), (10, .int x10), (11, .int x11)]) dX11_apart_204 (by decide) rfl ?_
          refine V_iload (k := 9) dX11_apart_206 rfl ?_
          refine V_istore (lv' := [(6, .int x9), (5, .int x8), (0, .ref 130), (1, .int x1), (2, .int x2), (3, .int x3), (4, .int x4), (7, .int x7), (8, .int x8), (9, .int x9), (10, .int x10), (11, .int x11)]) dX11_apart_208 (by decide) rfl ?_
          refine V_iload (k := 10) dX11_apart_210 rfl ?_
          refine V_istore (lv' := [(7, .int x10), (6, .int x9), (5, .int x8), (0, .ref 130), (1, .int x1), (2, .int x2), (3, .int x3), (4, .int x4), (8, .int x8), (9, .int x9), (10, .int x10), (11, .int x11)]) dX11_apart_212 (by decide) rfl ?_
          refine V_iinc (k := 8) (v := x8 + 1) (lv' := [(8, .int (x8 + 1)), (7, .int x10), (6, .int x9), (5, .int x8), (0, .ref 130), (1, .int x1), (2, .int x2), (3, .int x3), (4, .int x4), (9, .int x9), (10, .int x10), (11, .int x11)]) dX11_apart_214 rfl rfl (by decide) rfl ?_
          refine V_goto (tgt := 98) dX11_apart_217 (by decide) ?_
          refine V_sub [4, 5, 6, 7, 8, 3, 2, 1, 0] rfl ?_
          exact hk98 M x1 x2 x3 x4 x8 x9 x10 (x8 + 1) hI
        · refine V_goto (tgt := 214) dX11_apart_199 (by decide) ?_
          refine V_iinc (k := 8) (v := x8 + 1) (lv' := [(8, .int (x8 + 1)), (0, .ref 130), (1, .int x1), (2, .int x2), (3, .int x3), (4, .int x4), (5, .int x5), (6, .int x6), (7, .int x7), (9, .int x9), (10, .int x10), (11, .int x11)]) dX11_apart_214 rfl rfl (by decide) rfl ?_
          refine V_goto (tgt := 98) dX11_apart_217 (by decide) ?_
          refine V_sub [1, 2, 3, 4, 5, 6, 7, 8, 0] rfl ?_
          exact hk98 M x1 x2 x3 x4 x5 x6 x7 (x8 + 1) hI
    · refine V_iload (k := 10) dX11_apart_148 rfl ?_
      refine V_iload (k := 8) dX11_apart_150 rfl ?_
      refine V_iload (k := 11) dX11_apart_152 rfl ?_
      refine V_ishr dX11_apart_154 ?_
      refine V_iconst (v := 1) dX11_apart_155 rfl ?_
      refine V_iand dX11_apart_156 ?_
      refine V_aload_n (k := 0) dX11_apart_157 rfl rfl ?_
      refine V_getr (k := 146) dX11_apart_158 rfl (by decide) vf_X11_64 (by decide) (v_fin hI 133 rfl) ?_
      refine V_sipush (v := 2000) dX11_apart_161 rfl ?_
      refine V_iload_n (k := 1) dX11_apart_164 rfl rfl ?_
      refine V_imul dX11_apart_165 ?_
      refine V_aload_n (k := 0) dX11_apart_166 rfl rfl ?_
      refine V_getr (k := 158) dX11_apart_167 rfl (by decide) vf_X11_105 (by decide) (v_fin hI 145 rfl) ?_
      refine V_iload (k := 11) dX11_apart_170 rfl ?_
      refine V_iald dX11_apart_172 rfl (by decide) (fun h23 => ?_)
      refine V_iadd dX11_apart_173 ?_
      refine V_iald dX11_apart_174 rfl (by decide) (fun h24 => ?_)
      refine V_imul dX11_apart_175 ?_
      refine V_iadd dX11_apart_176 ?_
      refine V_istore (lv' := [(10, .int (x10 + (((x8 >>> (x11 &&& (31 : Int32))) &&& 1) * (M.1 146 (Int32.toNatClampNeg ((2000 * x1) + (M.1 158 (Int32.toNatClampNeg x11)))))))), (0, .ref 130), (1, .int x1), (2, .int x2), (3, .int x3), (4, .int x4), (5, .int x5), (6, .int x6), (7, .int x7), (8, .int x8), (9, .int x9), (11, .int x11)]) dX11_apart_177 (by decide) rfl ?_
      refine V_iinc (k := 11) (v := x11 + 1) (lv' := [(11, .int (x11 + 1)), (10, .int (x10 + (((x8 >>> (x11 &&& (31 : Int32))) &&& 1) * (M.1 146 (Int32.toNatClampNeg ((2000 * x1) + (M.1 158 (Int32.toNatClampNeg x11)))))))), (0, .ref 130), (1, .int x1), (2, .int x2), (3, .int x3), (4, .int x4), (5, .int x5), (6, .int x6), (7, .int x7), (8, .int x8), (9, .int x9)]) dX11_apart_179 rfl rfl (by decide) rfl ?_
      refine V_goto (tgt := 141) dX11_apart_182 (by decide) ?_
      refine V_sub [2, 3, 4, 5, 6, 7, 8, 9, 10, 11, 1, 0] rfl ?_
      exact ih M x1 x2 x3 x4 x5 x6 x7 x8 x9 (x10 + (((x8 >>> (x11 &&& (31 : Int32))) &&& 1) * (M.1 146 (Int32.toNatClampNeg ((2000 * x1) + (M.1 158 (Int32.toNatClampNeg x11))))))) (x11 + 1) hI
def fX11_apart_98 : Nat → vM → Int32 → Int32 → Int32 → Int32 → Int32 → Int32 → Int32 → Int32 → Option (vR × vM)
  | 0, _, _, _, _, _, _, _, _, _ => none
  | n9 + 1, M, x1, x2, x3, x4, x5, x6, x7, x8 => if (1 <<< (x4 &&& (31 : Int32))) ≤ x8 then if x3 = 0 then rI x6 M else if x3 = 1 then rI x7 M else rI x5 M else bi (fX11_bitsOf M x8) fun y28 M29 => if y28 < x6 then fX11_apart_98 n9 M29 x1 x2 x3 x4 x5 x6 x7 (x8 + 1) else bi (fX11_areApart M29 x1 x8 x2) fun y33 M34 => if y33 = 0 then fX11_apart_98 n9 M34 x1 x2 x3 x4 x5 x6 x7 (x8 + 1) else fX11_apart_141 (fX11_apart_98 n9) FU M34 x1 x2 x3 x4 x5 x6 x7 x8 y28 0 0
set_option maxRecDepth 20000 in
set_option maxHeartbeats 2000000 in
theorem vX11_apart_98 {l : Launch} {D : va_G} {dA : Nat → ClassId} : ∀ (n9 : Nat) (M : vM) (x1 : Int32) (x2 : Int32) (x3 : Int32) (x4 : Int32) (x5 : Int32) (x6 : Int32) (x7 : Int32) (x8 : Int32), v_WT M.2.2 → V l D dA sX11_apart false 175 3 0 0 98 [(0, .ref 130), (1, .int x1), (2, .int x2), (3, .int x3), (4, .int x4), (5, .int x5), (6, .int x6), (7, .int x7), (8, .int x8)] [] 175 M (fX11_apart_98 n9 M x1 x2 x3 x4 x5 x6 x7 x8) := by
  intro n9
  induction n9 with
  | zero => intros; exact V_none
  | succ n9 ih =>
    intro M x1 x2 x3 x4 x5 x6 x7 x8 hI
    refine V_iload (k := 8) dX11_apart_98 rfl ?_
    refine V_iconst (v := 1) dX11_apart_100 rfl ?_
    refine V_iload (k := 4) dX11_apart_101 rfl ?_
    refine V_ishl dX11_apart_103 ?_
    refine V_icmpge (tgt := 220) dX11_apart_104 (by decide) (fun h25 => ?_) (fun h25 => ?_)
    · refine V_iload_n (k := 3) dX11_apart_220 rfl rfl ?_
      refine V_ifne (tgt := 229) dX11_apart_221 (by decide) (fun h26 => ?_) (fun h26 => ?_)
      · refine V_iload_n (k := 3) dX11_apart_229 rfl rfl ?_
        refine V_iconst (v := 1) dX11_apart_230 rfl ?_
        refine V_icmpne (tgt := 239) dX11_apart_231 (by decide) (fun h27 => ?_) (fun h27 => ?_)
        · refine V_iload (k := 5) dX11_apart_239 rfl ?_
          exact V_ret (fun _ => hI) (Or.inr (Or.inl ⟨rfl, _, rfl⟩)) dX11_apart_241 (fun ty x h1 h2 => by cases h1; rfl) rfl
        · refine V_iload (k := 7) dX11_apart_234 rfl ?_
          refine V_goto (tgt := 241) dX11_apart_236 (by decide) ?_
          exact V_ret (fun _ => hI) (Or.inr (Or.inl ⟨rfl, _, rfl⟩)) dX11_apart_241 (fun ty x h1 h2 => by cases h1; rfl) rfl
      · refine V_iload (k := 6) dX11_apart_224 rfl ?_
        refine V_goto (tgt := 241) dX11_apart_226 (by decide) ?_
        exact V_ret (fun _ => hI) (Or.inr (Or.inl ⟨rfl, _, rfl⟩)) dX11_apart_241 (fun ty x h1 h2 => by cases h1; rfl) rfl
    · refine V_iload (k := 8) dX11_apart_107 rfl ?_
      refine V_callSi (st0 := []) (kc' := 0) (ks' := 0) dX11_apart_109 lk_X11_324 rfl (cX11_bitsOf_ok M x8 hI) rfl rfl (by decide) (by decide) (Nat.le_of_ble_eq_true rfl) (Or.inl rfl) rfl rfl (by decide) (by decide) (fun y28 M29 e30 hI31 => ?_)
      refine V_istore (lv' := [(9, .int y28), (0, .ref 130), (1, .int x1), (2, .int x2), (3, .int x3), (4, .int x4), (5, .int x5), (6, .int x6), (7, .int x7), (8, .int x8)]) dX11_apart_112 (by decide) rfl ?_
      refine V_iload (k := 0) dX11_apart_114 rfl ?_
      refine V_iload (k := 7) dX11_apart_116 rfl ?_
      refine V_icmplt (tgt := 214) dX11_apart_118 (by decide) (fun h32 => ?_) (fun h32 => ?_)
      · refine V_iinc (k := 9) (v := x8 + 1) (lv' := [(8, .int (x8 + 1)), (9, .int y28), (0, .ref 130), (1, .int x1), (2, .int x2), (3, .int x3), (4, .int x4), (5, .int x5), (6, .int x6), (7, .int x7)]) dX11_apart_214 rfl rfl (by decide) rfl ?_
        refine V_goto (tgt := 98) dX11_apart_217 (by decide) ?_
        refine V_sub [2, 3, 4, 5, 6, 7, 8, 9, 0] rfl ?_
        exact ih M29 x1 x2 x3 x4 x5 x6 x7 (x8 + 1) hI31
      · refine V_aload_n (k := 1) dX11_apart_121 rfl rfl ?_
        refine V_iload_n (k := 2) dX11_apart_122 rfl rfl ?_
        refine V_iload (k := 9) dX11_apart_123 rfl ?_
        refine V_iload_n (k := 3) dX11_apart_125 rfl rfl ?_
        refine V_callVi (q := (RX11, TX11, 61)) (cls := 11) (st0 := []) (kc' := 0) (ks' := 0) dX11_apart_126 lk_X11_381 rfl (by decide) rfl rfl rfl (cX11_areApart_ok M29 x1 x8 x2 hI31) rfl rfl (by decide) (by decide) (Nat.le_of_ble_eq_true rfl) (Or.inl rfl) rfl rfl (by decide) (by decide) (fun y33 M34 e35 hI36 => ?_)
        refine V_ifne (tgt := 135) dX11_apart_129 (by decide) (fun h37 => ?_) (fun h37 => ?_)
        · refine V_iconst (v := 0) dX11_apart_135 rfl ?_
          refine V_istore (lv' := [(10, .int 0), (9, .int y28), (0, .ref 130), (1, .int x1), (2, .int x2), (3, .int x3), (4, .int x4), (5, .int x5), (6, .int x6), (7, .int x7), (8, .int x8)]) dX11_apart_136 (by decide) rfl ?_
          refine V_iconst (v := 0) dX11_apart_138 rfl ?_
          refine V_istore (lv' := [(11, .int 0), (10, .int 0), (9, .int y28), (0, .ref 130), (1, .int x1), (2, .int x2), (3, .int x3), (4, .int x4), (5, .int x5), (6, .int x6), (7, .int x7), (8, .int x8)]) dX11_apart_139 (by decide) rfl ?_
          refine V_sub [3, 4, 5, 6, 7, 8, 9, 10, 11, 2, 1, 0] rfl ?_
          exact vX11_apart_141 (ih) FU M34 x1 x2 x3 x4 x5 x6 x7 x8 y28 0 0 hI36
        · refine V_goto (tgt := 214) dX11_apart_132 (by decide) ?_
          refine V_iinc (k := 9) (v := x8 + 1) (lv' := [(8, .int (x8 + 1)), (9, .int y28), (0, .ref 130), (1, .int x1), (2, .int x2), (3, .int x3), (4, .int x4), (5, .int x5), (6, .int x6), (7, .int x7)]) dX11_apart_214 rfl rfl (by decide) rfl ?_
          refine V_goto (tgt := 98) dX11_apart_217 (by decide) ?_
          refine V_sub [2, 3, 4, 5, 6, 7, 8, 9, 0] rfl ?_
          exact ih M34 x1 x2 x3 x4 x5 x6 x7 (x8 + 1) hI36
def fX11_apart_59 : Nat → vM → Int32 → Int32 → Int32 → Int32 → Int32 → Option (vR × vM)
  | 0, _, _, _, _, _, _ => none
  | n9 + 1, M, x1, x2, x3, x4, x5 => if x4 ≤ x5 then fX11_apart_98 FU M x1 x2 x3 x4 0 0 0 1 else bi (fX11_leftAt M x1 x5) fun y39 M40 => if v_in x5 14 = true then fX11_apart_59 n9 (v_si M40 158 (Int32.toNatClampNeg x5) y39) x1 x2 x3 x4 (x5 + 1) else none
set_option maxRecDepth 20000 in
set_option maxHeartbeats 2000000 in
theorem vX11_apart_59 {l : Launch} {D : va_G} {dA : Nat → ClassId} : ∀ (n9 : Nat) (M : vM) (x1 : Int32) (x2 : Int32) (x3 : Int32) (x4 : Int32) (x5 : Int32), v_WT M.2.2 → V l D dA sX11_apart false 175 3 0 0 59 [(0, .ref 130), (1, .int x1), (2, .int x2), (3, .int x3), (4, .int x4), (5, .int x5)] [] 175 M (fX11_apart_59 n9 M x1 x2 x3 x4 x5) := by
  intro n9
  induction n9 with
  | zero => intros; exact V_none
  | succ n9 ih =>
    intro M x1 x2 x3 x4 x5 hI
    refine V_iload (k := 5) dX11_apart_59 rfl ?_
    refine V_iload (k := 4) dX11_apart_61 rfl ?_
    refine V_icmpge (tgt := 86) dX11_apart_63 (by decide) (fun h38 => ?_) (fun h38 => ?_)
    · refine V_iconst (v := 0) dX11_apart_86 rfl ?_
      refine V_istore (lv' := [(5, .int 0), (0, .ref 130), (1, .int x1), (2, .int x2), (3, .int x3), (4, .int x4)]) dX11_apart_87 (by decide) rfl ?_
      refine V_iconst (v := 0) dX11_apart_89 rfl ?_
      refine V_istore (lv' := [(6, .int 0), (5, .int 0), (0, .ref 130), (1, .int x1), (2, .int x2), (3, .int x3), (4, .int x4)]) dX11_apart_90 (by decide) rfl ?_
      refine V_iconst (v := 0) dX11_apart_92 rfl ?_
      refine V_istore (lv' := [(7, .int 0), (6, .int 0), (5, .int 0), (0, .ref 130), (1, .int x1), (2, .int x2), (3, .int x3), (4, .int x4)]) dX11_apart_93 (by decide) rfl ?_
      refine V_iconst (v := 1) dX11_apart_95 rfl ?_
      refine V_istore (lv' := [(8, .int 1), (7, .int 0), (6, .int 0), (5, .int 0), (0, .ref 130), (1, .int x1), (2, .int x2), (3, .int x3), (4, .int x4)]) dX11_apart_96 (by decide) rfl ?_
      refine V_sub [4, 5, 6, 7, 8, 3, 2, 1, 0] rfl ?_
      exact vX11_apart_98 FU M x1 x2 x3 x4 0 0 0 1 hI
    · refine V_aload_n (k := 0) dX11_apart_66 rfl rfl ?_
      refine V_getr (k := 158) dX11_apart_67 rfl (by decide) vf_X11_105 (by decide) (v_fin hI 145 rfl) ?_
      refine V_iload (k := 5) dX11_apart_70 rfl ?_
      refine V_aload_n (k := 0) dX11_apart_72 rfl rfl ?_
      refine V_iload_n (k := 1) dX11_apart_73 rfl rfl ?_
      refine V_iload (k := 5) dX11_apart_74 rfl ?_
      refine V_callVi (q := (RX11, TX11, 61)) (cls := 11) (st0 := [.int x5, .ref 158]) (kc' := 0) (ks' := 0) dX11_apart_76 lk_X11_378 rfl (by decide) rfl rfl rfl (cX11_leftAt_ok M x1 x5 hI) rfl rfl (by decide) (by decide) (Nat.le_of_ble_eq_true rfl) (Or.inl rfl) rfl rfl (by decide) (by decide) (fun y39 M40 e41 hI42 => ?_)
      refine V_iast dX11_apart_79 rfl (by decide) (fun h43 => ?_)
      refine V_iinc (k := 5) (v := x5 + 1) (lv' := [(5, .int (x5 + 1)), (0, .ref 130), (1, .int x1), (2, .int x2), (3, .int x3), (4, .int x4)]) dX11_apart_80 rfl rfl (by decide) rfl ?_
      refine V_goto (tgt := 59) dX11_apart_83 (by decide) ?_
      refine V_sub [1, 2, 3, 4, 5, 0] rfl ?_
      exact ih (v_si M40 158 (Int32.toNatClampNeg x5) y39) x1 x2 x3 x4 (x5 + 1) hI42
def fX11_apart (M : vM) (x1 : Int32) (x2 : Int32) (x3 : Int32) : Option (vR × vM) := bi (fX11_isWork (v_si M 130 1 0) x1) fun y44 M45 => if y44 = 0 then fX11_apart_22 M45 else bi (fX11_isIn M45 x3 0 2) fun y49 M50 => if y49 = 0 then fX11_apart_22 M50 else bi (fX11_isIn M50 x2 0 30) fun y54 M55 => if y54 = 0 then bi (fX11_fail M55 2) fun y63 M64 => rI y63 M64 else bi (fX11_leftOf M55 x1) fun y59 M60 => fX11_apart_59 FU M60 x1 x2 x3 (if y59 < 14 then y59 else 14) 0
set_option maxRecDepth 20000 in
set_option maxHeartbeats 2000000 in
theorem cX11_apart_ok {l : Launch} {D : va_G} {dA : Nat → ClassId} (M : vM) (x1 : Int32) (x2 : Int32) (x3 : Int32) (hI : v_WT M.2.2) : Ct l D dA sX11_apart false 175 3 0 0 175 [.ref 130, .int x1, .int x2, .int x3] M (fX11_apart M x1 x2 x3) := by
  refine Ct_of (lv := [(0, .ref 130), (1, .int x1), (2, .int x2), (3, .int x3)]) (by decide +kernel) rfl (Nat.le_of_ble_eq_true rfl) rfl (fun h => by cases h) ?_
  refine V_aload_n (k := 0) dX11_apart_0 rfl rfl ?_
  refine V_iconst (v := 0) dX11_apart_1 rfl ?_
  refine V_puti dX11_apart_2 rfl (by decide) vf_X11_154 (by decide) rfl rfl ?_
  refine V_aload_n (k := 0) dX11_apart_5 rfl rfl ?_
  refine V_iload_n (k := 1) dX11_apart_6 rfl rfl ?_
  refine V_callVi (q := (RX11, TX11, 61)) (cls := 11) (st0 := []) (kc' := 0) (ks' := 0) dX11_apart_7 lk_X11_164 rfl (by decide) rfl rfl rfl (cX11_isWork_ok (v_si M 130 1 0) x1 hI) rfl rfl (by decide) (by decide) (Nat.le_of_ble_eq_true rfl) (Or.inl rfl) rfl rfl (by decide) (by decide) (fun y44 M45 e46 hI47 => ?_)
  refine V_ifeq (tgt := 22) dX11_apart_10 (by decide) (fun h48 => ?_) (fun h48 => ?_)
  · refine V_sub [0] rfl ?_
    exact vX11_apart_22 M45 hI47
  · refine V_iload_n (k := 3) dX11_apart_13 rfl rfl ?_
    refine V_iconst (v := 0) dX11_apart_14 rfl ?_
    refine V_iconst (v := 2) dX11_apart_15 rfl ?_
    refine V_callSi (st0 := []) (kc' := 0) (ks' := 0) dX11_apart_16 lk_X11_160 rfl (cX11_isIn_ok M45 x3 0 2 hI47) rfl rfl (by decide) (by decide) (Nat.le_of_ble_eq_true rfl) (Or.inl rfl) rfl rfl (by decide) (by decide) (fun y49 M50 e51 hI52 => ?_)
    refine V_ifne (tgt := 28) dX11_apart_19 (by decide) (fun h53 => ?_) (fun h53 => ?_)
    · refine V_iload_n (k := 2) dX11_apart_28 rfl rfl ?_
      refine V_iconst (v := 0) dX11_apart_29 rfl ?_
      refine V_bipush (v := 30) dX11_apart_30 rfl ?_
      refine V_callSi (st0 := []) (kc' := 0) (ks' := 0) dX11_apart_32 lk_X11_160 rfl (cX11_isIn_ok M50 x2 0 30 hI52) rfl rfl (by decide) (by decide) (Nat.le_of_ble_eq_true rfl) (Or.inl rfl) rfl rfl (by decide) (by decide) (fun y54 M55 e56 hI57 => ?_)
      refine V_ifne (tgt := 44) dX11_apart_35 (by decide) (fun h58 => ?_) (fun h58 => ?_)
      · refine V_bipush (v := 14) dX11_apart_44 rfl ?_
        refine V_aload_n (k := 0) dX11_apart_46 rfl rfl ?_
        refine V_iload_n (k := 1) dX11_apart_47 rfl rfl ?_
        refine V_callVi (q := (RX11, TX11, 61)) (cls := 11) (st0 := [.int 14]) (kc' := 0) (ks' := 0) dX11_apart_48 lk_X11_356 rfl (by decide) rfl rfl rfl (cX11_leftOf_ok M55 x1 hI57) rfl rfl (by decide) (by decide) (Nat.le_of_ble_eq_true rfl) (Or.inl rfl) rfl rfl (by decide) (by decide) (fun y59 M60 e61 hI62 => ?_)
        refine V_mmin dX11_apart_51 gw1461 gw793 gw101 gw794 (by decide) (Nat.le_of_ble_eq_true rfl) ?_
        refine V_istore (lv' := [(4, .int (if y59 < 14 then y59 else 14)), (0, .ref 130), (1, .int x1), (2, .int x2), (3, .int x3)]) dX11_apart_54 (by decide) rfl ?_
        refine V_iconst (v := 0) dX11_apart_56 rfl ?_
        refine V_istore (lv' := [(5, .int 0), (4, .int (if y59 < 14 then y59 else 14)), (0, .ref 130), (1, .int x1), (2, .int x2), (3, .int x3)]) dX11_apart_57 (by decide) rfl ?_
        refine V_sub [2, 3, 4, 5, 1, 0] rfl ?_
        exact vX11_apart_59 FU M60 x1 x2 x3 (if y59 < 14 then y59 else 14) 0 hI62
      · refine V_aload_n (k := 0) dX11_apart_38 rfl rfl ?_
        refine V_iconst (v := 2) dX11_apart_39 rfl ?_
        refine V_callVi (q := (RX11, TX11, 61)) (cls := 11) (st0 := []) (kc' := 0) (ks' := 0) dX11_apart_40 lk_X11_287 rfl (by decide) rfl rfl rfl (cX11_fail_ok M55 2 hI57) rfl rfl (by decide) (by decide) (Nat.le_of_ble_eq_true rfl) (Or.inl rfl) rfl rfl (by decide) (by decide) (fun y63 M64 e65 hI66 => ?_)
        exact V_ret (fun _ => hI66) (Or.inr (Or.inl ⟨rfl, _, rfl⟩)) dX11_apart_43 (fun ty x h1 h2 => by cases h1; rfl) rfl
    · refine V_sub [0] rfl ?_
      exact vX11_apart_22 M50 hI52
def fX11_mayNow_6 : Nat → vM → Int32 → Int32 → Int32 → Int32 → Option (vR × vM)
  | 0, _, _, _, _, _ => none
  | n9 + 1, M, x1, x2, x3, x4 => if v_in x1 12 = true then if ((12 * x1) + (M.1 138 (Int32.toNatClampNeg x1))) ≤ x4 then rI 1 M else if v_in x4 144 = true then if (M.1 144 (Int32.toNatClampNeg x4)) = x2 then if v_in x4 144 = true then if ((x3 >>> ((M.1 143 (Int32.toNatClampNeg x4)) &&& (31 : Int32))) &&& 1) = 0 then rI 0 M else fX11_mayNow_6 n9 M x1 x2 x3 (x4 + 1) else none else fX11_mayNow_6 n9 M x1 x2 x3 (x4 + 1) else none else none
set_option maxRecDepth 20000 in
set_option maxHeartbeats 2000000 in
theorem vX11_mayNow_6 {l : Launch} {D : va_G} {dA : Nat → ClassId} : ∀ (n9 : Nat) (M : vM) (x1 : Int32) (x2 : Int32) (x3 : Int32) (x4 : Int32), v_WT M.2.2 → V l D dA sX11_mayNow false 175 1 0 0 6 [(0, .ref 130), (1, .int x1), (2, .int x2), (3, .int x3), (4, .int x4)] [] 175 M (fX11_mayNow_6 n9 M x1 x2 x3 x4) := by
  intro n9
  induction n9 with
  | zero => intros; exact V_none
  | succ n9 ih =>
    intro M x1 x2 x3 x4 hI
    refine V_iload (k := 4) dX11_mayNow_6 rfl ?_
    refine V_bipush (v := 12) dX11_mayNow_8 rfl ?_
    refine V_iload_n (k := 1) dX11_mayNow_10 rfl rfl ?_
    refine V_imul dX11_mayNow_11 ?_
    refine V_aload_n (k := 0) dX11_mayNow_12 rfl rfl ?_
    refine V_getr (k := 138) dX11_mayNow_13 rfl (by decide) vf_X11_40 (by decide) (v_fin hI 125 rfl) ?_
    refine V_iload_n (k := 1) dX11_mayNow_16 rfl rfl ?_
    refine V_iald dX11_mayNow_17 rfl (by decide) (fun h7 => ?_)
    refine V_iadd dX11_mayNow_18 ?_
    refine V_icmpge (tgt := 55) dX11_mayNow_19 (by decide) (fun h8 => ?_) (fun h8 => ?_)
    · refine V_iconst (v := 1) dX11_mayNow_55 rfl ?_
      exact V_ret (fun _ => hI) (Or.inr (Or.inr (Or.inl ⟨rfl, _, rfl⟩))) dX11_mayNow_56 (fun ty x h1 h2 => by cases h1; cases h2; rfl) rfl
    · refine V_aload_n (k := 0) dX11_mayNow_22 rfl rfl ?_
      refine V_getr (k := 144) dX11_mayNow_23 rfl (by decide) vf_X11_58 (by decide) (v_fin hI 131 rfl) ?_
      refine V_iload (k := 4) dX11_mayNow_26 rfl ?_
      refine V_iald dX11_mayNow_28 rfl (by decide) (fun h9 => ?_)
      refine V_iload_n (k := 2) dX11_mayNow_29 rfl rfl ?_
      refine V_icmpne (tgt := 49) dX11_mayNow_30 (by decide) (fun h10 => ?_) (fun h10 => ?_)
      · refine V_iinc (k := 4) (v := x4 + 1) (lv' := [(4, .int (x4 + 1)), (0, .ref 130), (1, .int x1), (2, .int x2), (3, .int x3)]) dX11_mayNow_49 rfl rfl (by decide) rfl ?_
        refine V_goto (tgt := 6) dX11_mayNow_52 (by decide) ?_
        refine V_sub [1, 2, 3, 4, 0] rfl ?_
        exact ih M x1 x2 x3 (x4 + 1) hI
      · refine V_iload_n (k := 3) dX11_mayNow_33 rfl rfl ?_
        refine V_aload_n (k := 0) dX11_mayNow_34 rfl rfl ?_
        refine V_getr (k := 143) dX11_mayNow_35 rfl (by decide) vf_X11_55 (by decide) (v_fin hI 130 rfl) ?_
        refine V_iload (k := 4) dX11_mayNow_38 rfl ?_
        refine V_iald dX11_mayNow_40 rfl (by decide) (fun h11 => ?_)
        refine V_ishr dX11_mayNow_41 ?_
        refine V_iconst (v := 1) dX11_mayNow_42 rfl ?_
        refine V_iand dX11_mayNow_43 ?_
        refine V_ifne (tgt := 49) dX11_mayNow_44 (by decide) (fun h12 => ?_) (fun h12 => ?_)
        · refine V_iinc (k := 4) (v := x4 + 1) (lv' := [(4, .int (x4 + 1)), (0, .ref 130), (1, .int x1), (2, .int x2), (3, .int x3)]) dX11_mayNow_49 rfl rfl (by decide) rfl ?_
          refine V_goto (tgt := 6) dX11_mayNow_52 (by decide) ?_
          refine V_sub [1, 2, 3, 4, 0] rfl ?_
          exact ih M x1 x2 x3 (x4 + 1) hI
        · refine V_iconst (v := 0) dX11_mayNow_47 rfl ?_
          exact V_ret (fun _ => hI) (Or.inr (Or.inr (Or.inl ⟨rfl, _, rfl⟩))) dX11_mayNow_48 (fun ty x h1 h2 => by cases h1; cases h2; rfl) rfl
def fX11_mayNow (M : vM) (x1 : Int32) (x2 : Int32) (x3 : Int32) : Option (vR × vM) := fX11_mayNow_6 FU M x1 x2 x3 (12 * x1)
set_option maxRecDepth 20000 in
set_option maxHeartbeats 2000000 in
theorem cX11_mayNow_ok {l : Launch} {D : va_G} {dA : Nat → ClassId} (M : vM) (x1 : Int32) (x2 : Int32) (x3 : Int32) (hI : v_WT M.2.2) : Ct l D dA sX11_mayNow false 175 1 0 0 175 [.ref 130, .int x1, .int x2, .int x3] M (fX11_mayNow M x1 x2 x3) := by
  refine Ct_of (lv := [(0, .ref 130), (1, .int x1), (2, .int x2), (3, .int x3)]) (by decide +kernel) rfl (Nat.le_of_ble_eq_true rfl) rfl (fun h => by cases h) ?_
  refine V_bipush (v := 12) dX11_mayNow_0 rfl ?_
  refine V_iload_n (k := 1) dX11_mayNow_2 rfl rfl ?_
  refine V_imul dX11_mayNow_3 ?_
  refine V_istore (lv' := [(4, .int (12 * x1)), (0, .ref 130), (1, .int x1), (2, .int x2), (3, .int x3)]) dX11_mayNow_4 (by decide) rfl ?_
  refine V_sub [1, 2, 3, 4, 0] rfl ?_
  exact vX11_mayNow_6 FU M x1 x2 x3 (12 * x1) hI
def fX11_arrange_68 (self : vM → Int32 → Int32 → Int32 → Int32 → Int32 → Option (vR × vM)) (k23 : vM → Int32 → Int32 → Int32 → Int32 → Int32 → Int32 → Option (vR × vM)) : Nat → vM → Int32 → Int32 → Int32 → Int32 → Int32 → Int32 → Int32 → Int32 → Option (vR × vM)
  | 0, _, _, _, _, _, _, _, _, _ => none
  | n9 + 1, M, x1, x2, x3, x4, x5, x6, x7, x8 => if v_in x1 12 = true then if (M.1 136 (Int32.toNatClampNeg x1)) ≤ x8 then if v_in ((20 * x1) + x6) 240 = true then bv (self M x1 (x2 ||| (1 <<< (x6 &&& (31 : Int32)))) (x3 + 1) (x4 + ((M.1 141 (Int32.toNatClampNeg ((20 * x1) + x6))) * (x3 + 1))) x7) fun M14 => k23 M14 x1 x2 x3 x4 x5 (x6 + 1) else none else if ((x2 >>> (x8 &&& (31 : Int32))) &&& 1) = 0 then bi (fX11_couple M x6 x8) fun y18 M19 => fX11_arrange_68 self k23 n9 M19 x1 x2 x3 x4 x5 x6 (x7 ||| (1 <<< (y18 &&& (31 : Int32)))) (x8 + 1) else fX11_arrange_68 self k23 n9 M x1 x2 x3 x4 x5 x6 x7 (x8 + 1) else none
set_option maxRecDepth 20000 in
set_option maxHeartbeats 2000000 in
theorem vX11_arrange_68 {l : Launch} {D : va_G} {dA : Nat → ClassId} {dd : Nat} {self : vM → Int32 → Int32 → Int32 → Int32 → Int32 → Option (vR × vM)} (hself : ∀ (M : vM) (x1 : Int32) (x2 : Int32) (x3 : Int32) (x4 : Int32) (x5 : Int32), v_WT M.2.2 → Ct l D dA sX11_arrange false 175 (2 + dd) 0 0 175 [.ref 130, .int x1, .int x2, .int x3, .int x4, .int x5] M (self M x1 x2 x3 x4 x5)) {k23 : vM → Int32 → Int32 → Int32 → Int32 → Int32 → Int32 → Option (vR × vM)} (hk23 : ∀ (M : vM) (x1 : Int32) (x2 : Int32) (x3 : Int32) (x4 : Int32) (x5 : Int32) (x6 : Int32), v_WT M.2.2 → V l D dA sX11_arrange false 175 (2 + dd + 1) 0 0 23 [(0, .ref 130), (1, .int x1), (2, .int x2), (3, .int x3), (4, .int x4), (5, .int x5), (6, .int x6)] [] 175 M (k23 M x1 x2 x3 x4 x5 x6)) : ∀ (n9 : Nat) (M : vM) (x1 : Int32) (x2 : Int32) (x3 : Int32) (x4 : Int32) (x5 : Int32) (x6 : Int32) (x7 : Int32) (x8 : Int32), v_WT M.2.2 → V l D dA sX11_arrange false 175 (2 + dd + 1) 0 0 68 [(0, .ref 130), (1, .int x1), (2, .int x2), (3, .int x3), (4, .int x4), (5, .int x5), (6, .int x6), (7, .int x7), (8, .int x8)] [] 175 M (fX11_arrange_68 self k23 n9 M x1 x2 x3 x4 x5 x6 x7 x8) := by
  intro n9
  induction n9 with
  | zero => intros; exact V_none
  | succ n9 ih =>
    intro M x1 x2 x3 x4 x5 x6 x7 x8 hI
    refine V_iload (k := 8) dX11_arrange_68 rfl ?_
    refine V_aload_n (k := 0) dX11_arrange_70 rfl rfl ?_
    refine V_getr (k := 136) dX11_arrange_71 rfl (by decide) vf_X11_34 (by decide) (v_fin hI 123 rfl) ?_
    refine V_iload_n (k := 1) dX11_arrange_74 rfl rfl ?_
    refine V_iald dX11_arrange_75 rfl (by decide) (fun h11 => ?_)
    refine V_icmpge (tgt := 108) dX11_arrange_76 (by decide) (fun h12 => ?_) (fun h12 => ?_)
    · refine V_aload_n (k := 0) dX11_arrange_108 rfl rfl ?_
      refine V_iload_n (k := 1) dX11_arrange_109 rfl rfl ?_
      refine V_iload_n (k := 2) dX11_arrange_110 rfl rfl ?_
      refine V_iconst (v := 1) dX11_arrange_111 rfl ?_
      refine V_iload (k := 6) dX11_arrange_112 rfl ?_
      refine V_ishl dX11_arrange_114 ?_
      refine V_ior dX11_arrange_115 ?_
      refine V_iload_n (k := 3) dX11_arrange_116 rfl rfl ?_
      refine V_iconst (v := 1) dX11_arrange_117 rfl ?_
      refine V_iadd dX11_arrange_118 ?_
      refine V_iload (k := 4) dX11_arrange_119 rfl ?_
      refine V_aload_n (k := 0) dX11_arrange_121 rfl rfl ?_
      refine V_getr (k := 141) dX11_arrange_122 rfl (by decide) vf_X11_49 (by decide) (v_fin hI 128 rfl) ?_
      refine V_bipush (v := 20) dX11_arrange_125 rfl ?_
      refine V_iload_n (k := 1) dX11_arrange_127 rfl rfl ?_
      refine V_imul dX11_arrange_128 ?_
      refine V_iload (k := 6) dX11_arrange_129 rfl ?_
      refine V_iadd dX11_arrange_131 ?_
      refine V_iald dX11_arrange_132 rfl (by decide) (fun h13 => ?_)
      refine V_iload_n (k := 3) dX11_arrange_133 rfl rfl ?_
      refine V_iconst (v := 1) dX11_arrange_134 rfl ?_
      refine V_iadd dX11_arrange_135 ?_
      refine V_imul dX11_arrange_136 ?_
      refine V_iadd dX11_arrange_137 ?_
      refine V_iload (k := 7) dX11_arrange_138 rfl ?_
      refine V_callVv (q := (RX11, TX11, 61)) (cls := 11) (st0 := []) (kc' := 0) (ks' := 0) dX11_arrange_140 lk_X11_310 rfl (by decide) rfl rfl rfl (hself M x1 (x2 ||| (1 <<< (x6 &&& (31 : Int32)))) (x3 + 1) (x4 + ((M.1 141 (Int32.toNatClampNeg ((20 * x1) + x6))) * (x3 + 1))) x7 hI) rfl rfl (by omega) (by decide) (Nat.le_of_ble_eq_true rfl) (Or.inl rfl) rfl rfl (by decide) (by decide) (fun  M14 e15 hI16 => ?_)
      refine V_iinc (k := 6) (v := x6 + 1) (lv' := [(6, .int (x6 + 1)), (0, .ref 130), (1, .int x1), (2, .int x2), (3, .int x3), (4, .int x4), (5, .int x5), (7, .int x7), (8, .int x8)]) dX11_arrange_143 rfl rfl (by decide) rfl ?_
      refine V_goto (tgt := 23) dX11_arrange_146 (by decide) ?_
      refine V_sub [1, 2, 3, 4, 5, 6, 0] rfl ?_
      exact hk23 M14 x1 x2 x3 x4 x5 (x6 + 1) hI16
    · refine V_iload_n (k := 2) dX11_arrange_79 rfl rfl ?_
      refine V_iload (k := 8) dX11_arrange_80 rfl ?_
      refine V_ishr dX11_arrange_82 ?_
      refine V_iconst (v := 1) dX11_arrange_83 rfl ?_
      refine V_iand dX11_arrange_84 ?_
      refine V_ifne (tgt := 102) dX11_arrange_85 (by decide) (fun h17 => ?_) (fun h17 => ?_)
      · refine V_iinc (k := 8) (v := x8 + 1) (lv' := [(8, .int (x8 + 1)), (0, .ref 130), (1, .int x1), (2, .int x2), (3, .int x3), (4, .int x4), (5, .int x5), (6, .int x6), (7, .int x7)]) dX11_arrange_102 rfl rfl (by decide) rfl ?_
        refine V_goto (tgt := 68) dX11_arrange_105 (by decide) ?_
        refine V_sub [1, 2, 3, 4, 5, 6, 7, 8, 0] rfl ?_
        exact ih M x1 x2 x3 x4 x5 x6 x7 (x8 + 1) hI
      · refine V_iload (k := 7) dX11_arrange_88 rfl ?_
        refine V_iconst (v := 1) dX11_arrange_90 rfl ?_
        refine V_iload (k := 6) dX11_arrange_91 rfl ?_
        refine V_iload (k := 8) dX11_arrange_93 rfl ?_
        refine V_callSi (st0 := [.int 1, .int x7]) (kc' := 0) (ks' := 0) dX11_arrange_95 lk_X11_330 rfl (cX11_couple_ok M x6 x8 hI) rfl rfl (by omega) (by decide) (Nat.le_of_ble_eq_true rfl) (Or.inl rfl) rfl rfl (by decide) (by decide) (fun y18 M19 e20 hI21 => ?_)
        refine V_ishl dX11_arrange_98 ?_
        refine V_ior dX11_arrange_99 ?_
        refine V_istore (lv' := [(7, .int (x7 ||| (1 <<< (y18 &&& (31 : Int32))))), (0, .ref 130), (1, .int x1), (2, .int x2), (3, .int x3), (4, .int x4), (5, .int x5), (6, .int x6), (8, .int x8)]) dX11_arrange_100 (by decide) rfl ?_
        refine V_iinc (k := 8) (v := x8 + 1) (lv' := [(8, .int (x8 + 1)), (7, .int (x7 ||| (1 <<< (y18 &&& (31 : Int32))))), (0, .ref 130), (1, .int x1), (2, .int x2), (3, .int x3), (4, .int x4), (5, .int x5), (6, .int x6)]) dX11_arrange_102 rfl rfl (by decide) rfl ?_
        refine V_goto (tgt := 68) dX11_arrange_105 (by decide) ?_
        refine V_sub [2, 3, 4, 5, 6, 7, 8, 1, 0] rfl ?_
        exact ih M19 x1 x2 x3 x4 x5 x6 (x7 ||| (1 <<< (y18 &&& (31 : Int32)))) (x8 + 1) hI21
def fX11_arrange_23 (self : vM → Int32 → Int32 → Int32 → Int32 → Int32 → Option (vR × vM)) : Nat → vM → Int32 → Int32 → Int32 → Int32 → Int32 → Int32 → Option (vR × vM)
  | 0, _, _, _, _, _, _, _ => none
  | n9 + 1, M, x1, x2, x3, x4, x5, x6 => if v_in x1 12 = true then if (M.1 136 (Int32.toNatClampNeg x1)) ≤ x6 then rV M else if ((x2 >>> (x6 &&& (31 : Int32))) &&& 1) = 1 then fX11_arrange_23 self n9 M x1 x2 x3 x4 x5 (x6 + 1) else bi (fX11_mayNow M x1 x6 x2) fun y25 M26 => if y25 = 0 then fX11_arrange_23 self n9 M26 x1 x2 x3 x4 x5 (x6 + 1) else fX11_arrange_68 self (fX11_arrange_23 self n9) FU M26 x1 x2 x3 x4 x5 x6 x5 (x6 + 1) else none
set_option maxRecDepth 20000 in
set_option maxHeartbeats 2000000 in
theorem vX11_arrange_23 {l : Launch} {D : va_G} {dA : Nat → ClassId} {dd : Nat} {self : vM → Int32 → Int32 → Int32 → Int32 → Int32 → Option (vR × vM)} (hself : ∀ (M : vM) (x1 : Int32) (x2 : Int32) (x3 : Int32) (x4 : Int32) (x5 : Int32), v_WT M.2.2 → Ct l D dA sX11_arrange false 175 (2 + dd) 0 0 175 [.ref 130, .int x1, .int x2, .int x3, .int x4, .int x5] M (self M x1 x2 x3 x4 x5)) : ∀ (n9 : Nat) (M : vM) (x1 : Int32) (x2 : Int32) (x3 : Int32) (x4 : Int32) (x5 : Int32) (x6 : Int32), v_WT M.2.2 → V l D dA sX11_arrange false 175 (2 + dd + 1) 0 0 23 [(0, .ref 130), (1, .int x1), (2, .int x2), (3, .int x3), (4, .int x4), (5, .int x5), (6, .int x6)] [] 175 M (fX11_arrange_23 self n9 M x1 x2 x3 x4 x5 x6) := by
  intro n9
  induction n9 with
  | zero => intros; exact V_none
  | succ n9 ih =>
    intro M x1 x2 x3 x4 x5 x6 hI
    refine V_iload (k := 6) dX11_arrange_23 rfl ?_
    refine V_aload_n (k := 0) dX11_arrange_25 rfl rfl ?_
    refine V_getr (k := 136) dX11_arrange_26 rfl (by decide) vf_X11_34 (by decide) (v_fin hI 123 rfl) ?_
    refine V_iload_n (k := 1) dX11_arrange_29 rfl rfl ?_
    refine V_iald dX11_arrange_30 rfl (by decide) (fun h22 => ?_)
    refine V_icmpge (tgt := 149) dX11_arrange_31 (by decide) (fun h23 => ?_) (fun h23 => ?_)
    · exact V_ret (fun _ => hI) (Or.inl ⟨rfl, rfl⟩) dX11_arrange_149 (fun ty x h1 h2 => by cases h1) rfl
    · refine V_iload_n (k := 2) dX11_arrange_34 rfl rfl ?_
      refine V_iload (k := 6) dX11_arrange_35 rfl ?_
      refine V_ishr dX11_arrange_37 ?_
      refine V_iconst (v := 1) dX11_arrange_38 rfl ?_
      refine V_iand dX11_arrange_39 ?_
      refine V_iconst (v := 1) dX11_arrange_40 rfl ?_
      refine V_icmpeq (tgt := 143) dX11_arrange_41 (by decide) (fun h24 => ?_) (fun h24 => ?_)
      · refine V_iinc (k := 6) (v := x6 + 1) (lv' := [(6, .int (x6 + 1)), (0, .ref 130), (1, .int x1), (2, .int x2), (3, .int x3), (4, .int x4), (5, .int x5)]) dX11_arrange_143 rfl rfl (by decide) rfl ?_
        refine V_goto (tgt := 23) dX11_arrange_146 (by decide) ?_
        refine V_sub [1, 2, 3, 4, 5, 6, 0] rfl ?_
        exact ih M x1 x2 x3 x4 x5 (x6 + 1) hI
      · refine V_aload_n (k := 0) dX11_arrange_44 rfl rfl ?_
        refine V_iload_n (k := 1) dX11_arrange_45 rfl rfl ?_
        refine V_iload (k := 6) dX11_arrange_46 rfl ?_
        refine V_iload_n (k := 2) dX11_arrange_48 rfl rfl ?_
        refine V_callVi (q := (RX11, TX11, 61)) (cls := 11) (st0 := []) (kc' := 0) (ks' := 0) dX11_arrange_49 lk_X11_327 rfl (by decide) rfl rfl rfl (cX11_mayNow_ok M x1 x6 x2 hI) rfl rfl (by omega) (by decide) (Nat.le_of_ble_eq_true rfl) (Or.inl rfl) rfl rfl (by decide) (by decide) (fun y25 M26 e27 hI28 => ?_)
        refine V_ifne (tgt := 58) dX11_arrange_52 (by decide) (fun h29 => ?_) (fun h29 => ?_)
        · refine V_iload (k := 5) dX11_arrange_58 rfl ?_
          refine V_istore (lv' := [(7, .int x5), (0, .ref 130), (1, .int x1), (2, .int x2), (3, .int x3), (4, .int x4), (5, .int x5), (6, .int x6)]) dX11_arrange_60 (by decide) rfl ?_
          refine V_iload (k := 7) dX11_arrange_62 rfl ?_
          refine V_iconst (v := 1) dX11_arrange_64 rfl ?_
          refine V_iadd dX11_arrange_65 ?_
          refine V_istore (lv' := [(8, .int (x6 + 1)), (7, .int x5), (0, .ref 130), (1, .int x1), (2, .int x2), (3, .int x3), (4, .int x4), (5, .int x5), (6, .int x6)]) dX11_arrange_66 (by decide) rfl ?_
          refine V_sub [2, 3, 4, 5, 6, 7, 8, 1, 0] rfl ?_
          exact vX11_arrange_68 hself (ih) FU M26 x1 x2 x3 x4 x5 x6 x5 (x6 + 1) hI28
        · refine V_goto (tgt := 143) dX11_arrange_55 (by decide) ?_
          refine V_iinc (k := 6) (v := x6 + 1) (lv' := [(6, .int (x6 + 1)), (0, .ref 130), (1, .int x1), (2, .int x2), (3, .int x3), (4, .int x4), (5, .int x5)]) dX11_arrange_143 rfl rfl (by decide) rfl ?_
          refine V_goto (tgt := 23) dX11_arrange_146 (by decide) ?_
          refine V_sub [1, 2, 3, 4, 5, 6, 0] rfl ?_
          exact ih M26 x1 x2 x3 x4 x5 (x6 + 1) hI28
def fX11_arrange_b (self : vM → Int32 → Int32 → Int32 → Int32 → Int32 → Option (vR × vM)) (M : vM) (x1 : Int32) (x2 : Int32) (x3 : Int32) (x4 : Int32) (x5 : Int32) : Option (vR × vM) := if v_in x1 12 = true then if x3 = (M.1 136 (Int32.toNatClampNeg x1)) then bv (fX11_addWay M x1 x4 x5) fun M32 => rV M32 else fX11_arrange_23 self FU M x1 x2 x3 x4 x5 0 else none
def fX11_arrange_r : Nat → vM → Int32 → Int32 → Int32 → Int32 → Int32 → Option (vR × vM)
  | 0, _, _, _, _, _, _ => none
  | d9 + 1, M, x1, x2, x3, x4, x5 => fX11_arrange_b (fX11_arrange_r d9) M x1 x2 x3 x4 x5
def fX11_arrange (M : vM) (x1 : Int32) (x2 : Int32) (x3 : Int32) (x4 : Int32) (x5 : Int32) : Option (vR × vM) := fX11_arrange_r 8 M x1 x2 x3 x4 x5
set_option maxRecDepth 20000 in
set_option maxHeartbeats 2000000 in
theorem cX11_arrange_b {l : Launch} {D : va_G} {dA : Nat → ClassId} {dd : Nat} {self : vM → Int32 → Int32 → Int32 → Int32 → Int32 → Option (vR × vM)} (hself : ∀ (M : vM) (x1 : Int32) (x2 : Int32) (x3 : Int32) (x4 : Int32) (x5 : Int32), v_WT M.2.2 → Ct l D dA sX11_arrange false 175 (2 + dd) 0 0 175 [.ref 130, .int x1, .int x2, .int x3, .int x4, .int x5] M (self M x1 x2 x3 x4 x5)) (M : vM) (x1 : Int32) (x2 : Int32) (x3 : Int32) (x4 : Int32) (x5 : Int32) (hI : v_WT M.2.2) : Ct l D dA sX11_arrange false 175 (2 + dd + 1) 0 0 175 [.ref 130, .int x1, .int x2, .int x3, .int x4, .int x5] M (fX11_arrange_b self M x1 x2 x3 x4 x5) := by
  refine Ct_of (lv := [(0, .ref 130), (1, .int x1), (2, .int x2), (3, .int x3), (4, .int x4), (5, .int x5)]) (by decide +kernel) rfl (Nat.le_of_ble_eq_true rfl) rfl (fun h => by cases h) ?_
  refine V_iload_n (k := 3) dX11_arrange_0 rfl rfl ?_
  refine V_aload_n (k := 0) dX11_arrange_1 rfl rfl ?_
  refine V_getr (k := 136) dX11_arrange_2 rfl (by decide) vf_X11_34 (by decide) (v_fin hI 123 rfl) ?_
  refine V_iload_n (k := 1) dX11_arrange_5 rfl rfl ?_
  refine V_iald dX11_arrange_6 rfl (by decide) (fun h30 => ?_)
  refine V_icmpne (tgt := 20) dX11_arrange_7 (by decide) (fun h31 => ?_) (fun h31 => ?_)
  · refine V_iconst (v := 0) dX11_arrange_20 rfl ?_
    refine V_istore (lv' := [(6, .int 0), (0, .ref 130), (1, .int x1), (2, .int x2), (3, .int x3), (4, .int x4), (5, .int x5)]) dX11_arrange_21 (by decide) rfl ?_
    refine V_sub [1, 2, 3, 4, 5, 6, 0] rfl ?_
    exact vX11_arrange_23 hself FU M x1 x2 x3 x4 x5 0 hI
  · refine V_aload_n (k := 0) dX11_arrange_10 rfl rfl ?_
    refine V_iload_n (k := 1) dX11_arrange_11 rfl rfl ?_
    refine V_iload (k := 4) dX11_arrange_12 rfl ?_
    refine V_iload (k := 5) dX11_arrange_14 rfl ?_
    refine V_callVv (q := (RX11, TX11, 61)) (cls := 11) (st0 := []) (kc' := 0) (ks' := 0) dX11_arrange_16 lk_X11_320 rfl (by decide) rfl rfl rfl (cX11_addWay_ok M x1 x4 x5 hI) rfl rfl (by omega) (by decide) (Nat.le_of_ble_eq_true rfl) (Or.inl rfl) rfl rfl (by decide) (by decide) (fun  M32 e33 hI34 => ?_)
    exact V_ret (fun _ => hI34) (Or.inl ⟨rfl, rfl⟩) dX11_arrange_19 (fun ty x h1 h2 => by cases h1) rfl
theorem cX11_arrange_r {l : Launch} {D : va_G} {dA : Nat → ClassId} : ∀ (d9 : Nat) (M : vM) (x1 : Int32) (x2 : Int32) (x3 : Int32) (x4 : Int32) (x5 : Int32), v_WT M.2.2 → Ct l D dA sX11_arrange false 175 (2 + d9) 0 0 175 [.ref 130, .int x1, .int x2, .int x3, .int x4, .int x5] M (fX11_arrange_r d9 M x1 x2 x3 x4 x5) := by
  intro d9
  induction d9 with
  | zero => intros; intro r M9 h; cases h
  | succ d9 ih => exact fun M x1 x2 x3 x4 x5 hI => cX11_arrange_b (dd := d9) ih M x1 x2 x3 x4 x5 hI
theorem cX11_arrange_ok {l : Launch} {D : va_G} {dA : Nat → ClassId} (M : vM) (x1 : Int32) (x2 : Int32) (x3 : Int32) (x4 : Int32) (x5 : Int32) (hI : v_WT M.2.2) : Ct l D dA sX11_arrange false 175 10 0 0 175 [.ref 130, .int x1, .int x2, .int x3, .int x4, .int x5] M (fX11_arrange M x1 x2 x3 x4 x5) := cX11_arrange_r 8 M x1 x2 x3 x4 x5 hI
def fX11_be_2 : Nat → vM → Nat → Nat → Int32 → Option (vR × vM)
  | 0, _, _, _, _ => none
  | n9 + 1, M, x0, x1, x2 => if (nI ((v_LAY x0).2.2)) ≤ x2 then rV M else if v_in x2 (v_LAY x1).2.2 = true then if v_in x2 (v_LAY x0).2.2 = true then fX11_be_2 n9 (v_si M x0 (Int32.toNatClampNeg x2) (M.1 x1 (Int32.toNatClampNeg x2))) x0 x1 (x2 + 1) else none else none
set_option maxRecDepth 20000 in
set_option maxHeartbeats 2000000 in
theorem vX11_be_2 {l : Launch} {D : va_G} {dA : Nat → ClassId} : ∀ (n9 : Nat) (M : vM) (x0 : Nat) (x1 : Nat) (x2 : Int32) (f0 : v_isA 0 x0) (f1 : v_isA 0 x1), v_WT M.2.2 → V l D dA sX11_be false 175 1 0 0 2 [(0, .ref x0), (1, .ref x1), (2, .int x2)] [] 175 M (fX11_be_2 n9 M x0 x1 x2) := by
  intro n9
  induction n9 with
  | zero => intros; exact V_none
  | succ n9 ih =>
    intro M x0 x1 x2 f0 f1 hI
    refine V_iload_n (k := 2) dX11_be_2 rfl rfl ?_
    refine V_aload_n (k := 0) dX11_be_3 rfl rfl ?_
    refine V_alen dX11_be_4 f0.2 f0.1 (by decide) ?_
    refine V_icmpge (tgt := 20) dX11_be_5 (by decide) (fun h4 => ?_) (fun h4 => ?_)
    · exact V_ret (fun _ => hI) (Or.inl ⟨rfl, rfl⟩) dX11_be_20 (fun ty x h1 h2 => by cases h1) rfl
    · refine V_aload_n (k := 0) dX11_be_8 rfl rfl ?_
      refine V_iload_n (k := 2) dX11_be_9 rfl rfl ?_
      refine V_aload_n (k := 1) dX11_be_10 rfl rfl ?_
      refine V_iload_n (k := 2) dX11_be_11 rfl rfl ?_
      refine V_iald dX11_be_12 f1.2 f1.1 (fun h5 => ?_)
      refine V_iast dX11_be_13 f0.2 f0.1 (fun h6 => ?_)
      refine V_iinc (k := 2) (v := x2 + 1) (lv' := [(2, .int (x2 + 1)), (0, .ref x0), (1, .ref x1)]) dX11_be_14 rfl rfl (by decide) rfl ?_
      refine V_goto (tgt := 2) dX11_be_17 (by decide) ?_
      refine V_sub [1, 2, 0] rfl ?_
      exact ih (v_si M x0 (Int32.toNatClampNeg x2) (M.1 x1 (Int32.toNatClampNeg x2))) x0 x1 (x2 + 1) f0 f1 hI
def fX11_be (M : vM) (x0 : Nat) (x1 : Nat) : Option (vR × vM) := fX11_be_2 FU M x0 x1 0
set_option maxRecDepth 20000 in
set_option maxHeartbeats 2000000 in
theorem cX11_be_ok {l : Launch} {D : va_G} {dA : Nat → ClassId} (M : vM) (x0 : Nat) (x1 : Nat) (f0 : v_isA 0 x0) (f1 : v_isA 0 x1) (hI : v_WT M.2.2) : Ct l D dA sX11_be false 175 1 0 0 175 [.ref x0, .ref x1] M (fX11_be M x0 x1) := by
  refine Ct_of (lv := [(0, .ref x0), (1, .ref x1)]) (by decide +kernel) rfl (Nat.le_of_ble_eq_true rfl) rfl (fun h => by cases h) ?_
  refine V_iconst (v := 0) dX11_be_0 rfl ?_
  refine V_istore_n (lv' := [(2, .int 0), (0, .ref x0), (1, .ref x1)]) dX11_be_1 rfl (by decide) rfl ?_
  refine V_sub [1, 2, 0] rfl ?_
  exact vX11_be_2 FU M x0 x1 0 f0 f1 hI
def fX11_book_28 (M : vM) : Option (vR × vM) := bi (fX11_fail M 1) fun y7 M8 => rI y7 M8
set_option maxRecDepth 20000 in
set_option maxHeartbeats 2000000 in
theorem vX11_book_28 {l : Launch} {D : va_G} {dA : Nat → ClassId} : ∀ (M : vM), v_WT M.2.2 → V l D dA sX11_book false 175 2 0 0 28 [(0, .ref 130)] [] 175 M (fX11_book_28 M) := by
  intro M hI
  refine V_aload_n (k := 0) dX11_book_28 rfl rfl ?_
  refine V_iconst (v := 1) dX11_book_29 rfl ?_
  refine V_callVi (q := (RX11, TX11, 61)) (cls := 11) (st0 := []) (kc' := 0) (ks' := 0) dX11_book_30 lk_X11_287 rfl (by decide) rfl rfl rfl (cX11_fail_ok M 1 hI) rfl rfl (by decide) (by decide) (Nat.le_of_ble_eq_true rfl) (Or.inl rfl) rfl rfl (by decide) (by decide) (fun y7 M8 e9 hI10 => ?_)
  exact V_ret (fun _ => hI10) (Or.inr (Or.inl ⟨rfl, _, rfl⟩)) dX11_book_33 (fun ty x h1 h2 => by cases h1; rfl) rfl
def fX11_book (M : vM) (x1 : Int32) (x2 : Int32) : Option (vR × vM) := bi (fX11_isIn (v_si M 130 1 0) x1 0 (((v_si M 130 1 0).1 130 21) - 1)) fun y11 M12 => if y11 = 0 then fX11_book_28 M12 else if x2 < 0 then fX11_book_28 M12 else if x2 ≤ 1 then if x2 = 0 then if v_in x1 400 = true then rI (M12.1 149 (Int32.toNatClampNeg x1)) M12 else none else if v_in x1 400 = true then rI (M12.1 150 (Int32.toNatClampNeg x1)) M12 else none else fX11_book_28 M12
set_option maxRecDepth 20000 in
set_option maxHeartbeats 2000000 in
theorem cX11_book_ok {l : Launch} {D : va_G} {dA : Nat → ClassId} (M : vM) (x1 : Int32) (x2 : Int32) (hI : v_WT M.2.2) : Ct l D dA sX11_book false 175 2 0 0 175 [.ref 130, .int x1, .int x2] M (fX11_book M x1 x2) := by
  refine Ct_of (lv := [(0, .ref 130), (1, .int x1), (2, .int x2)]) (by decide +kernel) rfl (Nat.le_of_ble_eq_true rfl) rfl (fun h => by cases h) ?_
  refine V_aload_n (k := 0) dX11_book_0 rfl rfl ?_
  refine V_iconst (v := 0) dX11_book_1 rfl ?_
  refine V_puti dX11_book_2 rfl (by decide) vf_X11_154 (by decide) rfl rfl ?_
  refine V_iload_n (k := 1) dX11_book_5 rfl rfl ?_
  refine V_iconst (v := 0) dX11_book_6 rfl ?_
  refine V_aload_n (k := 0) dX11_book_7 rfl rfl ?_
  refine V_geti dX11_book_8 rfl (by decide) vf_X11_293 (by decide) ?_
  refine V_iconst (v := 1) dX11_book_11 rfl ?_
  refine V_isub dX11_book_12 ?_
  refine V_callSi (st0 := []) (kc' := 0) (ks' := 0) dX11_book_13 lk_X11_160 rfl (cX11_isIn_ok (v_si M 130 1 0) x1 0 (((v_si M 130 1 0).1 130 21) - 1) hI) rfl rfl (by decide) (by decide) (Nat.le_of_ble_eq_true rfl) (Or.inl rfl) rfl rfl (by decide) (by decide) (fun y11 M12 e13 hI14 => ?_)
  refine V_ifeq (tgt := 28) dX11_book_16 (by decide) (fun h15 => ?_) (fun h15 => ?_)
  · refine V_sub [0] rfl ?_
    exact vX11_book_28 M12 hI14
  · refine V_iload_n (k := 2) dX11_book_19 rfl rfl ?_
    refine V_iflt (tgt := 28) dX11_book_20 (by decide) (fun h16 => ?_) (fun h16 => ?_)
    · refine V_sub [0] rfl ?_
      exact vX11_book_28 M12 hI14
    · refine V_iload_n (k := 2) dX11_book_23 rfl rfl ?_
      refine V_iconst (v := 1) dX11_book_24 rfl ?_
      refine V_icmple (tgt := 34) dX11_book_25 (by decide) (fun h17 => ?_) (fun h17 => ?_)
      · refine V_iload_n (k := 2) dX11_book_34 rfl rfl ?_
        refine V_ifne (tgt := 47) dX11_book_35 (by decide) (fun h18 => ?_) (fun h18 => ?_)
        · refine V_aload_n (k := 0) dX11_book_47 rfl rfl ?_
          refine V_getr (k := 150) dX11_book_48 rfl (by decide) vf_X11_77 (by decide) (v_fin hI14 137 rfl) ?_
          refine V_iload_n (k := 1) dX11_book_51 rfl rfl ?_
          refine V_iald dX11_book_52 rfl (by decide) (fun h19 => ?_)
          exact V_ret (fun _ => hI14) (Or.inr (Or.inl ⟨rfl, _, rfl⟩)) dX11_book_53 (fun ty x h1 h2 => by cases h1; rfl) rfl
        · refine V_aload_n (k := 0) dX11_book_38 rfl rfl ?_
          refine V_getr (k := 149) dX11_book_39 rfl (by decide) vf_X11_74 (by decide) (v_fin hI14 136 rfl) ?_
          refine V_iload_n (k := 1) dX11_book_42 rfl rfl ?_
          refine V_iald dX11_book_43 rfl (by decide) (fun h20 => ?_)
          refine V_goto (tgt := 53) dX11_book_44 (by decide) ?_
          exact V_ret (fun _ => hI14) (Or.inr (Or.inl ⟨rfl, _, rfl⟩)) dX11_book_53 (fun ty x h1 h2 => by cases h1; rfl) rfl
      · refine V_sub [0] rfl ?_
        exact vX11_book_28 M12 hI14
def fX11_byteAt (M : vM) (x1 : Int32) : Option (vR × vM) := if (M.1 130 33) ≤ x1 then rI ((-1)) M else if v_in x1 700 = true then rI (M.1 157 (Int32.toNatClampNeg x1)) M else none
set_option maxRecDepth 20000 in
set_option maxHeartbeats 2000000 in
theorem cX11_byteAt_ok {l : Launch} {D : va_G} {dA : Nat → ClassId} (M : vM) (x1 : Int32) (hI : v_WT M.2.2) : Ct l D dA sX11_byteAt false 175 1 0 0 175 [.ref 130, .int x1] M (fX11_byteAt M x1) := by
  refine Ct_of (lv := [(0, .ref 130), (1, .int x1)]) (by decide +kernel) rfl (Nat.le_of_ble_eq_true rfl) rfl (fun h => by cases h) ?_
  refine V_iload_n (k := 1) dX11_byteAt_0 rfl rfl ?_
  refine V_aload_n (k := 0) dX11_byteAt_1 rfl rfl ?_
  refine V_geti dX11_byteAt_2 rfl (by decide) vf_X11_171 (by decide) ?_
  refine V_icmpge (tgt := 17) dX11_byteAt_5 (by decide) (fun h3 => ?_) (fun h3 => ?_)
  · refine V_iconst (v := (-1)) dX11_byteAt_17 rfl ?_
    exact V_ret (fun _ => hI) (Or.inr (Or.inl ⟨rfl, _, rfl⟩)) dX11_byteAt_18 (fun ty x h1 h2 => by cases h1; rfl) rfl
  · refine V_aload_n (k := 0) dX11_byteAt_8 rfl rfl ?_
    refine V_getr (k := 157) dX11_byteAt_9 rfl (by decide) vf_X11_98 (by decide) (v_fin hI 144 rfl) ?_
    refine V_iload_n (k := 1) dX11_byteAt_12 rfl rfl ?_
    refine V_iald dX11_byteAt_13 rfl (by decide) (fun h4 => ?_)
    refine V_goto (tgt := 18) dX11_byteAt_14 (by decide) ?_
    exact V_ret (fun _ => hI) (Or.inr (Or.inl ⟨rfl, _, rfl⟩)) dX11_byteAt_18 (fun ty x h1 h2 => by cases h1; rfl) rfl
def fX11_spend_24 : Nat → vM → Int32 → Int32 → Nat → Int32 → Int32 → Int32 → Option (vR × vM)
  | 0, _, _, _, _, _, _, _ => none
  | n9 + 1, M, x1, x2, x3, x4, x5, x6 => if v_in x1 6 = true then if (M.1 145 (Int32.toNatClampNeg x1)) ≤ x6 then rV M else bi (fX11_markOf M x1 x6) fun y11 M12 => bi (fX11_markOf M12 x1 x2) fun y15 M16 => if v_in x1 12 = true then if v_in x1 12 = true then bi (fX11_areSame M16 y11 y15 (M16.1 134 (Int32.toNatClampNeg x1)) x5 (M16.1 135 (Int32.toNatClampNeg x1))) fun y21 M22 => if y21 = 0 then fX11_spend_24 n9 M22 x1 x2 x3 x4 x5 (x6 + 1) else if v_in (x4 + x6) (v_LAY x3).2.2 = true then fX11_spend_24 n9 (v_si M22 x3 (Int32.toNatClampNeg (x4 + x6)) (v_nz 1)) x1 x2 x3 x4 x5 (x6 + 1) else none else none else none else none
set_option maxRecDepth 20000 in
set_option maxHeartbeats 2000000 in
theorem vX11_spend_24 {l : Launch} {D : va_G} {dA : Nat → ClassId} : ∀ (n9 : Nat) (M : vM) (x1 : Int32) (x2 : Int32) (x3 : Nat) (x4 : Int32) (x5 : Int32) (x6 : Int32) (f3 : v_isA 3 x3), v_WT M.2.2 → V l D dA sX11_spend false 175 3 0 0 24 [(0, .ref 130), (1, .int x1), (2, .int x2), (3, .ref x3), (4, .int x4), (5, .int x5), (6, .int x6)] [] 175 M (fX11_spend_24 n9 M x1 x2 x3 x4 x5 x6) := by
  intro n9
  induction n9 with
  | zero => intros; exact V_none
  | succ n9 ih =>
    intro M x1 x2 x3 x4 x5 x6 f3 hI
    refine V_iload (k := 6) dX11_spend_24 rfl ?_
    refine V_aload_n (k := 0) dX11_spend_26 rfl rfl ?_
    refine V_getr (k := 145) dX11_spend_27 rfl (by decide) vf_X11_61 (by decide) (v_fin hI 132 rfl) ?_
    refine V_iload_n (k := 1) dX11_spend_30 rfl rfl ?_
    refine V_iald dX11_spend_31 rfl (by decide) (fun h9 => ?_)
    refine V_icmpge (tgt := 82) dX11_spend_32 (by decide) (fun h10 => ?_) (fun h10 => ?_)
    · exact V_ret (fun _ => hI) (Or.inl ⟨rfl, rfl⟩) dX11_spend_82 (fun ty x h1 h2 => by cases h1) rfl
    · refine V_aload_n (k := 0) dX11_spend_35 rfl rfl ?_
      refine V_iload_n (k := 1) dX11_spend_36 rfl rfl ?_
      refine V_iload (k := 6) dX11_spend_37 rfl ?_
      refine V_callVi (q := (RX11, TX11, 61)) (cls := 11) (st0 := []) (kc' := 0) (ks' := 0) dX11_spend_39 lk_X11_349 rfl (by decide) rfl rfl rfl (cX11_markOf_ok M x1 x6 hI) rfl rfl (by decide) (by decide) (Nat.le_of_ble_eq_true rfl) (Or.inl rfl) rfl rfl (by decide) (by decide) (fun y11 M12 e13 hI14 => ?_)
      refine V_aload_n (k := 0) dX11_spend_42 rfl rfl ?_
      refine V_iload_n (k := 1) dX11_spend_43 rfl rfl ?_
      refine V_iload_n (k := 2) dX11_spend_44 rfl rfl ?_
      refine V_callVi (q := (RX11, TX11, 61)) (cls := 11) (st0 := [.int y11]) (kc' := 0) (ks' := 0) dX11_spend_45 lk_X11_349 rfl (by decide) rfl rfl rfl (cX11_markOf_ok M12 x1 x2 hI14) rfl rfl (by decide) (by decide) (Nat.le_of_ble_eq_true rfl) (Or.inl rfl) rfl rfl (by decide) (by decide) (fun y15 M16 e17 hI18 => ?_)
      refine V_aload_n (k := 0) dX11_spend_48 rfl rfl ?_
      refine V_getr (k := 134) dX11_spend_49 rfl (by decide) vf_X11_28 (by decide) (v_fin hI18 121 rfl) ?_
      refine V_iload_n (k := 1) dX11_spend_52 rfl rfl ?_
      refine V_iald dX11_spend_53 rfl (by decide) (fun h19 => ?_)
      refine V_iload (k := 5) dX11_spend_54 rfl ?_
      refine V_aload_n (k := 0) dX11_spend_56 rfl rfl ?_
      refine V_getr (k := 135) dX11_spend_57 rfl (by decide) vf_X11_31 (by decide) (v_fin hI18 122 rfl) ?_
      refine V_iload_n (k := 1) dX11_spend_60 rfl rfl ?_
      refine V_iald dX11_spend_61 rfl (by decide) (fun h20 => ?_)
      refine V_callSi (st0 := []) (kc' := 0) (ks' := 0) dX11_spend_62 lk_X11_345 rfl (cX11_areSame_ok M16 y11 y15 (M16.1 134 (Int32.toNatClampNeg x1)) x5 (M16.1 135 (Int32.toNatClampNeg x1)) hI18) rfl rfl (by decide) (by decide) (Nat.le_of_ble_eq_true rfl) (Or.inl rfl) rfl rfl (by decide) (by decide) (fun y21 M22 e23 hI24 => ?_)
      refine V_ifeq (tgt := 76) dX11_spend_65 (by decide) (fun h25 => ?_) (fun h25 => ?_)
      · refine V_iinc (k := 6) (v := x6 + 1) (lv' := [(6, .int (x6 + 1)), (0, .ref 130), (1, .int x1), (2, .int x2), (3, .ref x3), (4, .int x4), (5, .int x5)]) dX11_spend_76 rfl rfl (by decide) rfl ?_
        refine V_goto (tgt := 24) dX11_spend_79 (by decide) ?_
        refine V_sub [1, 2, 3, 4, 5, 6, 0] rfl ?_
        exact ih M22 x1 x2 x3 x4 x5 (x6 + 1) f3 hI24
      · refine V_aload_n (k := 3) dX11_spend_68 rfl rfl ?_
        refine V_iload (k := 4) dX11_spend_69 rfl ?_
        refine V_iload (k := 6) dX11_spend_71 rfl ?_
        refine V_iadd dX11_spend_73 ?_
        refine V_iconst (v := 1) dX11_spend_74 rfl ?_
        refine V_zast dX11_spend_75 f3.2 f3.1 (fun h26 => ?_)
        refine V_iinc (k := 6) (v := x6 + 1) (lv' := [(6, .int (x6 + 1)), (0, .ref 130), (1, .int x1), (2, .int x2), (3, .ref x3), (4, .int x4), (5, .int x5)]) dX11_spend_76 rfl rfl (by decide) rfl ?_
        refine V_goto (tgt := 24) dX11_spend_79 (by decide) ?_
        refine V_sub [1, 2, 3, 4, 5, 6, 0] rfl ?_
        exact ih (v_si M22 x3 (Int32.toNatClampNeg (x4 + x6)) (v_nz 1)) x1 x2 x3 x4 x5 (x6 + 1) f3 hI24
def fX11_spend (M : vM) (x1 : Int32) (x2 : Int32) (x3 : Nat) (x4 : Int32) : Option (vR × vM) := if v_in x1 12 = true then if (M.1 134 (Int32.toNatClampNeg x1)) = 1 then bi (fX11_freeBits M x1) fun y29 M30 => fX11_spend_24 FU M30 x1 x2 x3 x4 y29 0 else fX11_spend_24 FU M x1 x2 x3 x4 0 0 else none
set_option maxRecDepth 20000 in
set_option maxHeartbeats 2000000 in
theorem cX11_spend_ok {l : Launch} {D : va_G} {dA : Nat → ClassId} (M : vM) (x1 : Int32) (x2 : Int32) (x3 : Nat) (x4 : Int32) (f3 : v_isA 3 x3) (hI : v_WT M.2.2) : Ct l D dA sX11_spend false 175 3 0 0 175 [.ref 130, .int x1, .int x2, .ref x3, .int x4] M (fX11_spend M x1 x2 x3 x4) := by
  refine Ct_of (lv := [(0, .ref 130), (1, .int x1), (2, .int x2), (3, .ref x3), (4, .int x4)]) (by decide +kernel) rfl (Nat.le_of_ble_eq_true rfl) rfl (fun h => by cases h) ?_
  refine V_aload_n (k := 0) dX11_spend_0 rfl rfl ?_
  refine V_getr (k := 134) dX11_spend_1 rfl (by decide) vf_X11_28 (by decide) (v_fin hI 121 rfl) ?_
  refine V_iload_n (k := 1) dX11_spend_4 rfl rfl ?_
  refine V_iald dX11_spend_5 rfl (by decide) (fun h27 => ?_)
  refine V_iconst (v := 1) dX11_spend_6 rfl ?_
  refine V_icmpne (tgt := 18) dX11_spend_7 (by decide) (fun h28 => ?_) (fun h28 => ?_)
  · refine V_iconst (v := 0) dX11_spend_18 rfl ?_
    refine V_istore (lv' := [(5, .int 0), (0, .ref 130), (1, .int x1), (2, .int x2), (3, .ref x3), (4, .int x4)]) dX11_spend_19 (by decide) rfl ?_
    refine V_iconst (v := 0) dX11_spend_21 rfl ?_
    refine V_istore (lv' := [(6, .int 0), (5, .int 0), (0, .ref 130), (1, .int x1), (2, .int x2), (3, .ref x3), (4, .int x4)]) dX11_spend_22 (by decide) rfl ?_
    refine V_sub [2, 3, 4, 5, 6, 1, 0] rfl ?_
    exact vX11_spend_24 FU M x1 x2 x3 x4 0 0 f3 hI
  · refine V_aload_n (k := 0) dX11_spend_10 rfl rfl ?_
    refine V_iload_n (k := 1) dX11_spend_11 rfl rfl ?_
    refine V_callVi (q := (RX11, TX11, 61)) (cls := 11) (st0 := []) (kc' := 0) (ks' := 0) dX11_spend_12 lk_X11_342 rfl (by decide) rfl rfl rfl (cX11_freeBits_ok M x1 hI) rfl rfl (by decide) (by decide) (Nat.le_of_ble_eq_true rfl) (Or.inl rfl) rfl rfl (by decide) (by decide) (fun y29 M30 e31 hI32 => ?_)
    refine V_goto (tgt := 19) dX11_spend_15 (by decide) ?_
    refine V_istore (lv' := [(5, .int y29), (0, .ref 130), (1, .int x1), (2, .int x2), (3, .ref x3), (4, .int x4)]) dX11_spend_19 (by decide) rfl ?_
    refine V_iconst (v := 0) dX11_spend_21 rfl ?_
    refine V_istore (lv' := [(6, .int 0), (5, .int y29), (0, .ref 130), (1, .int x1), (2, .int x2), (3, .ref x3), (4, .int x4)]) dX11_spend_22 (by decide) rfl ?_
    refine V_sub [2, 3, 4, 5, 6, 1, 0] rfl ?_
    exact vX11_spend_24 FU M30 x1 x2 x3 x4 y29 0 f3 hI32
