def fX10_doCheapest (M : vM) (x1 : Int32) : Option (vR × vM) := br (fX10_workOf M x1) fun y3 M4 => bi (fX9_nextUnspent M4 y3 0) fun y7 M8 => if y7 = ((-1)) then rI ((-1)) M8 else bi (fX1_bookIsFull M8 6) fun y12 M13 => if y12 = 0 then bv (fX1_enter M13 6 x1 y7) fun M17 => bv (fX9_spendLike M17 y3 y7) fun M20 => bi (fX9_costOf M20 y3 y7) fun y23 M24 => rI y23 M24 else rI ((-1)) M13
set_option maxRecDepth 20000 in
set_option maxHeartbeats 2000000 in
theorem cX10_doCheapest_ok {l : Launch} {D : va_G} {dA : Nat → ClassId} (hT : l.stackTraces = false) (M : vM) (x1 : Int32) (hI : v_WT M.2.2) : Ct l D dA sX10_doCheapest false 175 7 1 6 175 [.ref 0, .int x1] M (fX10_doCheapest M x1) := by
  refine Ct_of (lv := [(0, .ref 0), (1, .int x1)]) (by decide +kernel) rfl (Nat.le_of_ble_eq_true rfl) rfl (fun h => by cases h) ?_
  refine V_aload_n (k := 0) dX10_doCheapest_0 rfl rfl ?_
  refine V_iload_n (k := 1) dX10_doCheapest_1 rfl rfl ?_
  refine V_callVr (q := (RX10, TX10, 15)) (cls := 10) (st0 := []) (kc' := 0) (ks' := 0) dX10_doCheapest_2 lk_X10_158 rfl (by decide) rfl rfl rfl (cX10_workOf_ok hT M x1 hI) rfl rfl (by decide) (by decide) (Nat.le_of_ble_eq_true rfl) (Or.inl rfl) rfl rfl (by decide) (by decide) (fun y3 M4 e5 hI6 => ?_)
  have wy3 := wX10_workOf_ret e5
  refine V_astore_n (lv' := [(2, .ref y3), (0, .ref 0), (1, .int x1)]) dX10_doCheapest_5 rfl (by decide) rfl ?_
  refine V_aload_n (k := 0) dX10_doCheapest_6 rfl rfl ?_
  refine V_iconst (v := 0) dX10_doCheapest_7 rfl ?_
  refine V_callVi (q := (RX9, TX9, 6)) (cls := 9) (st0 := []) (kc' := 0) (ks' := 0) dX10_doCheapest_8 lk_X10_306 rfl (v_LW wy3).1 (v_LW wy3).2.1 rfl rfl (cX9_nextUnspent_ok M4 y3 0 wy3 hI6) rfl rfl (by decide) (by decide) (Nat.le_of_ble_eq_true rfl) (Or.inl rfl) rfl rfl (by decide) (by decide) (fun y7 M8 e9 hI10 => ?_)
  refine V_istore_n (lv' := [(3, .int y7), (2, .ref y3), (0, .ref 0), (1, .int x1)]) dX10_doCheapest_11 rfl (by decide) rfl ?_
  refine V_iload_n (k := 0) dX10_doCheapest_12 rfl rfl ?_
  refine V_iconst (v := (-1)) dX10_doCheapest_13 rfl ?_
  refine V_icmpeq (tgt := 27) dX10_doCheapest_14 (by decide) (fun h11 => ?_) (fun h11 => ?_)
  · refine V_iconst (v := (-1)) dX10_doCheapest_27 rfl ?_
    exact V_ret (fun _ => hI10) (Or.inr (Or.inl ⟨rfl, _, rfl⟩)) dX10_doCheapest_28 (fun ty x h1 h2 => by cases h1; rfl) rfl
  · refine V_aload_n (k := 2) dX10_doCheapest_17 rfl rfl ?_
    refine V_getr (k := 6) dX10_doCheapest_18 rfl (by decide) vf_X10_40 (by decide) (v_fin hI10 4 rfl) ?_
    refine V_callVi (q := (RX1, TX1, 9)) (cls := 1) (st0 := []) (kc' := 0) (ks' := 0) dX10_doCheapest_21 lk_X10_225 rfl (by decide) rfl rfl rfl (cX1_bookIsFull_ok M8 6 (Or.inl rfl) hI10) rfl rfl (by decide) (by decide) (Nat.le_of_ble_eq_true rfl) (Or.inl rfl) rfl rfl (by decide) (by decide) (fun y12 M13 e14 hI15 => ?_)
    refine V_ifeq (tgt := 29) dX10_doCheapest_24 (by decide) (fun h16 => ?_) (fun h16 => ?_)
    · refine V_aload_n (k := 2) dX10_doCheapest_29 rfl rfl ?_
      refine V_getr (k := 6) dX10_doCheapest_30 rfl (by decide) vf_X10_40 (by decide) (v_fin hI15 4 rfl) ?_
      refine V_iload_n (k := 3) dX10_doCheapest_33 rfl rfl ?_
      refine V_iload_n (k := 0) dX10_doCheapest_34 rfl rfl ?_
      refine V_callVv (q := (RX1, TX1, 9)) (cls := 1) (st0 := []) (kc' := 0) (ks' := 0) dX10_doCheapest_35 lk_X10_229 rfl (by decide) rfl rfl rfl (cX1_enter_ok M13 6 x1 y7 (Or.inl rfl) hI15) rfl rfl (by decide) (by decide) (Nat.le_of_ble_eq_true rfl) (Or.inl rfl) rfl rfl (by decide) (by decide) (fun  M17 e18 hI19 => ?_)
      refine V_aload_n (k := 1) dX10_doCheapest_38 rfl rfl ?_
      refine V_iload_n (k := 0) dX10_doCheapest_39 rfl rfl ?_
      refine V_callVv (q := (RX9, TX9, 6)) (cls := 9) (st0 := []) (kc' := 0) (ks' := 0) dX10_doCheapest_40 lk_X10_232 rfl (v_LW wy3).1 (v_LW wy3).2.1 rfl rfl (cX9_spendLike_ok M17 y3 y7 wy3 hI19) rfl rfl (by decide) (by decide) (Nat.le_of_ble_eq_true rfl) (Or.inl rfl) rfl rfl (by decide) (by decide) (fun  M20 e21 hI22 => ?_)
      refine V_aload_n (k := 1) dX10_doCheapest_43 rfl rfl ?_
      refine V_iload_n (k := 0) dX10_doCheapest_44 rfl rfl ?_
      refine V_callVi (q := (RX9, TX9, 6)) (cls := 9) (st0 := []) (kc' := 0) (ks' := 0) dX10_doCheapest_45 lk_X10_196 rfl (v_LW wy3).1 (v_LW wy3).2.1 rfl rfl (cX9_costOf_ok M20 y3 y7 wy3 hI22) rfl rfl (by decide) (by decide) (Nat.le_of_ble_eq_true rfl) (Or.inl rfl) rfl rfl (by decide) (by decide) (fun y23 M24 e25 hI26 => ?_)
      exact V_ret (fun _ => hI26) (Or.inr (Or.inl ⟨rfl, _, rfl⟩)) dX10_doCheapest_48 (fun ty x h1 h2 => by cases h1; rfl) rfl
    · refine V_iconst (v := (-1)) dX10_doCheapest_27 rfl ?_
      exact V_ret (fun _ => hI15) (Or.inr (Or.inl ⟨rfl, _, rfl⟩)) dX10_doCheapest_28 (fun ty x h1 h2 => by cases h1; rfl) rfl
def fX10_refuseUnlessWay (M : vM) (x0 : Nat) (x1 : Int32) : Option (vR × vM) := bi (fX9_has M x0 x1) fun y2 M3 => if y2 = 0 then rT 1 M3 else rV M3
set_option maxRecDepth 20000 in
set_option maxHeartbeats 2000000 in
theorem cX10_refuseUnlessWay_ok {l : Launch} {D : va_G} {dA : Nat → ClassId} (hT : l.stackTraces = false) (M : vM) (x0 : Nat) (x1 : Int32) (f0 : v_isW x0) (hI : v_WT M.2.2) : Ct l D dA sX10_refuseUnlessWay false 175 6 1 6 175 [.ref x0, .int x1] M (fX10_refuseUnlessWay M x0 x1) := by
  refine Ct_of (lv := [(0, .ref x0), (1, .int x1)]) (by decide +kernel) rfl (Nat.le_of_ble_eq_true rfl) rfl (fun h => by cases h) ?_
  refine V_aload_n (k := 0) dX10_refuseUnlessWay_0 rfl rfl ?_
  refine V_iload_n (k := 1) dX10_refuseUnlessWay_1 rfl rfl ?_
  refine V_callVi (q := (RX9, TX9, 6)) (cls := 9) (st0 := []) (kc' := 1) (ks' := 6) dX10_refuseUnlessWay_2 lk_X10_361 rfl (v_LW f0).1 (v_LW f0).2.1 rfl rfl (cX9_has_ok M x0 x1 f0 hI) rfl rfl (by decide) (by decide) (Nat.le_of_ble_eq_true rfl) (Or.inl rfl) rfl rfl (by decide) (by decide) (fun y2 M3 e4 hI5 => ?_)
  refine V_ifne (tgt := 19) dX10_refuseUnlessWay_5 (by decide) (fun h6 => ?_) (fun h6 => ?_)
  · exact V_ret (fun _ => hI5) (Or.inl ⟨rfl, rfl⟩) dX10_refuseUnlessWay_19 (fun ty x h1 h2 => by cases h1) rfl
  · exact V_throwNW (sid := 17) (text := "no such way") (fun _ => hI5) hT rfl (by decide +kernel) dX10_refuseUnlessWay_8 dX10_refuseUnlessWay_11 dX10_refuseUnlessWay_12 dX10_refuseUnlessWay_15 dX10_refuseUnlessWay_18 rfl (by decide) (by decide) (by decide) (Nat.le_of_ble_eq_true rfl)
def fX1_refuse (M : vM) (x0 : Nat) (x1 : Int32) : Option (vR × vM) := bi (fX10_at M (x0 + 8) x1) fun y1 M2 => bv (fX10_put M2 (x0 + 8) x1 (y1 + 1)) fun M5 => rV M5
set_option maxRecDepth 20000 in
set_option maxHeartbeats 2000000 in
theorem cX1_refuse_ok {l : Launch} {D : va_G} {dA : Nat → ClassId} (M : vM) (x0 : Nat) (x1 : Int32) (f0 : v_isG x0) (hI : v_WT M.2.2) : Ct l D dA sX1_refuse false 175 2 0 0 175 [.ref x0, .int x1] M (fX1_refuse M x0 x1) := by
  refine Ct_of (lv := [(0, .ref x0), (1, .int x1)]) (by decide +kernel) rfl (Nat.le_of_ble_eq_true rfl) rfl (fun h => by cases h) ?_
  refine V_aload_n (k := 0) dX1_refuse_0 rfl rfl ?_
  refine V_getr (k := x0 + 8) dX1_refuse_1 (v_LG f0).2.1 (v_LG f0).1 vf_X1_33 (by decide) (v_finG hI f0).2.2.2.2.2.2.2 ?_
  refine V_iload_n (k := 1) dX1_refuse_4 rfl rfl ?_
  refine V_aload_n (k := 0) dX1_refuse_5 rfl rfl ?_
  refine V_getr (k := x0 + 8) dX1_refuse_6 (v_LG f0).2.1 (v_LG f0).1 vf_X1_33 (by decide) (v_finG hI f0).2.2.2.2.2.2.2 ?_
  refine V_iload_n (k := 1) dX1_refuse_9 rfl rfl ?_
  refine V_callSi (st0 := [.int x1, .ref (x0 + 8)]) (kc' := 0) (ks' := 0) dX1_refuse_10 lk_X1_52 rfl (cX10_at_ok M (x0 + 8) x1 (v_isA_of (v_LG f0).2.2.2.2.2.2.2.2.2.2 (v_LG f0).2.2.1.2.2.2.2.2.2.2) hI) rfl rfl (by decide) (by decide) (Nat.le_of_ble_eq_true rfl) (Or.inl rfl) rfl rfl (by decide) (by decide) (fun y1 M2 e3 hI4 => ?_)
  refine V_iconst (v := 1) dX1_refuse_13 rfl ?_
  refine V_iadd dX1_refuse_14 ?_
  refine V_callSv (st0 := []) (kc' := 0) (ks' := 0) dX1_refuse_15 lk_X1_56 rfl (cX10_put_ok M2 (x0 + 8) x1 (y1 + 1) (v_isA_of (v_LG f0).2.2.2.2.2.2.2.2.2.2 (v_LG f0).2.2.1.2.2.2.2.2.2.2) hI4) rfl rfl (by decide) (by decide) (Nat.le_of_ble_eq_true rfl) (Or.inl rfl) rfl rfl (by decide) (by decide) (fun  M5 e6 hI7 => ?_)
  exact V_ret (fun _ => hI7) (Or.inl ⟨rfl, rfl⟩) dX1_refuse_18 (fun ty x h1 h2 => by cases h1) rfl
def fX10_done_29 (M : vM) : Option (vR × vM) := bv (fX1_refuse M 6 1) fun M3 => rI 0 M3
set_option maxRecDepth 20000 in
set_option maxHeartbeats 2000000 in
theorem vX10_done_29 {l : Launch} {D : va_G} {dA : Nat → ClassId} (hT : l.stackTraces = false) : ∀ (M : vM), v_WT M.2.2 → V l D dA sX10_done false 175 7 0 0 29 [(0, .ref 0)] [] 175 M (fX10_done_29 M) := by
  intro M hI
  refine V_aload_n (k := 0) dX10_done_29 rfl rfl ?_
  refine V_getr (k := 6) dX10_done_30 rfl (by decide) vf_X10_40 (by decide) (v_fin hI 4 rfl) ?_
  refine V_iconst (v := 1) dX10_done_33 rfl ?_
  refine V_callVv (q := (RX1, TX1, 9)) (cls := 1) (st0 := []) (kc' := 0) (ks' := 0) dX10_done_34 lk_X10_115 rfl (by decide) rfl rfl rfl (cX1_refuse_ok M 6 1 (Or.inl rfl) hI) rfl rfl (by decide) (by decide) (Nat.le_of_ble_eq_true rfl) (Or.inl rfl) rfl rfl (by decide) (by decide) (fun  M3 e4 hI5 => ?_)
  refine V_iconst (v := 0) dX10_done_37 rfl ?_
  exact V_ret (fun _ => hI5) (Or.inr (Or.inr (Or.inl ⟨rfl, _, rfl⟩))) dX10_done_38 (fun ty x h1 h2 => by cases h1; cases h2; rfl) rfl
def fX10_done (M : vM) (x1 : Int32) (x2 : Int32) : Option (vR × vM) := br (fX10_workOf M x1) fun y6 M7 => bv (fX10_refuseUnlessWay M7 y6 x2) fun M10 => bi (fX9_isSpent M10 y6 x2) fun y13 M14 => if y13 = 0 then bi (fX1_bookIsFull M14 6) fun y18 M19 => if y18 = 0 then bv (fX1_enter M19 6 x1 x2) fun M23 => bv (fX9_spendLike M23 y6 x2) fun M26 => rI 1 M26 else fX10_done_29 M19 else fX10_done_29 M14
set_option maxRecDepth 20000 in
set_option maxHeartbeats 2000000 in
theorem cX10_done_ok {l : Launch} {D : va_G} {dA : Nat → ClassId} (hT : l.stackTraces = false) (M : vM) (x1 : Int32) (x2 : Int32) (hI : v_WT M.2.2) : Ct l D dA sX10_done false 175 7 2 12 175 [.ref 0, .int x1, .int x2] M (fX10_done M x1 x2) := by
  refine Ct_of (lv := [(0, .ref 0), (1, .int x1), (2, .int x2)]) (by decide +kernel) rfl (Nat.le_of_ble_eq_true rfl) rfl (fun h => by cases h) ?_
  refine V_aload_n (k := 0) dX10_done_0 rfl rfl ?_
  refine V_iload_n (k := 1) dX10_done_1 rfl rfl ?_
  refine V_callVr (q := (RX10, TX10, 15)) (cls := 10) (st0 := []) (kc' := 1) (ks' := 6) dX10_done_2 lk_X10_158 rfl (by decide) rfl rfl rfl (cX10_workOf_ok hT M x1 hI) rfl rfl (by decide) (by decide) (Nat.le_of_ble_eq_true rfl) (Or.inl rfl) rfl rfl (by decide) (by decide) (fun y6 M7 e8 hI9 => ?_)
  have wy6 := wX10_workOf_ret e8
  refine V_astore_n (lv' := [(3, .ref y6), (0, .ref 0), (1, .int x1), (2, .int x2)]) dX10_done_5 rfl (by decide) rfl ?_
  refine V_aload_n (k := 0) dX10_done_6 rfl rfl ?_
  refine V_iload_n (k := 3) dX10_done_7 rfl rfl ?_
  refine V_callSv (st0 := []) (kc' := 0) (ks' := 0) dX10_done_8 lk_X10_192 rfl (cX10_refuseUnlessWay_ok hT M7 y6 x2 wy6 hI9) rfl rfl (by decide) (by decide) (Nat.le_of_ble_eq_true rfl) (Or.inl rfl) rfl rfl (by decide) (by decide) (fun  M10 e11 hI12 => ?_)
  refine V_aload_n (k := 0) dX10_done_11 rfl rfl ?_
  refine V_iload_n (k := 3) dX10_done_12 rfl rfl ?_
  refine V_callVi (q := (RX9, TX9, 6)) (cls := 9) (st0 := []) (kc' := 0) (ks' := 0) dX10_done_13 lk_X10_202 rfl (v_LW wy6).1 (v_LW wy6).2.1 rfl rfl (cX9_isSpent_ok M10 y6 x2 wy6 hI12) rfl rfl (by decide) (by decide) (Nat.le_of_ble_eq_true rfl) (Or.inl rfl) rfl rfl (by decide) (by decide) (fun y13 M14 e15 hI16 => ?_)
  refine V_ifne (tgt := 29) dX10_done_16 (by decide) (fun h17 => ?_) (fun h17 => ?_)
  · refine V_sub [1] rfl ?_
    exact vX10_done_29 hT M14 hI16
  · refine V_aload_n (k := 1) dX10_done_19 rfl rfl ?_
    refine V_getr (k := 6) dX10_done_20 rfl (by decide) vf_X10_40 (by decide) (v_fin hI16 4 rfl) ?_
    refine V_callVi (q := (RX1, TX1, 9)) (cls := 1) (st0 := []) (kc' := 0) (ks' := 0) dX10_done_23 lk_X10_225 rfl (by decide) rfl rfl rfl (cX1_bookIsFull_ok M14 6 (Or.inl rfl) hI16) rfl rfl (by decide) (by decide) (Nat.le_of_ble_eq_true rfl) (Or.inl rfl) rfl rfl (by decide) (by decide) (fun y18 M19 e20 hI21 => ?_)
    refine V_ifeq (tgt := 39) dX10_done_26 (by decide) (fun h22 => ?_) (fun h22 => ?_)
    · refine V_aload_n (k := 1) dX10_done_39 rfl rfl ?_
      refine V_getr (k := 6) dX10_done_40 rfl (by decide) vf_X10_40 (by decide) (v_fin hI21 4 rfl) ?_
      refine V_iload_n (k := 2) dX10_done_43 rfl rfl ?_
      refine V_iload_n (k := 3) dX10_done_44 rfl rfl ?_
      refine V_callVv (q := (RX1, TX1, 9)) (cls := 1) (st0 := []) (kc' := 0) (ks' := 0) dX10_done_45 lk_X10_229 rfl (by decide) rfl rfl rfl (cX1_enter_ok M19 6 x1 x2 (Or.inl rfl) hI21) rfl rfl (by decide) (by decide) (Nat.le_of_ble_eq_true rfl) (Or.inl rfl) rfl rfl (by decide) (by decide) (fun  M23 e24 hI25 => ?_)
      refine V_aload_n (k := 0) dX10_done_48 rfl rfl ?_
      refine V_iload_n (k := 3) dX10_done_49 rfl rfl ?_
      refine V_callVv (q := (RX9, TX9, 6)) (cls := 9) (st0 := []) (kc' := 0) (ks' := 0) dX10_done_50 lk_X10_232 rfl (v_LW wy6).1 (v_LW wy6).2.1 rfl rfl (cX9_spendLike_ok M23 y6 x2 wy6 hI25) rfl rfl (by decide) (by decide) (Nat.le_of_ble_eq_true rfl) (Or.inl rfl) rfl rfl (by decide) (by decide) (fun  M26 e27 hI28 => ?_)
      refine V_iconst (v := 1) dX10_done_53 rfl ?_
      exact V_ret (fun _ => hI28) (Or.inr (Or.inr (Or.inl ⟨rfl, _, rfl⟩))) dX10_done_54 (fun ty x h1 h2 => by cases h1; cases h2; rfl) rfl
    · refine V_sub [1] rfl ?_
      exact vX10_done_29 hT M19 hI21
def fX10_drawn_120 (k45 : vM → Int32 → Int32 → Int32 → Int32 → Int32 → Int32 → Int32 → Int32 → Int32 → Option (vR × vM)) (M : vM) (x1 : Int32) (x2 : Int32) (x4 : Int32) (x5 : Int32) (x7 : Int32) (x8 : Int32) (x9 : Int32) (x10 : Int32) (x11 : Int32) (s0 : Int32) (s1 : Int32) : Option (vR × vM) := if x11 = ((-1)) then k45 M x1 x2 x4 (x5 + 0) (s0 + s1) x7 x8 x9 (x10 + 1) else k45 M x1 x2 x4 (x5 + x11) (s0 + s1) x7 x8 x9 (x10 + 1)
set_option maxRecDepth 20000 in
set_option maxHeartbeats 2000000 in
theorem vX10_drawn_120 {l : Launch} {D : va_G} {dA : Nat → ClassId} (hT : l.stackTraces = false) {b : Nat} {k45 : vM → Int32 → Int32 → Int32 → Int32 → Int32 → Int32 → Int32 → Int32 → Int32 → Option (vR × vM)} (hk45 : ∀ (M : vM) (x1 : Int32) (x2 : Int32) (x4 : Int32) (x5 : Int32) (x6 : Int32) (x7 : Int32) (x8 : Int32) (x9 : Int32) (x10 : Int32), v_WT M.2.2 → V l D dA sX10_drawn false 175 8 (b) (6 * (b)) 45 [(0, .ref 0), (1, .int x1), (2, .int x2), (4, .int x4), (5, .int x5), (6, .int x6), (7, .int x7), (8, .int x8), (9, .int x9), (10, .int x10)] [] 175 M (k45 M x1 x2 x4 x5 x6 x7 x8 x9 x10)) : ∀ (M : vM) (x1 : Int32) (x2 : Int32) (x4 : Int32) (x5 : Int32) (x7 : Int32) (x8 : Int32) (x9 : Int32) (x10 : Int32) (x11 : Int32) (s0 : Int32) (s1 : Int32), v_WT M.2.2 → V l D dA sX10_drawn false 175 8 (b) (6 * (b)) 120 [(0, .ref 0), (1, .int x1), (2, .int x2), (4, .int x4), (5, .int x5), (7, .int x7), (8, .int x8), (9, .int x9), (10, .int x10), (11, .int x11)] [.int s1, .int s0] 175 M (fX10_drawn_120 k45 M x1 x2 x4 x5 x7 x8 x9 x10 x11 s0 s1) := by
  intro M x1 x2 x4 x5 x7 x8 x9 x10 x11 s0 s1 hI
  refine V_iadd dX10_drawn_120 ?_
  refine V_istore (lv' := [(6, .int (s0 + s1)), (0, .ref 0), (1, .int x1), (2, .int x2), (4, .int x4), (5, .int x5), (7, .int x7), (8, .int x8), (9, .int x9), (10, .int x10), (11, .int x11)]) dX10_drawn_121 (by decide) rfl ?_
  refine V_iload (k := 5) dX10_drawn_123 rfl ?_
  refine V_iload (k := 10) dX10_drawn_125 rfl ?_
  refine V_iconst (v := (-1)) dX10_drawn_127 rfl ?_
  refine V_icmpne (tgt := 135) dX10_drawn_128 (by decide) (fun h9 => ?_) (fun h9 => ?_)
  · refine V_iload (k := 10) dX10_drawn_135 rfl ?_
    refine V_iadd dX10_drawn_137 ?_
    refine V_istore (lv' := [(5, .int (x5 + x11)), (6, .int (s0 + s1)), (0, .ref 0), (1, .int x1), (2, .int x2), (4, .int x4), (7, .int x7), (8, .int x8), (9, .int x9), (10, .int x10), (11, .int x11)]) dX10_drawn_138 (by decide) rfl ?_
    refine V_iinc (k := 9) (v := x10 + 1) (lv' := [(10, .int (x10 + 1)), (5, .int (x5 + x11)), (6, .int (s0 + s1)), (0, .ref 0), (1, .int x1), (2, .int x2), (4, .int x4), (7, .int x7), (8, .int x8), (9, .int x9), (11, .int x11)]) dX10_drawn_140 rfl rfl (by decide) rfl ?_
    refine V_goto (tgt := 45) dX10_drawn_143 (by decide) ?_
    refine V_sub [3, 4, 5, 6, 1, 2, 7, 8, 9, 0] rfl ?_
    exact hk45 M x1 x2 x4 (x5 + x11) (s0 + s1) x7 x8 x9 (x10 + 1) hI
  · refine V_iconst (v := 0) dX10_drawn_131 rfl ?_
    refine V_goto (tgt := 137) dX10_drawn_132 (by decide) ?_
    refine V_iadd dX10_drawn_137 ?_
    refine V_istore (lv' := [(5, .int (x5 + 0)), (6, .int (s0 + s1)), (0, .ref 0), (1, .int x1), (2, .int x2), (4, .int x4), (7, .int x7), (8, .int x8), (9, .int x9), (10, .int x10), (11, .int x11)]) dX10_drawn_138 (by decide) rfl ?_
    refine V_iinc (k := 9) (v := x10 + 1) (lv' := [(10, .int (x10 + 1)), (5, .int (x5 + 0)), (6, .int (s0 + s1)), (0, .ref 0), (1, .int x1), (2, .int x2), (4, .int x4), (7, .int x7), (8, .int x8), (9, .int x9), (11, .int x11)]) dX10_drawn_140 rfl rfl (by decide) rfl ?_
    refine V_goto (tgt := 45) dX10_drawn_143 (by decide) ?_
    refine V_sub [3, 4, 5, 6, 1, 2, 7, 8, 9, 0] rfl ?_
    exact hk45 M x1 x2 x4 (x5 + 0) (s0 + s1) x7 x8 x9 (x10 + 1) hI
def fX10_drawn_104 (k45 : vM → Int32 → Int32 → Int32 → Int32 → Int32 → Int32 → Int32 → Int32 → Int32 → Option (vR × vM)) (M : vM) (x1 : Int32) (x2 : Int32) (x4 : Int32) (x5 : Int32) (x6 : Int32) (x8 : Int32) (x9 : Int32) (x10 : Int32) (x11 : Int32) (s0 : Int32) (s1 : Int32) : Option (vR × vM) := if x11 = ((-1)) then fX10_drawn_120 (k45) M x1 x2 x4 x5 (s0 + s1) x8 x9 x10 x11 x6 0 else fX10_drawn_120 (k45) M x1 x2 x4 x5 (s0 + s1) x8 x9 x10 x11 x6 1
set_option maxRecDepth 20000 in
set_option maxHeartbeats 2000000 in
theorem vX10_drawn_104 {l : Launch} {D : va_G} {dA : Nat → ClassId} (hT : l.stackTraces = false) {b : Nat} {k45 : vM → Int32 → Int32 → Int32 → Int32 → Int32 → Int32 → Int32 → Int32 → Int32 → Option (vR × vM)} (hk45 : ∀ (M : vM) (x1 : Int32) (x2 : Int32) (x4 : Int32) (x5 : Int32) (x6 : Int32) (x7 : Int32) (x8 : Int32) (x9 : Int32) (x10 : Int32), v_WT M.2.2 → V l D dA sX10_drawn false 175 8 (b) (6 * (b)) 45 [(0, .ref 0), (1, .int x1), (2, .int x2), (4, .int x4), (5, .int x5), (6, .int x6), (7, .int x7), (8, .int x8), (9, .int x9), (10, .int x10)] [] 175 M (k45 M x1 x2 x4 x5 x6 x7 x8 x9 x10)) : ∀ (M : vM) (x1 : Int32) (x2 : Int32) (x4 : Int32) (x5 : Int32) (x6 : Int32) (x8 : Int32) (x9 : Int32) (x10 : Int32) (x11 : Int32) (s0 : Int32) (s1 : Int32), v_WT M.2.2 → V l D dA sX10_drawn false 175 8 (b) (6 * (b)) 104 [(0, .ref 0), (1, .int x1), (2, .int x2), (4, .int x4), (5, .int x5), (6, .int x6), (8, .int x8), (9, .int x9), (10, .int x10), (11, .int x11)] [.int s1, .int s0] 175 M (fX10_drawn_104 k45 M x1 x2 x4 x5 x6 x8 x9 x10 x11 s0 s1) := by
  intro M x1 x2 x4 x5 x6 x8 x9 x10 x11 s0 s1 hI
  refine V_iadd dX10_drawn_104 ?_
  refine V_istore (lv' := [(7, .int (s0 + s1)), (0, .ref 0), (1, .int x1), (2, .int x2), (4, .int x4), (5, .int x5), (6, .int x6), (8, .int x8), (9, .int x9), (10, .int x10), (11, .int x11)]) dX10_drawn_105 (by decide) rfl ?_
  refine V_iload (k := 6) dX10_drawn_107 rfl ?_
  refine V_iload (k := 10) dX10_drawn_109 rfl ?_
  refine V_iconst (v := (-1)) dX10_drawn_111 rfl ?_
  refine V_icmpne (tgt := 119) dX10_drawn_112 (by decide) (fun h10 => ?_) (fun h10 => ?_)
  · refine V_iconst (v := 1) dX10_drawn_119 rfl ?_
    refine V_sub [1, 2, 3, 4, 5, 0, 7, 8, 9, 10] rfl ?_
    exact vX10_drawn_120 hT (hk45) M x1 x2 x4 x5 (s0 + s1) x8 x9 x10 x11 x6 1 hI
  · refine V_iconst (v := 0) dX10_drawn_115 rfl ?_
    refine V_goto (tgt := 120) dX10_drawn_116 (by decide) ?_
    refine V_sub [1, 2, 3, 4, 5, 0, 7, 8, 9, 10] rfl ?_
    exact vX10_drawn_120 hT (hk45) M x1 x2 x4 x5 (s0 + s1) x8 x9 x10 x11 x6 0 hI
def fX10_drawn_45 (k36 : vM → Int32 → Int32 → Int32 → Int32 → Int32 → Int32 → Int32 → Int32 → Option (vR × vM)) : Nat → vM → Int32 → Int32 → Int32 → Int32 → Int32 → Int32 → Int32 → Int32 → Int32 → Option (vR × vM)
  | 0, _, _, _, _, _, _, _, _, _, _ => none
  | n9 + 1, M, x1, x2, x4, x5, x6, x7, x8, x9, x10 => if (M.1 0 12) ≤ x10 then k36 M x1 x2 x4 x5 x6 x7 x8 (x9 + 1) else if x2 ≤ ((((Int32.toUInt32 ((x8 * 1103515245) + 12345) >>> (Int32.toUInt32 16 &&& Int32.toUInt32 31)).toInt32) &&& 32767) - (((Int32.toUInt32 ((x8 * 1103515245) + 12345) >>> (Int32.toUInt32 16 &&& Int32.toUInt32 31)).toInt32) &&& 32767) / 1000 * 1000) then fX10_drawn_45 k36 n9 M x1 x2 x4 x5 x6 x7 ((x8 * 1103515245) + 12345) x9 (x10 + 1) else bi (fX10_doCheapest M x10) fun y13 M14 => if y13 = ((-1)) then fX10_drawn_104 (fX10_drawn_45 k36 n9) M14 x1 x2 x4 x5 x6 ((x8 * 1103515245) + 12345) x9 x10 y13 x7 1 else fX10_drawn_104 (fX10_drawn_45 k36 n9) M14 x1 x2 x4 x5 x6 ((x8 * 1103515245) + 12345) x9 x10 y13 x7 0
set_option maxRecDepth 20000 in
set_option maxHeartbeats 2000000 in
theorem vX10_drawn_45 {l : Launch} {D : va_G} {dA : Nat → ClassId} (hT : l.stackTraces = false) {b : Nat} {k36 : vM → Int32 → Int32 → Int32 → Int32 → Int32 → Int32 → Int32 → Int32 → Option (vR × vM)} (hk36 : ∀ (M : vM) (x1 : Int32) (x2 : Int32) (x4 : Int32) (x5 : Int32) (x6 : Int32) (x7 : Int32) (x8 : Int32) (x9 : Int32), v_WT M.2.2 → V l D dA sX10_drawn false 175 8 (b) (6 * (b)) 36 [(0, .ref 0), (1, .int x1), (2, .int x2), (4, .int x4), (5, .int x5), (6, .int x6), (7, .int x7), (8, .int x8), (9, .int x9)] [] 175 M (k36 M x1 x2 x4 x5 x6 x7 x8 x9)) : ∀ (n9 : Nat) (M : vM) (x1 : Int32) (x2 : Int32) (x4 : Int32) (x5 : Int32) (x6 : Int32) (x7 : Int32) (x8 : Int32) (x9 : Int32) (x10 : Int32), v_WT M.2.2 → V l D dA sX10_drawn false 175 8 (n9 + b) (6 * (n9 + b)) 45 [(0, .ref 0), (1, .int x1), (2, .int x2), (4, .int x4), (5, .int x5), (6, .int x6), (7, .int x7), (8, .int x8), (9, .int x9), (10, .int x10)] [] 175 M (fX10_drawn_45 k36 n9 M x1 x2 x4 x5 x6 x7 x8 x9 x10) := by
  intro n9
  induction n9 with
  | zero => intros; exact V_none
  | succ n9 ih =>
    intro M x1 x2 x4 x5 x6 x7 x8 x9 x10 hI
    refine V_iload (k := 9) dX10_drawn_45 rfl ?_
    refine V_aload_n (k := 0) dX10_drawn_47 rfl rfl ?_
    refine V_geti dX10_drawn_48 rfl (by decide) vf_X10_129 (by decide) ?_
    refine V_icmpge (tgt := 146) dX10_drawn_51 (by decide) (fun h11 => ?_) (fun h11 => ?_)
    · refine V_iinc (k := 8) (v := x9 + 1) (lv' := [(9, .int (x9 + 1)), (0, .ref 0), (1, .int x1), (2, .int x2), (4, .int x4), (5, .int x5), (6, .int x6), (7, .int x7), (8, .int x8), (10, .int x10)]) dX10_drawn_146 rfl rfl (by decide) rfl ?_
      refine V_goto (tgt := 36) dX10_drawn_149 (by decide) ?_
      refine V_sub [1, 2, 3, 4, 5, 6, 7, 8, 0] rfl ?_
      refine V_kc (kc1 := (b)) (ks1 := (6 * (b))) (by omega) (by omega) ?_
      exact hk36 M x1 x2 x4 x5 x6 x7 x8 (x9 + 1) hI
    · refine V_iload (k := 7) dX10_drawn_54 rfl ?_
      refine V_ldcw dX10_drawn_56 gw1230 ?_
      refine V_imul dX10_drawn_59 ?_
      refine V_sipush (v := 12345) dX10_drawn_60 rfl ?_
      refine V_iadd dX10_drawn_63 ?_
      refine V_istore (lv' := [(8, .int ((x8 * 1103515245) + 12345)), (0, .ref 0), (1, .int x1), (2, .int x2), (4, .int x4), (5, .int x5), (6, .int x6), (7, .int x7), (9, .int x9), (10, .int x10)]) dX10_drawn_64 (by decide) rfl ?_
      refine V_iload (k := 0) dX10_drawn_66 rfl ?_
      refine V_bipush (v := 16) dX10_drawn_68 rfl ?_
      refine V_iushr dX10_drawn_70 ?_
      refine V_sipush (v := 32767) dX10_drawn_71 rfl ?_
      refine V_iand dX10_drawn_74 ?_
      refine V_sipush (v := 1000) dX10_drawn_75 rfl ?_
      refine V_irem dX10_drawn_78 (by decide) ?_
      refine V_iload_n (k := 3) dX10_drawn_79 rfl rfl ?_
      refine V_icmpge (tgt := 140) dX10_drawn_80 (by decide) (fun h12 => ?_) (fun h12 => ?_)
      · refine V_iinc (k := 9) (v := x10 + 1) (lv' := [(10, .int (x10 + 1)), (8, .int ((x8 * 1103515245) + 12345)), (0, .ref 0), (1, .int x1), (2, .int x2), (4, .int x4), (5, .int x5), (6, .int x6), (7, .int x7), (9, .int x9)]) dX10_drawn_140 rfl rfl (by decide) rfl ?_
        refine V_goto (tgt := 45) dX10_drawn_143 (by decide) ?_
        refine V_sub [2, 3, 4, 5, 6, 7, 8, 1, 9, 0] rfl ?_
        refine V_kc (kc1 := (n9 + b)) (ks1 := (6 * (n9 + b))) (by omega) (by omega) ?_
        exact ih M x1 x2 x4 x5 x6 x7 ((x8 * 1103515245) + 12345) x9 (x10 + 1) hI
      · refine V_aload_n (k := 1) dX10_drawn_83 rfl rfl ?_
        refine V_iload (k := 9) dX10_drawn_84 rfl ?_
        refine V_callVi (q := (RX10, TX10, 15)) (cls := 10) (st0 := []) (kc' := (n9 + b)) (ks' := (6 * (n9 + b))) dX10_drawn_86 lk_X10_349 rfl (by decide) rfl rfl rfl (cX10_doCheapest_ok hT M x10 hI) rfl rfl (by decide) (by decide) (Nat.le_of_ble_eq_true rfl) (Or.inl rfl) rfl rfl (by omega) (by omega) (fun y13 M14 e15 hI16 => ?_)
        refine V_istore (lv' := [(11, .int y13), (8, .int ((x8 * 1103515245) + 12345)), (0, .ref 0), (1, .int x1), (2, .int x2), (4, .int x4), (5, .int x5), (6, .int x6), (7, .int x7), (9, .int x9), (10, .int x10)]) dX10_drawn_89 (by decide) rfl ?_
        refine V_iload (k := 8) dX10_drawn_91 rfl ?_
        refine V_iload (k := 0) dX10_drawn_93 rfl ?_
        refine V_iconst (v := (-1)) dX10_drawn_95 rfl ?_
        refine V_icmpne (tgt := 103) dX10_drawn_96 (by decide) (fun h17 => ?_) (fun h17 => ?_)
        · refine V_iconst (v := 0) dX10_drawn_103 rfl ?_
          refine V_sub [2, 3, 4, 5, 6, 7, 1, 9, 10, 0] rfl ?_
          exact vX10_drawn_104 hT (ih) M14 x1 x2 x4 x5 x6 ((x8 * 1103515245) + 12345) x9 x10 y13 x7 0 hI16
        · refine V_iconst (v := 1) dX10_drawn_99 rfl ?_
          refine V_goto (tgt := 104) dX10_drawn_100 (by decide) ?_
          refine V_sub [2, 3, 4, 5, 6, 7, 1, 9, 10, 0] rfl ?_
          exact vX10_drawn_104 hT (ih) M14 x1 x2 x4 x5 x6 ((x8 * 1103515245) + 12345) x9 x10 y13 x7 1 hI16
def fX10_drawn_36 : Nat → vM → Int32 → Int32 → Int32 → Int32 → Int32 → Int32 → Int32 → Int32 → Option (vR × vM)
  | 0, _, _, _, _, _, _, _, _, _ => none
  | n9 + 1, M, x1, x2, x4, x5, x6, x7, x8, x9 => if x1 ≤ x9 then if x4 = 0 then rI x5 M else if x4 = 1 then rI x6 M else rI x7 M else fX10_drawn_45 (fX10_drawn_36 n9) 8 M x1 x2 x4 x5 x6 x7 x8 x9 0
set_option maxRecDepth 20000 in
set_option maxHeartbeats 2000000 in
theorem vX10_drawn_36 {l : Launch} {D : va_G} {dA : Nat → ClassId} (hT : l.stackTraces = false) : ∀ (n9 : Nat) (M : vM) (x1 : Int32) (x2 : Int32) (x4 : Int32) (x5 : Int32) (x6 : Int32) (x7 : Int32) (x8 : Int32) (x9 : Int32), v_WT M.2.2 → V l D dA sX10_drawn false 175 8 (10 * n9 + 1) (6 * (10 * n9 + 1)) 36 [(0, .ref 0), (1, .int x1), (2, .int x2), (4, .int x4), (5, .int x5), (6, .int x6), (7, .int x7), (8, .int x8), (9, .int x9)] [] 175 M (fX10_drawn_36 n9 M x1 x2 x4 x5 x6 x7 x8 x9) := by
  intro n9
  induction n9 with
  | zero => intros; exact V_none
  | succ n9 ih =>
    intro M x1 x2 x4 x5 x6 x7 x8 x9 hI
    refine V_iload (k := 8) dX10_drawn_36 rfl ?_
    refine V_iload_n (k := 1) dX10_drawn_38 rfl rfl ?_
    refine V_icmpge (tgt := 152) dX10_drawn_39 (by decide) (fun h18 => ?_) (fun h18 => ?_)
    · refine V_iload (k := 3) dX10_drawn_152 rfl ?_
      refine V_lcase (k := 0) (tgt := 180) dX10_drawn_154 (by decide) rfl (by decide) (fun h19 => ?_) (fun h19 => ?_)
      · refine V_iload (k := 4) dX10_drawn_180 rfl ?_
        exact V_ret (fun _ => hI) (Or.inr (Or.inl ⟨rfl, _, rfl⟩)) dX10_drawn_182 (fun ty x h1 h2 => by cases h1; rfl) rfl
      refine V_lcase (k := 1) (tgt := 183) dX10_drawn_154 (by decide) rfl (by decide) (fun h20 => ?_) (fun h20 => ?_)
      · refine V_iload (k := 5) dX10_drawn_183 rfl ?_
        exact V_ret (fun _ => hI) (Or.inr (Or.inl ⟨rfl, _, rfl⟩)) dX10_drawn_185 (fun ty x h1 h2 => by cases h1; rfl) rfl
      refine V_ldef (off := 32) (tgt := 186) dX10_drawn_154 (by decide) (by show Op.lookupswitch.offset [(0, 26), (1, 29)] 32 (x4).toInt = 32; rw [lv_osw (a := 0) h19 rfl]; rw [lv_osw (a := 1) h20 rfl]; rfl) (by decide) ?_
      refine V_iload (k := 6) dX10_drawn_186 rfl ?_
      exact V_ret (fun _ => hI) (Or.inr (Or.inl ⟨rfl, _, rfl⟩)) dX10_drawn_188 (fun ty x h1 h2 => by cases h1; rfl) rfl
    · refine V_iconst (v := 0) dX10_drawn_42 rfl ?_
      refine V_istore (lv' := [(10, .int 0), (0, .ref 0), (1, .int x1), (2, .int x2), (4, .int x4), (5, .int x5), (6, .int x6), (7, .int x7), (8, .int x8), (9, .int x9)]) dX10_drawn_43 (by decide) rfl ?_
      refine V_sub [1, 2, 3, 4, 5, 6, 7, 8, 9, 0] rfl ?_
      refine V_kc (kc1 := (8 + (10 * n9 + 1))) (ks1 := (6 * (8 + (10 * n9 + 1)))) (by omega) (by omega) ?_
      exact vX10_drawn_45 hT (ih) 8 M x1 x2 x4 x5 x6 x7 x8 x9 0 hI
def fX10_drawn (M : vM) (x1 : Int32) (x2 : Int32) (x3 : Int32) (x4 : Int32) : Option (vR × vM) := bv (fX10_refuseUnlessWhat M x4 3) fun M21 => bv (fX10_refuseUnlessWithin M21 x1 1 100) fun M24 => bv (fX10_refuseUnlessWithin M24 x2 0 1000) fun M27 => fX10_drawn_36 102 M27 x1 x2 x4 0 0 0 x3 0
set_option maxRecDepth 20000 in
set_option maxHeartbeats 2000000 in
theorem cX10_drawn_ok {l : Launch} {D : va_G} {dA : Nat → ClassId} (hT : l.stackTraces = false) (M : vM) (x1 : Int32) (x2 : Int32) (x3 : Int32) (x4 : Int32) (hI : v_WT M.2.2) : Ct l D dA sX10_drawn false 175 8 1030 6180 175 [.ref 0, .int x1, .int x2, .int x3, .int x4] M (fX10_drawn M x1 x2 x3 x4) := by
  refine Ct_of (lv := [(0, .ref 0), (1, .int x1), (2, .int x2), (3, .int x3), (4, .int x4)]) (by decide +kernel) rfl (Nat.le_of_ble_eq_true rfl) rfl (fun h => by cases h) ?_
  refine V_iload (k := 4) dX10_drawn_0 rfl ?_
  refine V_iconst (v := 3) dX10_drawn_2 rfl ?_
  refine V_callSv (st0 := []) (kc' := 1029) (ks' := 6174) dX10_drawn_3 lk_X10_212 rfl (cX10_refuseUnlessWhat_ok hT M x4 3 hI) rfl rfl (by decide) (by decide) (Nat.le_of_ble_eq_true rfl) (Or.inl rfl) rfl rfl (by decide) (by decide) (fun  M21 e22 hI23 => ?_)
  refine V_iload_n (k := 1) dX10_drawn_6 rfl rfl ?_
  refine V_iconst (v := 1) dX10_drawn_7 rfl ?_
  refine V_bipush (v := 100) dX10_drawn_8 rfl ?_
  refine V_callSv (st0 := []) (kc' := 1028) (ks' := 6168) dX10_drawn_10 lk_X10_254 rfl (cX10_refuseUnlessWithin_ok hT M21 x1 1 100 hI23) rfl rfl (by decide) (by decide) (Nat.le_of_ble_eq_true rfl) (Or.inl rfl) rfl rfl (by decide) (by decide) (fun  M24 e25 hI26 => ?_)
  refine V_iload_n (k := 2) dX10_drawn_13 rfl rfl ?_
  refine V_iconst (v := 0) dX10_drawn_14 rfl ?_
  refine V_sipush (v := 1000) dX10_drawn_15 rfl ?_
  refine V_callSv (st0 := []) (kc' := 1027) (ks' := 6162) dX10_drawn_18 lk_X10_254 rfl (cX10_refuseUnlessWithin_ok hT M24 x2 0 1000 hI26) rfl rfl (by decide) (by decide) (Nat.le_of_ble_eq_true rfl) (Or.inl rfl) rfl rfl (by decide) (by decide) (fun  M27 e28 hI29 => ?_)
  refine V_iconst (v := 0) dX10_drawn_21 rfl ?_
  refine V_istore (lv' := [(5, .int 0), (0, .ref 0), (1, .int x1), (2, .int x2), (3, .int x3), (4, .int x4)]) dX10_drawn_22 (by decide) rfl ?_
  refine V_iconst (v := 0) dX10_drawn_24 rfl ?_
  refine V_istore (lv' := [(6, .int 0), (5, .int 0), (0, .ref 0), (1, .int x1), (2, .int x2), (3, .int x3), (4, .int x4)]) dX10_drawn_25 (by decide) rfl ?_
  refine V_iconst (v := 0) dX10_drawn_27 rfl ?_
  refine V_istore (lv' := [(7, .int 0), (6, .int 0), (5, .int 0), (0, .ref 0), (1, .int x1), (2, .int x2), (3, .int x3), (4, .int x4)]) dX10_drawn_28 (by decide) rfl ?_
  refine V_iload_n (k := 6) dX10_drawn_30 rfl rfl ?_
  refine V_istore (lv' := [(8, .int x3), (7, .int 0), (6, .int 0), (5, .int 0), (0, .ref 0), (1, .int x1), (2, .int x2), (3, .int x3), (4, .int x4)]) dX10_drawn_31 (by decide) rfl ?_
  refine V_iconst (v := 0) dX10_drawn_33 rfl ?_
  refine V_istore (lv' := [(9, .int 0), (8, .int x3), (7, .int 0), (6, .int 0), (5, .int 0), (0, .ref 0), (1, .int x1), (2, .int x2), (3, .int x3), (4, .int x4)]) dX10_drawn_34 (by decide) rfl ?_
  refine V_sub [5, 6, 7, 9, 4, 3, 2, 1, 0] rfl ?_
  refine V_kc (kc1 := (10 * 102 + 1)) (ks1 := (6 * (10 * 102 + 1))) (by omega) (by omega) ?_
  exact vX10_drawn_36 hT 102 M27 x1 x2 x4 0 0 0 x3 0 hI29
def fX10_fault (M : vM) : Option (vR × vM) := rI (M.1 0 13) M
set_option maxRecDepth 20000 in
set_option maxHeartbeats 2000000 in
theorem cX10_fault_ok {l : Launch} {D : va_G} {dA : Nat → ClassId} (M : vM) (hI : v_WT M.2.2) : Ct l D dA sX10_fault false 175 1 0 0 175 [.ref 0] M (fX10_fault M) := by
  refine Ct_of (lv := [(0, .ref 0)]) (by decide +kernel) rfl (Nat.le_of_ble_eq_true rfl) rfl (fun h => by cases h) ?_
  refine V_aload_n (k := 0) dX10_fault_0 rfl rfl ?_
  refine V_geti dX10_fault_1 rfl (by decide) vf_X10_90 (by decide) ?_
  exact V_ret (fun _ => hI) (Or.inr (Or.inl ⟨rfl, _, rfl⟩)) dX10_fault_4 (fun ty x h1 h2 => by cases h1; rfl) rfl
def fX8_take_3 : Nat → vM → Int32 → Int32 → Option (vR × vM)
  | 0, _, _, _ => none
  | n9 + 1, M, x1, x2 => if x2 < 0 then rV M else if (nI 700) ≤ (M.1 1 1) then fX8_take_3 n9 M x1 (x2 + (-8)) else if v_in (M.1 1 1) 700 = true then fX8_take_3 n9 (v_si (v_si M 2 (Int32.toNatClampNeg (M.1 1 1)) (v_nb ((Int32.toInt8 (x1 >>> (x2 &&& (31 : Int32)))).toInt32))) 1 1 (((v_si M 2 (Int32.toNatClampNeg (M.1 1 1)) (v_nb ((Int32.toInt8 (x1 >>> (x2 &&& (31 : Int32)))).toInt32))).1 1 1) + 1)) x1 (x2 + (-8)) else none
set_option maxRecDepth 20000 in
set_option maxHeartbeats 2000000 in
theorem vX8_take_3 {l : Launch} {D : va_G} {dA : Nat → ClassId} : ∀ (n9 : Nat) (M : vM) (x1 : Int32) (x2 : Int32), v_WT M.2.2 → V l D dA sX8_take false 175 1 0 0 3 [(0, .ref 1), (1, .int x1), (2, .int x2)] [] 175 M (fX8_take_3 n9 M x1 x2) := by
  intro n9
  induction n9 with
  | zero => intros; exact V_none
  | succ n9 ih =>
    intro M x1 x2 hI
    refine V_iload_n (k := 2) dX8_take_3 rfl rfl ?_
    refine V_iflt (tgt := 48) dX8_take_4 (by decide) (fun h4 => ?_) (fun h4 => ?_)
    · exact V_ret (fun _ => hI) (Or.inl ⟨rfl, rfl⟩) dX8_take_48 (fun ty x h1 h2 => by cases h1) rfl
    · refine V_aload_n (k := 0) dX8_take_7 rfl rfl ?_
      refine V_geti dX8_take_8 rfl (by decide) vf_X8_15 (by decide) ?_
      refine V_aload_n (k := 0) dX8_take_11 rfl rfl ?_
      refine V_getr (k := 2) dX8_take_12 rfl (by decide) vf_X8_9 (by decide) (v_fin hI 12 rfl) ?_
      refine V_alen dX8_take_15 rfl (by decide) (by decide) ?_
      refine V_icmpge (tgt := 42) dX8_take_16 (by decide) (fun h5 => ?_) (fun h5 => ?_)
      · refine V_iinc (k := 2) (v := x2 + (-8)) (lv' := [(2, .int (x2 + (-8))), (0, .ref 1), (1, .int x1)]) dX8_take_42 rfl rfl (by decide) rfl ?_
        refine V_goto (tgt := 3) dX8_take_45 (by decide) ?_
        refine V_sub [1, 2, 0] rfl ?_
        exact ih M x1 (x2 + (-8)) hI
      · refine V_aload_n (k := 0) dX8_take_19 rfl rfl ?_
        refine V_getr (k := 2) dX8_take_20 rfl (by decide) vf_X8_9 (by decide) (v_fin hI 12 rfl) ?_
        refine V_aload_n (k := 0) dX8_take_23 rfl rfl ?_
        refine V_geti dX8_take_24 rfl (by decide) vf_X8_15 (by decide) ?_
        refine V_iload_n (k := 1) dX8_take_27 rfl rfl ?_
        refine V_iload_n (k := 2) dX8_take_28 rfl rfl ?_
        refine V_ishr dX8_take_29 ?_
        refine V_i2b dX8_take_30 ?_
        refine V_bast dX8_take_31 rfl (by decide) (fun h6 => ?_)
        refine V_aload_n (k := 0) dX8_take_32 rfl rfl ?_
        refine V_dup dX8_take_33 rfl ?_
        refine V_geti dX8_take_34 rfl (by decide) vf_X8_15 (by decide) ?_
        refine V_iconst (v := 1) dX8_take_37 rfl ?_
        refine V_iadd dX8_take_38 ?_
        refine V_puti dX8_take_39 rfl (by decide) vf_X8_15 (by decide) rfl rfl ?_
        refine V_iinc (k := 2) (v := x2 + (-8)) (lv' := [(2, .int (x2 + (-8))), (0, .ref 1), (1, .int x1)]) dX8_take_42 rfl rfl (by decide) rfl ?_
        refine V_goto (tgt := 3) dX8_take_45 (by decide) ?_
        refine V_sub [1, 2, 0] rfl ?_
        exact ih (v_si (v_si M 2 (Int32.toNatClampNeg (M.1 1 1)) (v_nb ((Int32.toInt8 (x1 >>> (x2 &&& (31 : Int32)))).toInt32))) 1 1 (((v_si M 2 (Int32.toNatClampNeg (M.1 1 1)) (v_nb ((Int32.toInt8 (x1 >>> (x2 &&& (31 : Int32)))).toInt32))).1 1 1) + 1)) x1 (x2 + (-8)) hI
def fX8_take (M : vM) (x1 : Int32) : Option (vR × vM) := fX8_take_3 FU M x1 24
set_option maxRecDepth 20000 in
set_option maxHeartbeats 2000000 in
theorem cX8_take_ok {l : Launch} {D : va_G} {dA : Nat → ClassId} (M : vM) (x1 : Int32) (hI : v_WT M.2.2) : Ct l D dA sX8_take false 175 1 0 0 175 [.ref 1, .int x1] M (fX8_take M x1) := by
  refine Ct_of (lv := [(0, .ref 1), (1, .int x1)]) (by decide +kernel) rfl (Nat.le_of_ble_eq_true rfl) rfl (fun h => by cases h) ?_
  refine V_bipush (v := 24) dX8_take_0 rfl ?_
  refine V_istore_n (lv' := [(2, .int 24), (0, .ref 1), (1, .int x1)]) dX8_take_2 rfl (by decide) rfl ?_
  refine V_sub [1, 2, 0] rfl ?_
  exact vX8_take_3 FU M x1 24 hI
def fX10_feed (M : vM) (x1 : Int32) (x2 : Int32) (x3 : Int32) (x4 : Int32) (x5 : Int32) : Option (vR × vM) := if ((M.1 1 1) + 20) ≤ 700 then bv (fX8_take M x1) fun M3 => bv (fX8_take M3 x2) fun M6 => bv (fX8_take M6 x3) fun M9 => bv (fX8_take M9 x4) fun M12 => bv (fX8_take M12 x5) fun M15 => rI (M15.1 1 1) M15 else rI ((-1)) M
set_option maxRecDepth 20000 in
set_option maxHeartbeats 2000000 in
theorem cX10_feed_ok {l : Launch} {D : va_G} {dA : Nat → ClassId} (M : vM) (x1 : Int32) (x2 : Int32) (x3 : Int32) (x4 : Int32) (x5 : Int32) (hI : v_WT M.2.2) : Ct l D dA sX10_feed false 175 2 0 0 175 [.ref 0, .int x1, .int x2, .int x3, .int x4, .int x5] M (fX10_feed M x1 x2 x3 x4 x5) := by
  refine Ct_of (lv := [(0, .ref 0), (1, .int x1), (2, .int x2), (3, .int x3), (4, .int x4), (5, .int x5)]) (by decide +kernel) rfl (Nat.le_of_ble_eq_true rfl) rfl (fun h => by cases h) ?_
  refine V_aload_n (k := 0) dX10_feed_0 rfl rfl ?_
  refine V_getr (k := 1) dX10_feed_1 rfl (by decide) vf_X10_12 (by decide) (v_fin hI 0 rfl) ?_
  refine V_geti dX10_feed_4 rfl (by decide) vf_X10_94 (by decide) ?_
  refine V_bipush (v := 20) dX10_feed_7 rfl ?_
  refine V_iadd dX10_feed_9 ?_
  refine V_sipush (v := 700) dX10_feed_10 rfl ?_
  refine V_icmple (tgt := 18) dX10_feed_13 (by decide) (fun h2 => ?_) (fun h2 => ?_)
  · refine V_aload_n (k := 0) dX10_feed_18 rfl rfl ?_
    refine V_getr (k := 1) dX10_feed_19 rfl (by decide) vf_X10_12 (by decide) (v_fin hI 0 rfl) ?_
    refine V_iload_n (k := 1) dX10_feed_22 rfl rfl ?_
    refine V_callVv (q := (RX8, TX8, 2)) (cls := 8) (st0 := []) (kc' := 0) (ks' := 0) dX10_feed_23 lk_X10_97 rfl (by decide) rfl rfl rfl (cX8_take_ok M x1 hI) rfl rfl (by decide) (by decide) (Nat.le_of_ble_eq_true rfl) (Or.inl rfl) rfl rfl (by decide) (by decide) (fun  M3 e4 hI5 => ?_)
    refine V_aload_n (k := 0) dX10_feed_26 rfl rfl ?_
    refine V_getr (k := 1) dX10_feed_27 rfl (by decide) vf_X10_12 (by decide) (v_fin hI5 0 rfl) ?_
    refine V_iload_n (k := 2) dX10_feed_30 rfl rfl ?_
    refine V_callVv (q := (RX8, TX8, 2)) (cls := 8) (st0 := []) (kc' := 0) (ks' := 0) dX10_feed_31 lk_X10_97 rfl (by decide) rfl rfl rfl (cX8_take_ok M3 x2 hI5) rfl rfl (by decide) (by decide) (Nat.le_of_ble_eq_true rfl) (Or.inl rfl) rfl rfl (by decide) (by decide) (fun  M6 e7 hI8 => ?_)
    refine V_aload_n (k := 0) dX10_feed_34 rfl rfl ?_
    refine V_getr (k := 1) dX10_feed_35 rfl (by decide) vf_X10_12 (by decide) (v_fin hI8 0 rfl) ?_
    refine V_iload_n (k := 3) dX10_feed_38 rfl rfl ?_
    refine V_callVv (q := (RX8, TX8, 2)) (cls := 8) (st0 := []) (kc' := 0) (ks' := 0) dX10_feed_39 lk_X10_97 rfl (by decide) rfl rfl rfl (cX8_take_ok M6 x3 hI8) rfl rfl (by decide) (by decide) (Nat.le_of_ble_eq_true rfl) (Or.inl rfl) rfl rfl (by decide) (by decide) (fun  M9 e10 hI11 => ?_)
    refine V_aload_n (k := 0) dX10_feed_42 rfl rfl ?_
    refine V_getr (k := 1) dX10_feed_43 rfl (by decide) vf_X10_12 (by decide) (v_fin hI11 0 rfl) ?_
    refine V_iload (k := 4) dX10_feed_46 rfl ?_
    refine V_callVv (q := (RX8, TX8, 2)) (cls := 8) (st0 := []) (kc' := 0) (ks' := 0) dX10_feed_48 lk_X10_97 rfl (by decide) rfl rfl rfl (cX8_take_ok M9 x4 hI11) rfl rfl (by decide) (by decide) (Nat.le_of_ble_eq_true rfl) (Or.inl rfl) rfl rfl (by decide) (by decide) (fun  M12 e13 hI14 => ?_)
    refine V_aload_n (k := 0) dX10_feed_51 rfl rfl ?_
    refine V_getr (k := 1) dX10_feed_52 rfl (by decide) vf_X10_12 (by decide) (v_fin hI14 0 rfl) ?_
    refine V_iload (k := 5) dX10_feed_55 rfl ?_
    refine V_callVv (q := (RX8, TX8, 2)) (cls := 8) (st0 := []) (kc' := 0) (ks' := 0) dX10_feed_57 lk_X10_97 rfl (by decide) rfl rfl rfl (cX8_take_ok M12 x5 hI14) rfl rfl (by decide) (by decide) (Nat.le_of_ble_eq_true rfl) (Or.inl rfl) rfl rfl (by decide) (by decide) (fun  M15 e16 hI17 => ?_)
    refine V_aload_n (k := 0) dX10_feed_60 rfl rfl ?_
    refine V_getr (k := 1) dX10_feed_61 rfl (by decide) vf_X10_12 (by decide) (v_fin hI17 0 rfl) ?_
    refine V_geti dX10_feed_64 rfl (by decide) vf_X10_94 (by decide) ?_
    exact V_ret (fun _ => hI17) (Or.inr (Or.inl ⟨rfl, _, rfl⟩)) dX10_feed_67 (fun ty x h1 h2 => by cases h1; rfl) rfl
  · refine V_iconst (v := (-1)) dX10_feed_16 rfl ?_
    exact V_ret (fun _ => hI) (Or.inr (Or.inl ⟨rfl, _, rfl⟩)) dX10_feed_17 (fun ty x h1 h2 => by cases h1; rfl) rfl
def fX9_withMark_2 : Nat → vM → Nat → Int32 → Int32 → Option (vR × vM)
  | 0, _, _, _, _ => none
  | n9 + 1, M, x0, x1, x2 => if (M.1 x0 1) ≤ x2 then rI ((-1)) M else bi (fX9_markOf M x0 x2) fun y4 M5 => if y4 = x1 then rI x2 M5 else fX9_withMark_2 n9 M5 x0 x1 (x2 + 1)
set_option maxRecDepth 20000 in
set_option maxHeartbeats 2000000 in
theorem vX9_withMark_2 {l : Launch} {D : va_G} {dA : Nat → ClassId} : ∀ (n9 : Nat) (M : vM) (x0 : Nat) (x1 : Int32) (x2 : Int32) (f0 : v_isW x0), v_WT M.2.2 → V l D dA sX9_withMark false 175 3 0 0 2 [(0, .ref x0), (1, .int x1), (2, .int x2)] [] 175 M (fX9_withMark_2 n9 M x0 x1 x2) := by
  intro n9
  induction n9 with
  | zero => intros; exact V_none
  | succ n9 ih =>
    intro M x0 x1 x2 f0 hI
    refine V_iload_n (k := 2) dX9_withMark_2 rfl rfl ?_
    refine V_aload_n (k := 0) dX9_withMark_3 rfl rfl ?_
    refine V_geti dX9_withMark_4 (v_LW f0).2.1 (v_LW f0).1 vf_X9_23 (by decide) ?_
    refine V_icmpge (tgt := 27) dX9_withMark_7 (by decide) (fun h3 => ?_) (fun h3 => ?_)
    · refine V_iconst (v := (-1)) dX9_withMark_27 rfl ?_
      exact V_ret (fun _ => hI) (Or.inr (Or.inl ⟨rfl, _, rfl⟩)) dX9_withMark_28 (fun ty x h1 h2 => by cases h1; rfl) rfl
    · refine V_aload_n (k := 0) dX9_withMark_10 rfl rfl ?_
      refine V_iload_n (k := 2) dX9_withMark_11 rfl rfl ?_
      refine V_callVi (q := (RX9, TX9, 6)) (cls := 9) (st0 := []) (kc' := 0) (ks' := 0) dX9_withMark_12 lk_X9_98 rfl (v_LW f0).1 (v_LW f0).2.1 rfl rfl (cX9_markOf_ok M x0 x2 f0 hI) rfl rfl (by decide) (by decide) (Nat.le_of_ble_eq_true rfl) (Or.inl rfl) rfl rfl (by decide) (by decide) (fun y4 M5 e6 hI7 => ?_)
      refine V_iload_n (k := 1) dX9_withMark_15 rfl rfl ?_
      refine V_icmpne (tgt := 21) dX9_withMark_16 (by decide) (fun h8 => ?_) (fun h8 => ?_)
      · refine V_iinc (k := 2) (v := x2 + 1) (lv' := [(2, .int (x2 + 1)), (0, .ref x0), (1, .int x1)]) dX9_withMark_21 rfl rfl (by decide) rfl ?_
        refine V_goto (tgt := 2) dX9_withMark_24 (by decide) ?_
        refine V_sub [1, 2, 0] rfl ?_
        exact ih M5 x0 x1 (x2 + 1) f0 hI7
      · refine V_iload_n (k := 2) dX9_withMark_19 rfl rfl ?_
        exact V_ret (fun _ => hI7) (Or.inr (Or.inl ⟨rfl, _, rfl⟩)) dX9_withMark_20 (fun ty x h1 h2 => by cases h1; rfl) rfl
def fX9_withMark (M : vM) (x0 : Nat) (x1 : Int32) : Option (vR × vM) := fX9_withMark_2 FU M x0 x1 0
set_option maxRecDepth 20000 in
set_option maxHeartbeats 2000000 in
theorem cX9_withMark_ok {l : Launch} {D : va_G} {dA : Nat → ClassId} (M : vM) (x0 : Nat) (x1 : Int32) (f0 : v_isW x0) (hI : v_WT M.2.2) : Ct l D dA sX9_withMark false 175 3 0 0 175 [.ref x0, .int x1] M (fX9_withMark M x0 x1) := by
  refine Ct_of (lv := [(0, .ref x0), (1, .int x1)]) (by decide +kernel) rfl (Nat.le_of_ble_eq_true rfl) rfl (fun h => by cases h) ?_
  refine V_iconst (v := 0) dX9_withMark_0 rfl ?_
  refine V_istore_n (lv' := [(2, .int 0), (0, .ref x0), (1, .int x1)]) dX9_withMark_1 rfl (by decide) rfl ?_
  refine V_sub [1, 2, 0] rfl ?_
  exact vX9_withMark_2 FU M x0 x1 0 f0 hI
def fX10_find (M : vM) (x1 : Int32) (x2 : Int32) : Option (vR × vM) := br (fX10_workOf M x1) fun y1 M2 => bi (fX9_withMark M2 y1 x2) fun y5 M6 => rI y5 M6
set_option maxRecDepth 20000 in
set_option maxHeartbeats 2000000 in
theorem cX10_find_ok {l : Launch} {D : va_G} {dA : Nat → ClassId} (hT : l.stackTraces = false) (M : vM) (x1 : Int32) (x2 : Int32) (hI : v_WT M.2.2) : Ct l D dA sX10_find false 175 7 1 6 175 [.ref 0, .int x1, .int x2] M (fX10_find M x1 x2) := by
  refine Ct_of (lv := [(0, .ref 0), (1, .int x1), (2, .int x2)]) (by decide +kernel) rfl (Nat.le_of_ble_eq_true rfl) rfl (fun h => by cases h) ?_
  refine V_aload_n (k := 0) dX10_find_0 rfl rfl ?_
  refine V_iload_n (k := 1) dX10_find_1 rfl rfl ?_
  refine V_callVr (q := (RX10, TX10, 15)) (cls := 10) (st0 := []) (kc' := 0) (ks' := 0) dX10_find_2 lk_X10_158 rfl (by decide) rfl rfl rfl (cX10_workOf_ok hT M x1 hI) rfl rfl (by decide) (by decide) (Nat.le_of_ble_eq_true rfl) (Or.inl rfl) rfl rfl (by decide) (by decide) (fun y1 M2 e3 hI4 => ?_)
  have wy1 := wX10_workOf_ret e3
  refine V_iload_n (k := 2) dX10_find_5 rfl rfl ?_
  refine V_callVi (q := (RX9, TX9, 6)) (cls := 9) (st0 := []) (kc' := 0) (ks' := 0) dX10_find_6 lk_X10_209 rfl (v_LW wy1).1 (v_LW wy1).2.1 rfl rfl (cX9_withMark_ok M2 y1 x2 wy1 hI4) rfl rfl (by decide) (by decide) (Nat.le_of_ble_eq_true rfl) (Or.inl rfl) rfl rfl (by decide) (by decide) (fun y5 M6 e7 hI8 => ?_)
  exact V_ret (fun _ => hI8) (Or.inr (Or.inl ⟨rfl, _, rfl⟩)) dX10_find_9 (fun ty x h1 h2 => by cases h1; rfl) rfl
def fX1_peopleOf (M : vM) (x0 : Nat) (x1 : Int32) : Option (vR × vM) := bi (fX10_at M (x0 + 5) x1) fun y1 M2 => rI y1 M2
set_option maxRecDepth 20000 in
set_option maxHeartbeats 2000000 in
theorem cX1_peopleOf_ok {l : Launch} {D : va_G} {dA : Nat → ClassId} (M : vM) (x0 : Nat) (x1 : Int32) (f0 : v_isG x0) (hI : v_WT M.2.2) : Ct l D dA sX1_peopleOf false 175 2 0 0 175 [.ref x0, .int x1] M (fX1_peopleOf M x0 x1) := by
  refine Ct_of (lv := [(0, .ref x0), (1, .int x1)]) (by decide +kernel) rfl (Nat.le_of_ble_eq_true rfl) rfl (fun h => by cases h) ?_
  refine V_aload_n (k := 0) dX1_peopleOf_0 rfl rfl ?_
  refine V_getr (k := x0 + 5) dX1_peopleOf_1 (v_LG f0).2.1 (v_LG f0).1 vf_X1_24 (by decide) (v_finG hI f0).2.2.2.2.1 ?_
  refine V_iload_n (k := 1) dX1_peopleOf_4 rfl rfl ?_
  refine V_callSi (st0 := []) (kc' := 0) (ks' := 0) dX1_peopleOf_5 lk_X1_52 rfl (cX10_at_ok M (x0 + 5) x1 (v_isA_of (v_LG f0).2.2.2.2.2.2.2.1 (v_LG f0).2.2.1.2.2.2.2.1) hI) rfl rfl (by decide) (by decide) (Nat.le_of_ble_eq_true rfl) (Or.inl rfl) rfl rfl (by decide) (by decide) (fun y1 M2 e3 hI4 => ?_)
  exact V_ret (fun _ => hI4) (Or.inr (Or.inl ⟨rfl, _, rfl⟩)) dX1_peopleOf_8 (fun ty x h1 h2 => by cases h1; rfl) rfl
def fX1_givesAt (M : vM) (x0 : Nat) (x1 : Int32) (x2 : Int32) : Option (vR × vM) := bi (fX10_at M (x0 + 6) ((x1 * 12) + x2)) fun y1 M2 => rI y1 M2
set_option maxRecDepth 20000 in
set_option maxHeartbeats 2000000 in
theorem cX1_givesAt_ok {l : Launch} {D : va_G} {dA : Nat → ClassId} (M : vM) (x0 : Nat) (x1 : Int32) (x2 : Int32) (f0 : v_isG x0) (hI : v_WT M.2.2) : Ct l D dA sX1_givesAt false 175 2 0 0 175 [.ref x0, .int x1, .int x2] M (fX1_givesAt M x0 x1 x2) := by
  refine Ct_of (lv := [(0, .ref x0), (1, .int x1), (2, .int x2)]) (by decide +kernel) rfl (Nat.le_of_ble_eq_true rfl) rfl (fun h => by cases h) ?_
  refine V_aload_n (k := 0) dX1_givesAt_0 rfl rfl ?_
  refine V_getr (k := x0 + 6) dX1_givesAt_1 (v_LG f0).2.1 (v_LG f0).1 vf_X1_27 (by decide) (v_finG hI f0).2.2.2.2.2.1 ?_
  refine V_iload_n (k := 1) dX1_givesAt_4 rfl rfl ?_
  refine V_bipush (v := 12) dX1_givesAt_5 rfl ?_
  refine V_imul dX1_givesAt_7 ?_
  refine V_iload_n (k := 2) dX1_givesAt_8 rfl rfl ?_
  refine V_iadd dX1_givesAt_9 ?_
  refine V_callSi (st0 := []) (kc' := 0) (ks' := 0) dX1_givesAt_10 lk_X1_52 rfl (cX10_at_ok M (x0 + 6) ((x1 * 12) + x2) (v_isA_of (v_LG f0).2.2.2.2.2.2.2.2.1 (v_LG f0).2.2.1.2.2.2.2.2.1) hI) rfl rfl (by decide) (by decide) (Nat.le_of_ble_eq_true rfl) (Or.inl rfl) rfl rfl (by decide) (by decide) (fun y1 M2 e3 hI4 => ?_)
  exact V_ret (fun _ => hI4) (Or.inr (Or.inl ⟨rfl, _, rfl⟩)) dX1_givesAt_13 (fun ty x h1 h2 => by cases h1; rfl) rfl
def fX2_line_82 (k16 : vM → Nat → Int32 → Int32 → Option (vR × vM)) (M : vM) (x1 : Nat) (x2 : Int32) (x3 : Int32) (x4 : Int32) (x5 : Int32) : Option (vR × vM) := bv (fX10_put M 35 x5 x4) fun M4 => k16 M4 x1 x2 (x3 + 1)
set_option maxRecDepth 20000 in
set_option maxHeartbeats 2000000 in
theorem vX2_line_82 {l : Launch} {D : va_G} {dA : Nat → ClassId} {k16 : vM → Nat → Int32 → Int32 → Option (vR × vM)} (hk16 : ∀ (M : vM) (x1 : Nat) (x2 : Int32) (x3 : Int32) (f1 : v_isG x1), v_WT M.2.2 → V l D dA sX2_line false 175 3 0 0 16 [(0, .ref 34), (1, .ref x1), (2, .int x2), (3, .int x3)] [] 175 M (k16 M x1 x2 x3)) : ∀ (M : vM) (x1 : Nat) (x2 : Int32) (x3 : Int32) (x4 : Int32) (x5 : Int32) (f1 : v_isG x1), v_WT M.2.2 → V l D dA sX2_line false 175 3 0 0 82 [(0, .ref 34), (1, .ref x1), (2, .int x2), (3, .int x3), (4, .int x4), (5, .int x5)] [] 175 M (fX2_line_82 k16 M x1 x2 x3 x4 x5) := by
  intro M x1 x2 x3 x4 x5 f1 hI
  refine V_aload_n (k := 0) dX2_line_82 rfl rfl ?_
  refine V_getr (k := 35) dX2_line_83 rfl (by decide) vf_X2_9 (by decide) (v_fin hI 43 rfl) ?_
  refine V_iload (k := 5) dX2_line_86 rfl ?_
  refine V_iload (k := 4) dX2_line_88 rfl ?_
  refine V_callSv (st0 := []) (kc' := 0) (ks' := 0) dX2_line_90 lk_X2_38 rfl (cX10_put_ok M 35 x5 x4 (v_isA_of (by decide) rfl) hI) rfl rfl (by decide) (by decide) (Nat.le_of_ble_eq_true rfl) (Or.inl rfl) rfl rfl (by decide) (by decide) (fun  M4 e5 hI6 => ?_)
  refine V_iinc (k := 3) (v := x3 + 1) (lv' := [(3, .int (x3 + 1)), (0, .ref 34), (1, .ref x1), (2, .int x2), (4, .int x4), (5, .int x5)]) dX2_line_93 rfl rfl (by decide) rfl ?_
  refine V_goto (tgt := 16) dX2_line_96 (by decide) ?_
  refine V_sub [1, 2, 3, 0] rfl ?_
  exact hk16 M4 x1 x2 (x3 + 1) f1 hI6
def fX2_line_35 (k16 : vM → Nat → Int32 → Int32 → Option (vR × vM)) : Nat → vM → Nat → Int32 → Int32 → Int32 → Int32 → Option (vR × vM)
  | 0, _, _, _, _, _, _ => none
  | n9 + 1, M, x1, x2, x3, x4, x5 => if x5 ≤ 0 then fX2_line_82 (k16) M x1 x2 x3 x4 x5 else bi (fX10_at M 35 (x5 - 1)) fun y8 M9 => if x4 ≤ y8 then fX2_line_82 (k16) M9 x1 x2 x3 x4 x5 else bi (fX10_at M9 35 (x5 - 1)) fun y13 M14 => bv (fX10_put M14 35 x5 y13) fun M17 => fX2_line_35 k16 n9 M17 x1 x2 x3 x4 (x5 + (-1))
set_option maxRecDepth 20000 in
set_option maxHeartbeats 2000000 in
theorem vX2_line_35 {l : Launch} {D : va_G} {dA : Nat → ClassId} {k16 : vM → Nat → Int32 → Int32 → Option (vR × vM)} (hk16 : ∀ (M : vM) (x1 : Nat) (x2 : Int32) (x3 : Int32) (f1 : v_isG x1), v_WT M.2.2 → V l D dA sX2_line false 175 3 0 0 16 [(0, .ref 34), (1, .ref x1), (2, .int x2), (3, .int x3)] [] 175 M (k16 M x1 x2 x3)) : ∀ (n9 : Nat) (M : vM) (x1 : Nat) (x2 : Int32) (x3 : Int32) (x4 : Int32) (x5 : Int32) (f1 : v_isG x1), v_WT M.2.2 → V l D dA sX2_line false 175 3 0 0 35 [(0, .ref 34), (1, .ref x1), (2, .int x2), (3, .int x3), (4, .int x4), (5, .int x5)] [] 175 M (fX2_line_35 k16 n9 M x1 x2 x3 x4 x5) := by
  intro n9
  induction n9 with
  | zero => intros; exact V_none
  | succ n9 ih =>
    intro M x1 x2 x3 x4 x5 f1 hI
    refine V_iload (k := 5) dX2_line_35 rfl ?_
    refine V_ifle (tgt := 82) dX2_line_37 (by decide) (fun h7 => ?_) (fun h7 => ?_)
    · refine V_sub [0, 1, 2, 3, 4, 5] rfl ?_
      exact vX2_line_82 (hk16) M x1 x2 x3 x4 x5 f1 hI
    · refine V_aload_n (k := 0) dX2_line_40 rfl rfl ?_
      refine V_getr (k := 35) dX2_line_41 rfl (by decide) vf_X2_9 (by decide) (v_fin hI 43 rfl) ?_
      refine V_iload (k := 5) dX2_line_44 rfl ?_
      refine V_iconst (v := 1) dX2_line_46 rfl ?_
      refine V_isub dX2_line_47 ?_
      refine V_callSi (st0 := []) (kc' := 0) (ks' := 0) dX2_line_48 lk_X2_34 rfl (cX10_at_ok M 35 (x5 - 1) (v_isA_of (by decide) rfl) hI) rfl rfl (by decide) (by decide) (Nat.le_of_ble_eq_true rfl) (Or.inl rfl) rfl rfl (by decide) (by decide) (fun y8 M9 e10 hI11 => ?_)
      refine V_iload (k := 4) dX2_line_51 rfl ?_
      refine V_icmpge (tgt := 82) dX2_line_53 (by decide) (fun h12 => ?_) (fun h12 => ?_)
      · refine V_sub [0, 1, 2, 3, 4, 5] rfl ?_
        exact vX2_line_82 (hk16) M9 x1 x2 x3 x4 x5 f1 hI11
      · refine V_aload_n (k := 0) dX2_line_56 rfl rfl ?_
        refine V_getr (k := 35) dX2_line_57 rfl (by decide) vf_X2_9 (by decide) (v_fin hI11 43 rfl) ?_
        refine V_iload (k := 5) dX2_line_60 rfl ?_
        refine V_aload_n (k := 0) dX2_line_62 rfl rfl ?_
        refine V_getr (k := 35) dX2_line_63 rfl (by decide) vf_X2_9 (by decide) (v_fin hI11 43 rfl) ?_
        refine V_iload (k := 5) dX2_line_66 rfl ?_
        refine V_iconst (v := 1) dX2_line_68 rfl ?_
        refine V_isub dX2_line_69 ?_
        refine V_callSi (st0 := [.int x5, .ref 35]) (kc' := 0) (ks' := 0) dX2_line_70 lk_X2_34 rfl (cX10_at_ok M9 35 (x5 - 1) (v_isA_of (by decide) rfl) hI11) rfl rfl (by decide) (by decide) (Nat.le_of_ble_eq_true rfl) (Or.inl rfl) rfl rfl (by decide) (by decide) (fun y13 M14 e15 hI16 => ?_)
        refine V_callSv (st0 := []) (kc' := 0) (ks' := 0) dX2_line_73 lk_X2_38 rfl (cX10_put_ok M14 35 x5 y13 (v_isA_of (by decide) rfl) hI16) rfl rfl (by decide) (by decide) (Nat.le_of_ble_eq_true rfl) (Or.inl rfl) rfl rfl (by decide) (by decide) (fun  M17 e18 hI19 => ?_)
        refine V_iinc (k := 5) (v := x5 + (-1)) (lv' := [(5, .int (x5 + (-1))), (0, .ref 34), (1, .ref x1), (2, .int x2), (3, .int x3), (4, .int x4)]) dX2_line_76 rfl rfl (by decide) rfl ?_
        refine V_goto (tgt := 35) dX2_line_79 (by decide) ?_
        refine V_sub [1, 2, 3, 4, 5, 0] rfl ?_
        exact ih M17 x1 x2 x3 x4 (x5 + (-1)) f1 hI19
def fX2_line_16 : Nat → vM → Nat → Int32 → Int32 → Option (vR × vM)
  | 0, _, _, _, _ => none
  | n9 + 1, M, x1, x2, x3 => if (M.1 34 1) ≤ x3 then rV M else bi (fX1_givesAt M x1 x2 x3) fun y21 M22 => fX2_line_35 (fX2_line_16 n9) FU M22 x1 x2 x3 y21 x3
set_option maxRecDepth 20000 in
set_option maxHeartbeats 2000000 in
theorem vX2_line_16 {l : Launch} {D : va_G} {dA : Nat → ClassId} : ∀ (n9 : Nat) (M : vM) (x1 : Nat) (x2 : Int32) (x3 : Int32) (f1 : v_isG x1), v_WT M.2.2 → V l D dA sX2_line false 175 3 0 0 16 [(0, .ref 34), (1, .ref x1), (2, .int x2), (3, .int x3)] [] 175 M (fX2_line_16 n9 M x1 x2 x3) := by
  intro n9
  induction n9 with
  | zero => intros; exact V_none
  | succ n9 ih =>
    intro M x1 x2 x3 f1 hI
    refine V_iload_n (k := 3) dX2_line_16 rfl rfl ?_
    refine V_aload_n (k := 0) dX2_line_17 rfl rfl ?_
    refine V_geti dX2_line_18 rfl (by decide) vf_X2_27 (by decide) ?_
    refine V_icmpge (tgt := 99) dX2_line_21 (by decide) (fun h20 => ?_) (fun h20 => ?_)
    · exact V_ret (fun _ => hI) (Or.inl ⟨rfl, rfl⟩) dX2_line_99 (fun ty x h1 h2 => by cases h1) rfl
    · refine V_aload_n (k := 1) dX2_line_24 rfl rfl ?_
      refine V_iload_n (k := 2) dX2_line_25 rfl rfl ?_
      refine V_iload_n (k := 3) dX2_line_26 rfl rfl ?_
      refine V_callVi (q := (RX1, TX1, 9)) (cls := 1) (st0 := []) (kc' := 0) (ks' := 0) dX2_line_27 lk_X2_31 rfl (v_LG f1).1 (v_LG f1).2.1 rfl rfl (cX1_givesAt_ok M x1 x2 x3 f1 hI) rfl rfl (by decide) (by decide) (Nat.le_of_ble_eq_true rfl) (Or.inl rfl) rfl rfl (by decide) (by decide) (fun y21 M22 e23 hI24 => ?_)
      refine V_istore (lv' := [(4, .int y21), (0, .ref 34), (1, .ref x1), (2, .int x2), (3, .int x3)]) dX2_line_30 (by decide) rfl ?_
      refine V_iload_n (k := 4) dX2_line_32 rfl rfl ?_
      refine V_istore (lv' := [(5, .int x3), (4, .int y21), (0, .ref 34), (1, .ref x1), (2, .int x2), (3, .int x3)]) dX2_line_33 (by decide) rfl ?_
      refine V_sub [2, 3, 4, 5, 1, 0] rfl ?_
      exact vX2_line_35 (ih) FU M22 x1 x2 x3 y21 x3 f1 hI24
def fX2_line (M : vM) (x1 : Nat) (x2 : Int32) : Option (vR × vM) := bi (fX1_peopleOf M x1 x2) fun y25 M26 => fX2_line_16 FU (v_si M26 34 1 (if 12 < y25 then 12 else y25)) x1 x2 0
set_option maxRecDepth 20000 in
set_option maxHeartbeats 2000000 in
theorem cX2_line_ok {l : Launch} {D : va_G} {dA : Nat → ClassId} (M : vM) (x1 : Nat) (x2 : Int32) (f1 : v_isG x1) (hI : v_WT M.2.2) : Ct l D dA sX2_line false 175 3 0 0 175 [.ref 34, .ref x1, .int x2] M (fX2_line M x1 x2) := by
  refine Ct_of (lv := [(0, .ref 34), (1, .ref x1), (2, .int x2)]) (by decide +kernel) rfl (Nat.le_of_ble_eq_true rfl) rfl (fun h => by cases h) ?_
  refine V_aload_n (k := 0) dX2_line_0 rfl rfl ?_
  refine V_aload_n (k := 1) dX2_line_1 rfl rfl ?_
  refine V_iload_n (k := 2) dX2_line_2 rfl rfl ?_
  refine V_callVi (q := (RX1, TX1, 9)) (cls := 1) (st0 := [.ref 34]) (kc' := 0) (ks' := 0) dX2_line_3 lk_X2_15 rfl (v_LG f1).1 (v_LG f1).2.1 rfl rfl (cX1_peopleOf_ok M x1 x2 f1 hI) rfl rfl (by decide) (by decide) (Nat.le_of_ble_eq_true rfl) (Or.inl rfl) rfl rfl (by decide) (by decide) (fun y25 M26 e27 hI28 => ?_)
  refine V_bipush (v := 12) dX2_line_6 rfl ?_
  refine V_mmin dX2_line_8 gw1169 gw793 gw101 gw794 (by decide) (Nat.le_of_ble_eq_true rfl) ?_
  refine V_puti dX2_line_11 rfl (by decide) vf_X2_27 (by decide) rfl rfl ?_
  refine V_iconst (v := 0) dX2_line_14 rfl ?_
  refine V_istore_n (lv' := [(3, .int 0), (0, .ref 34), (1, .ref x1), (2, .int x2)]) dX2_line_15 rfl (by decide) rfl ?_
  refine V_sub [1, 2, 3, 0] rfl ?_
  exact vX2_line_16 FU (v_si M26 34 1 (if 12 < y25 then 12 else y25)) x1 x2 0 f1 hI28
def fX2_settle_163 (M : vM) (x1 : Nat) (x3 : Int32) (s1 : Int32) : Option (vR × vM) := if x3 = ((-1)) then rV (v_si M 34 5 s1) else bi (fX9_costOf (v_si M 34 5 s1) x1 x3) fun y9 M10 => if (M10.1 34 3) ≤ 0 then rV (v_si M10 34 5 y9) else rV (v_si M10 34 5 (if y9 < M10.1 34 5 then y9 else M10.1 34 5))
set_option maxRecDepth 20000 in
set_option maxHeartbeats 2000000 in
theorem vX2_settle_163 {l : Launch} {D : va_G} {dA : Nat → ClassId} : ∀ (M : vM) (x1 : Nat) (x3 : Int32) (s1 : Int32) (f1 : v_isW x1), v_WT M.2.2 → V l D dA sX2_settle false 175 4 0 0 163 [(0, .ref 34), (1, .ref x1), (3, .int x3)] [.int s1, .ref 34] 175 M (fX2_settle_163 M x1 x3 s1) := by
  intro M x1 x3 s1 f1 hI
  refine V_puti dX2_settle_163 rfl (by decide) vf_X2_62 (by decide) rfl rfl ?_
  refine V_iload_n (k := 2) dX2_settle_166 rfl rfl ?_
  refine V_iconst (v := (-1)) dX2_settle_167 rfl ?_
  refine V_icmpeq (tgt := 203) dX2_settle_168 (by decide) (fun h8 => ?_) (fun h8 => ?_)
  · exact V_ret (fun _ => hI) (Or.inl ⟨rfl, rfl⟩) dX2_settle_203 (fun ty x h1 h2 => by cases h1) rfl
  · refine V_aload_n (k := 1) dX2_settle_171 rfl rfl ?_
    refine V_iload_n (k := 2) dX2_settle_172 rfl rfl ?_
    refine V_callVi (q := (RX9, TX9, 6)) (cls := 9) (st0 := []) (kc' := 0) (ks' := 0) dX2_settle_173 lk_X2_53 rfl (v_LW f1).1 (v_LW f1).2.1 rfl rfl (cX9_costOf_ok (v_si M 34 5 s1) x1 x3 f1 hI) rfl rfl (by decide) (by decide) (Nat.le_of_ble_eq_true rfl) (Or.inl rfl) rfl rfl (by decide) (by decide) (fun y9 M10 e11 hI12 => ?_)
    refine V_istore (lv' := [(4, .int y9), (0, .ref 34), (1, .ref x1), (3, .int x3)]) dX2_settle_176 (by decide) rfl ?_
    refine V_aload_n (k := 1) dX2_settle_178 rfl rfl ?_
    refine V_aload_n (k := 1) dX2_settle_179 rfl rfl ?_
    refine V_geti dX2_settle_180 rfl (by decide) vf_X2_45 (by decide) ?_
    refine V_ifle (tgt := 198) dX2_settle_183 (by decide) (fun h13 => ?_) (fun h13 => ?_)
    · refine V_iload (k := 0) dX2_settle_198 rfl ?_
      refine V_puti dX2_settle_200 rfl (by decide) vf_X2_62 (by decide) rfl rfl ?_
      exact V_ret (fun _ => hI12) (Or.inl ⟨rfl, rfl⟩) dX2_settle_203 (fun ty x h1 h2 => by cases h1) rfl
    · refine V_aload_n (k := 1) dX2_settle_186 rfl rfl ?_
      refine V_geti dX2_settle_187 rfl (by decide) vf_X2_62 (by decide) ?_
      refine V_iload (k := 0) dX2_settle_190 rfl ?_
      refine V_mmin dX2_settle_192 gw1169 gw793 gw101 gw794 (by decide) (Nat.le_of_ble_eq_true rfl) ?_
      refine V_goto (tgt := 200) dX2_settle_195 (by decide) ?_
      refine V_puti dX2_settle_200 rfl (by decide) vf_X2_62 (by decide) rfl rfl ?_
      exact V_ret (fun _ => hI12) (Or.inl ⟨rfl, rfl⟩) dX2_settle_203 (fun ty x h1 h2 => by cases h1) rfl
def fX2_settle_133 (M : vM) (x1 : Nat) (x3 : Int32) (s1 : Int32) : Option (vR × vM) := if ((v_si M 34 4 s1).1 34 3) ≤ 0 then fX2_settle_163 (v_si M 34 4 s1) x1 x3 9999 else bi (fX10_at (v_si M 34 4 s1) 35 (((v_si M 34 4 s1).1 34 3) - 1)) fun y15 M16 => fX2_settle_163 M16 x1 x3 y15
set_option maxRecDepth 20000 in
set_option maxHeartbeats 2000000 in
theorem vX2_settle_133 {l : Launch} {D : va_G} {dA : Nat → ClassId} : ∀ (M : vM) (x1 : Nat) (x3 : Int32) (s1 : Int32) (f1 : v_isW x1), v_WT M.2.2 → V l D dA sX2_settle false 175 4 0 0 133 [(0, .ref 34), (1, .ref x1), (3, .int x3)] [.int s1, .ref 34] 175 M (fX2_settle_133 M x1 x3 s1) := by
  intro M x1 x3 s1 f1 hI
  refine V_puti dX2_settle_133 rfl (by decide) vf_X2_59 (by decide) rfl rfl ?_
  refine V_aload_n (k := 0) dX2_settle_136 rfl rfl ?_
  refine V_aload_n (k := 0) dX2_settle_137 rfl rfl ?_
  refine V_geti dX2_settle_138 rfl (by decide) vf_X2_45 (by decide) ?_
  refine V_ifle (tgt := 160) dX2_settle_141 (by decide) (fun h14 => ?_) (fun h14 => ?_)
  · refine V_sipush (v := 9999) dX2_settle_160 rfl ?_
    refine V_sub [0, 1, 2] rfl ?_
    exact vX2_settle_163 (v_si M 34 4 s1) x1 x3 9999 f1 hI
  · refine V_aload_n (k := 0) dX2_settle_144 rfl rfl ?_
    refine V_getr (k := 35) dX2_settle_145 rfl (by decide) vf_X2_9 (by decide) (v_fin hI 43 rfl) ?_
    refine V_aload_n (k := 0) dX2_settle_148 rfl rfl ?_
    refine V_geti dX2_settle_149 rfl (by decide) vf_X2_45 (by decide) ?_
    refine V_iconst (v := 1) dX2_settle_152 rfl ?_
    refine V_isub dX2_settle_153 ?_
    refine V_callSi (st0 := [.ref 34]) (kc' := 0) (ks' := 0) dX2_settle_154 lk_X2_34 rfl (cX10_at_ok (v_si M 34 4 s1) 35 (((v_si M 34 4 s1).1 34 3) - 1) (v_isA_of (by decide) rfl) hI) rfl rfl (by decide) (by decide) (Nat.le_of_ble_eq_true rfl) (Or.inl rfl) rfl rfl (by decide) (by decide) (fun y15 M16 e17 hI18 => ?_)
    refine V_goto (tgt := 163) dX2_settle_157 (by decide) ?_
    refine V_sub [0, 1, 2] rfl ?_
    exact vX2_settle_163 M16 x1 x3 y15 f1 hI18
def fX2_settle_102 (M : vM) (x1 : Nat) (x2 : Int32) (x3 : Int32) : Option (vR × vM) := if (M.1 34 1) ≤ (M.1 34 3) then fX2_settle_133 M x1 x3 x2 else bi (fX10_at M 35 (M.1 34 3)) fun y20 M21 => fX2_settle_133 M21 x1 x3 (if x2 < y20 then y20 else x2)
set_option maxRecDepth 20000 in
set_option maxHeartbeats 2000000 in
theorem vX2_settle_102 {l : Launch} {D : va_G} {dA : Nat → ClassId} : ∀ (M : vM) (x1 : Nat) (x2 : Int32) (x3 : Int32) (f1 : v_isW x1), v_WT M.2.2 → V l D dA sX2_settle false 175 4 0 0 102 [(0, .ref 34), (1, .ref x1), (2, .int x2), (3, .int x3)] [] 175 M (fX2_settle_102 M x1 x2 x3) := by
  intro M x1 x2 x3 f1 hI
  refine V_aload_n (k := 0) dX2_settle_102 rfl rfl ?_
  refine V_aload_n (k := 0) dX2_settle_103 rfl rfl ?_
  refine V_geti dX2_settle_104 rfl (by decide) vf_X2_45 (by decide) ?_
  refine V_aload_n (k := 0) dX2_settle_107 rfl rfl ?_
  refine V_geti dX2_settle_108 rfl (by decide) vf_X2_27 (by decide) ?_
  refine V_icmpge (tgt := 132) dX2_settle_111 (by decide) (fun h19 => ?_) (fun h19 => ?_)
  · refine V_iload_n (k := 2) dX2_settle_132 rfl rfl ?_
    refine V_sub [0, 1, 3] rfl ?_
    exact vX2_settle_133 M x1 x3 x2 f1 hI
  · refine V_iload_n (k := 2) dX2_settle_114 rfl rfl ?_
    refine V_aload_n (k := 0) dX2_settle_115 rfl rfl ?_
    refine V_getr (k := 35) dX2_settle_116 rfl (by decide) vf_X2_9 (by decide) (v_fin hI 43 rfl) ?_
    refine V_aload_n (k := 0) dX2_settle_119 rfl rfl ?_
    refine V_geti dX2_settle_120 rfl (by decide) vf_X2_45 (by decide) ?_
    refine V_callSi (st0 := [.int x2, .ref 34]) (kc' := 0) (ks' := 0) dX2_settle_123 lk_X2_34 rfl (cX10_at_ok M 35 (M.1 34 3) (v_isA_of (by decide) rfl) hI) rfl rfl (by decide) (by decide) (Nat.le_of_ble_eq_true rfl) (Or.inl rfl) rfl rfl (by decide) (by decide) (fun y20 M21 e22 hI23 => ?_)
    refine V_mmax dX2_settle_126 gw1182 gw834 gw101 gw835 (by decide) (Nat.le_of_ble_eq_true rfl) ?_
    refine V_goto (tgt := 133) dX2_settle_129 (by decide) ?_
    refine V_sub [0, 1, 3] rfl ?_
    exact vX2_settle_133 M21 x1 x3 (if x2 < y20 then y20 else x2) f1 hI23
def fX2_settle_18 : Nat → vM → Nat → Int32 → Int32 → Option (vR × vM)
  | 0, _, _, _, _ => none
  | n9 + 1, M, x1, x2, x3 => if (M.1 34 1) ≤ (M.1 34 3) then fX2_settle_102 M x1 x2 x3 else if x3 = ((-1)) then fX2_settle_102 M x1 x2 x3 else bi (fX10_at M 35 (M.1 34 3)) fun y26 M27 => bi (fX9_costOf M27 x1 x3) fun y30 M31 => if y26 ≤ y30 then fX2_settle_102 M31 x1 x2 x3 else bi (fX9_costOf M31 x1 x3) fun y35 M36 => bi (fX10_at M36 35 (M36.1 34 3)) fun y39 M40 => bi (fX9_nextUnspent (v_si (v_si M40 34 2 ((M36.1 34 2) + (y39 - y35))) 34 3 (((v_si M40 34 2 ((M36.1 34 2) + (y39 - y35))).1 34 3) + 1)) x1 (x3 + 1)) fun y43 M44 => fX2_settle_18 n9 M44 x1 y35 y43
set_option maxRecDepth 20000 in
set_option maxHeartbeats 2000000 in
theorem vX2_settle_18 {l : Launch} {D : va_G} {dA : Nat → ClassId} : ∀ (n9 : Nat) (M : vM) (x1 : Nat) (x2 : Int32) (x3 : Int32) (f1 : v_isW x1), v_WT M.2.2 → V l D dA sX2_settle false 175 4 0 0 18 [(0, .ref 34), (1, .ref x1), (2, .int x2), (3, .int x3)] [] 175 M (fX2_settle_18 n9 M x1 x2 x3) := by
  intro n9
  induction n9 with
  | zero => intros; exact V_none
  | succ n9 ih =>
    intro M x1 x2 x3 f1 hI
    refine V_aload_n (k := 0) dX2_settle_18 rfl rfl ?_
    refine V_geti dX2_settle_19 rfl (by decide) vf_X2_45 (by decide) ?_
    refine V_aload_n (k := 0) dX2_settle_22 rfl rfl ?_
    refine V_geti dX2_settle_23 rfl (by decide) vf_X2_27 (by decide) ?_
    refine V_icmpge (tgt := 102) dX2_settle_26 (by decide) (fun h24 => ?_) (fun h24 => ?_)
    · refine V_sub [0, 1, 2, 3] rfl ?_
      exact vX2_settle_102 M x1 x2 x3 f1 hI
    · refine V_iload_n (k := 3) dX2_settle_29 rfl rfl ?_
      refine V_iconst (v := (-1)) dX2_settle_30 rfl ?_
      refine V_icmpeq (tgt := 102) dX2_settle_31 (by decide) (fun h25 => ?_) (fun h25 => ?_)
      · refine V_sub [0, 1, 2, 3] rfl ?_
        exact vX2_settle_102 M x1 x2 x3 f1 hI
      · refine V_aload_n (k := 0) dX2_settle_34 rfl rfl ?_
        refine V_getr (k := 35) dX2_settle_35 rfl (by decide) vf_X2_9 (by decide) (v_fin hI 43 rfl) ?_
        refine V_aload_n (k := 0) dX2_settle_38 rfl rfl ?_
        refine V_geti dX2_settle_39 rfl (by decide) vf_X2_45 (by decide) ?_
        refine V_callSi (st0 := []) (kc' := 0) (ks' := 0) dX2_settle_42 lk_X2_34 rfl (cX10_at_ok M 35 (M.1 34 3) (v_isA_of (by decide) rfl) hI) rfl rfl (by decide) (by decide) (Nat.le_of_ble_eq_true rfl) (Or.inl rfl) rfl rfl (by decide) (by decide) (fun y26 M27 e28 hI29 => ?_)
        refine V_aload_n (k := 1) dX2_settle_45 rfl rfl ?_
        refine V_iload_n (k := 3) dX2_settle_46 rfl rfl ?_
        refine V_callVi (q := (RX9, TX9, 6)) (cls := 9) (st0 := [.int y26]) (kc' := 0) (ks' := 0) dX2_settle_47 lk_X2_53 rfl (v_LW f1).1 (v_LW f1).2.1 rfl rfl (cX9_costOf_ok M27 x1 x3 f1 hI29) rfl rfl (by decide) (by decide) (Nat.le_of_ble_eq_true rfl) (Or.inl rfl) rfl rfl (by decide) (by decide) (fun y30 M31 e32 hI33 => ?_)
        refine V_icmple (tgt := 102) dX2_settle_50 (by decide) (fun h34 => ?_) (fun h34 => ?_)
        · refine V_sub [0, 1, 2, 3] rfl ?_
          exact vX2_settle_102 M31 x1 x2 x3 f1 hI33
        · refine V_aload_n (k := 1) dX2_settle_53 rfl rfl ?_
          refine V_iload_n (k := 3) dX2_settle_54 rfl rfl ?_
          refine V_callVi (q := (RX9, TX9, 6)) (cls := 9) (st0 := []) (kc' := 0) (ks' := 0) dX2_settle_55 lk_X2_53 rfl (v_LW f1).1 (v_LW f1).2.1 rfl rfl (cX9_costOf_ok M31 x1 x3 f1 hI33) rfl rfl (by decide) (by decide) (Nat.le_of_ble_eq_true rfl) (Or.inl rfl) rfl rfl (by decide) (by decide) (fun y35 M36 e37 hI38 => ?_)
          refine V_istore_n (lv' := [(2, .int y35), (0, .ref 34), (1, .ref x1), (3, .int x3)]) dX2_settle_58 rfl (by decide) rfl ?_
          refine V_aload_n (k := 1) dX2_settle_59 rfl rfl ?_
          refine V_dup dX2_settle_60 rfl ?_
          refine V_geti dX2_settle_61 rfl (by decide) vf_X2_42 (by decide) ?_
          refine V_aload_n (k := 1) dX2_settle_64 rfl rfl ?_
          refine V_getr (k := 35) dX2_settle_65 rfl (by decide) vf_X2_9 (by decide) (v_fin hI38 43 rfl) ?_
          refine V_aload_n (k := 1) dX2_settle_68 rfl rfl ?_
          refine V_geti dX2_settle_69 rfl (by decide) vf_X2_45 (by decide) ?_
          refine V_callSi (st0 := [.int (M36.1 34 2), .ref 34]) (kc' := 0) (ks' := 0) dX2_settle_72 lk_X2_34 rfl (cX10_at_ok M36 35 (M36.1 34 3) (v_isA_of (by decide) rfl) hI38) rfl rfl (by decide) (by decide) (Nat.le_of_ble_eq_true rfl) (Or.inl rfl) rfl rfl (by decide) (by decide) (fun y39 M40 e41 hI42 => ?_)
          refine V_iload_n (k := 0) dX2_settle_75 rfl rfl ?_
          refine V_isub dX2_settle_76 ?_
          refine V_iadd dX2_settle_77 ?_
          refine V_puti dX2_settle_78 rfl (by decide) vf_X2_42 (by decide) rfl rfl ?_
          refine V_aload_n (k := 1) dX2_settle_81 rfl rfl ?_
          refine V_dup dX2_settle_82 rfl ?_
          refine V_geti dX2_settle_83 rfl (by decide) vf_X2_45 (by decide) ?_
          refine V_iconst (v := 1) dX2_settle_86 rfl ?_
          refine V_iadd dX2_settle_87 ?_
          refine V_puti dX2_settle_88 rfl (by decide) vf_X2_45 (by decide) rfl rfl ?_
          refine V_aload_n (k := 2) dX2_settle_91 rfl rfl ?_
          refine V_iload_n (k := 3) dX2_settle_92 rfl rfl ?_
          refine V_iconst (v := 1) dX2_settle_93 rfl ?_
          refine V_iadd dX2_settle_94 ?_
          refine V_callVi (q := (RX9, TX9, 6)) (cls := 9) (st0 := []) (kc' := 0) (ks' := 0) dX2_settle_95 lk_X2_48 rfl (v_LW f1).1 (v_LW f1).2.1 rfl rfl (cX9_nextUnspent_ok (v_si (v_si M40 34 2 ((M36.1 34 2) + (y39 - y35))) 34 3 (((v_si M40 34 2 ((M36.1 34 2) + (y39 - y35))).1 34 3) + 1)) x1 (x3 + 1) f1 hI42) rfl rfl (by decide) (by decide) (Nat.le_of_ble_eq_true rfl) (Or.inl rfl) rfl rfl (by decide) (by decide) (fun y43 M44 e45 hI46 => ?_)
          refine V_istore_n (lv' := [(3, .int y43), (2, .int y35), (0, .ref 34), (1, .ref x1)]) dX2_settle_98 rfl (by decide) rfl ?_
          refine V_goto (tgt := 18) dX2_settle_99 (by decide) ?_
          refine V_sub [2, 3, 1, 0] rfl ?_
          exact ih M44 x1 y35 y43 f1 hI46
def fX2_settle (M : vM) (x1 : Nat) : Option (vR × vM) := bi (fX9_nextUnspent (v_si (v_si M 34 2 0) 34 3 0) x1 0) fun y47 M48 => fX2_settle_18 FU M48 x1 0 y47
set_option maxRecDepth 20000 in
set_option maxHeartbeats 2000000 in
theorem cX2_settle_ok {l : Launch} {D : va_G} {dA : Nat → ClassId} (M : vM) (x1 : Nat) (f1 : v_isW x1) (hI : v_WT M.2.2) : Ct l D dA sX2_settle false 175 4 0 0 175 [.ref 34, .ref x1] M (fX2_settle M x1) := by
  refine Ct_of (lv := [(0, .ref 34), (1, .ref x1)]) (by decide +kernel) rfl (Nat.le_of_ble_eq_true rfl) rfl (fun h => by cases h) ?_
  refine V_aload_n (k := 0) dX2_settle_0 rfl rfl ?_
  refine V_iconst (v := 0) dX2_settle_1 rfl ?_
  refine V_puti dX2_settle_2 rfl (by decide) vf_X2_42 (by decide) rfl rfl ?_
  refine V_aload_n (k := 0) dX2_settle_5 rfl rfl ?_
  refine V_iconst (v := 0) dX2_settle_6 rfl ?_
  refine V_puti dX2_settle_7 rfl (by decide) vf_X2_45 (by decide) rfl rfl ?_
  refine V_iconst (v := 0) dX2_settle_10 rfl ?_
  refine V_istore_n (lv' := [(2, .int 0), (0, .ref 34), (1, .ref x1)]) dX2_settle_11 rfl (by decide) rfl ?_
  refine V_aload_n (k := 2) dX2_settle_12 rfl rfl ?_
  refine V_iconst (v := 0) dX2_settle_13 rfl ?_
  refine V_callVi (q := (RX9, TX9, 6)) (cls := 9) (st0 := []) (kc' := 0) (ks' := 0) dX2_settle_14 lk_X2_48 rfl (v_LW f1).1 (v_LW f1).2.1 rfl rfl (cX9_nextUnspent_ok (v_si (v_si M 34 2 0) 34 3 0) x1 0 f1 hI) rfl rfl (by decide) (by decide) (Nat.le_of_ble_eq_true rfl) (Or.inl rfl) rfl rfl (by decide) (by decide) (fun y47 M48 e49 hI50 => ?_)
  refine V_istore_n (lv' := [(3, .int y47), (2, .int 0), (0, .ref 34), (1, .ref x1)]) dX2_settle_17 rfl (by decide) rfl ?_
  refine V_sub [2, 3, 1, 0] rfl ?_
  exact vX2_settle_18 FU M48 x1 0 y47 f1 hI50
def fX10_given (M : vM) (x1 : Int32) (x2 : Int32) : Option (vR × vM) := br (fX10_workOf M x1) fun y4 M5 => bv (fX10_refuseUnlessWhat M5 x2 4) fun M8 => bv (fX2_line M8 6 x1) fun M11 => bv (fX2_settle M11 y4) fun M14 => if x2 = 0 then rI (M14.1 34 2) M14 else if x2 = 1 then rI (M14.1 34 3) M14 else if x2 = 2 then rI (M14.1 34 4) M14 else rI (M14.1 34 5) M14
set_option maxRecDepth 20000 in
set_option maxHeartbeats 2000000 in
theorem cX10_given_ok {l : Launch} {D : va_G} {dA : Nat → ClassId} (hT : l.stackTraces = false) (M : vM) (x1 : Int32) (x2 : Int32) (hI : v_WT M.2.2) : Ct l D dA sX10_given false 175 7 2 12 175 [.ref 0, .int x1, .int x2] M (fX10_given M x1 x2) := by
  refine Ct_of (lv := [(0, .ref 0), (1, .int x1), (2, .int x2)]) (by decide +kernel) rfl (Nat.le_of_ble_eq_true rfl) rfl (fun h => by cases h) ?_
  refine V_aload_n (k := 0) dX10_given_0 rfl rfl ?_
  refine V_iload_n (k := 1) dX10_given_1 rfl rfl ?_
  refine V_callVr (q := (RX10, TX10, 15)) (cls := 10) (st0 := []) (kc' := 1) (ks' := 6) dX10_given_2 lk_X10_158 rfl (by decide) rfl rfl rfl (cX10_workOf_ok hT M x1 hI) rfl rfl (by decide) (by decide) (Nat.le_of_ble_eq_true rfl) (Or.inl rfl) rfl rfl (by decide) (by decide) (fun y4 M5 e6 hI7 => ?_)
  have wy4 := wX10_workOf_ret e6
  refine V_astore_n (lv' := [(3, .ref y4), (0, .ref 0), (1, .int x1), (2, .int x2)]) dX10_given_5 rfl (by decide) rfl ?_
  refine V_iload_n (k := 3) dX10_given_6 rfl rfl ?_
  refine V_iconst (v := 4) dX10_given_7 rfl ?_
  refine V_callSv (st0 := []) (kc' := 0) (ks' := 0) dX10_given_8 lk_X10_212 rfl (cX10_refuseUnlessWhat_ok hT M5 x2 4 hI7) rfl rfl (by decide) (by decide) (Nat.le_of_ble_eq_true rfl) (Or.inl rfl) rfl rfl (by decide) (by decide) (fun  M8 e9 hI10 => ?_)
  refine V_aload_n (k := 1) dX10_given_11 rfl rfl ?_
  refine V_getr (k := 34) dX10_given_12 rfl (by decide) vf_X10_71 (by decide) (v_fin hI10 9 rfl) ?_
  refine V_aload_n (k := 1) dX10_given_15 rfl rfl ?_
  refine V_getr (k := 6) dX10_given_16 rfl (by decide) vf_X10_40 (by decide) (v_fin hI10 4 rfl) ?_
  refine V_iload_n (k := 2) dX10_given_19 rfl rfl ?_
  refine V_callVv (q := (RX2, TX2, 6)) (cls := 2) (st0 := []) (kc' := 0) (ks' := 0) dX10_given_20 lk_X10_312 rfl (by decide) rfl rfl rfl (cX2_line_ok M8 6 x1 (Or.inl rfl) hI10) rfl rfl (by decide) (by decide) (Nat.le_of_ble_eq_true rfl) (Or.inl rfl) rfl rfl (by decide) (by decide) (fun  M11 e12 hI13 => ?_)
  refine V_aload_n (k := 1) dX10_given_23 rfl rfl ?_
  refine V_getr (k := 34) dX10_given_24 rfl (by decide) vf_X10_71 (by decide) (v_fin hI13 9 rfl) ?_
  refine V_aload_n (k := 0) dX10_given_27 rfl rfl ?_
  refine V_callVv (q := (RX2, TX2, 6)) (cls := 2) (st0 := []) (kc' := 0) (ks' := 0) dX10_given_28 lk_X10_315 rfl (by decide) rfl rfl rfl (cX2_settle_ok M11 y4 wy4 hI13) rfl rfl (by decide) (by decide) (Nat.le_of_ble_eq_true rfl) (Or.inl rfl) rfl rfl (by decide) (by decide) (fun  M14 e15 hI16 => ?_)
  refine V_iload_n (k := 3) dX10_given_31 rfl rfl ?_
  refine V_tcase (k := 0) (tgt := 60) dX10_given_32 (by decide) (by decide) rfl (by decide) (fun h17 => ?_) (fun h17 => ?_)
  · refine V_aload_n (k := 1) dX10_given_60 rfl rfl ?_
    refine V_getr (k := 34) dX10_given_61 rfl (by decide) vf_X10_71 (by decide) (v_fin hI16 9 rfl) ?_
    refine V_geti dX10_given_64 rfl (by decide) vf_X10_319 (by decide) ?_
    exact V_ret (fun _ => hI16) (Or.inr (Or.inl ⟨rfl, _, rfl⟩)) dX10_given_67 (fun ty x h1 h2 => by cases h1; rfl) rfl
  refine V_tcase (k := 1) (tgt := 68) dX10_given_32 (by decide) (by decide) rfl (by decide) (fun h18 => ?_) (fun h18 => ?_)
  · refine V_aload_n (k := 1) dX10_given_68 rfl rfl ?_
    refine V_getr (k := 34) dX10_given_69 rfl (by decide) vf_X10_71 (by decide) (v_fin hI16 9 rfl) ?_
    refine V_geti dX10_given_72 rfl (by decide) vf_X10_322 (by decide) ?_
    exact V_ret (fun _ => hI16) (Or.inr (Or.inl ⟨rfl, _, rfl⟩)) dX10_given_75 (fun ty x h1 h2 => by cases h1; rfl) rfl
  refine V_tcase (k := 2) (tgt := 76) dX10_given_32 (by decide) (by decide) rfl (by decide) (fun h19 => ?_) (fun h19 => ?_)
  · refine V_aload_n (k := 1) dX10_given_76 rfl rfl ?_
    refine V_getr (k := 34) dX10_given_77 rfl (by decide) vf_X10_71 (by decide) (v_fin hI16 9 rfl) ?_
    refine V_geti dX10_given_80 rfl (by decide) vf_X10_325 (by decide) ?_
    exact V_ret (fun _ => hI16) (Or.inr (Or.inl ⟨rfl, _, rfl⟩)) dX10_given_83 (fun ty x h1 h2 => by cases h1; rfl) rfl
  refine V_tdef (tgt := 84) dX10_given_32 (v_tout (m := 2) (by decide) (lt_s (lt_s (lt_s lt_0 h17) h18) h19)) (by decide) ?_
  refine V_aload_n (k := 1) dX10_given_84 rfl rfl ?_
  refine V_getr (k := 34) dX10_given_85 rfl (by decide) vf_X10_71 (by decide) (v_fin hI16 9 rfl) ?_
  refine V_geti dX10_given_88 rfl (by decide) vf_X10_328 (by decide) ?_
  exact V_ret (fun _ => hI16) (Or.inr (Or.inl ⟨rfl, _, rfl⟩)) dX10_given_91 (fun ty x h1 h2 => by cases h1; rfl) rfl
def fX1_copy (M : vM) (x0 : Nat) (x1 : Nat) : Option (vR × vM) := rV (v_cpM (v_cpM (v_cpM (v_cpM (v_cpM (v_cpM (v_cpM (v_cpM (v_si M x0 0 (M.1 x1 0)) (x1 + 1) (x0 + 1) 400) (x1 + 2) (x0 + 2) 400) (x1 + 3) (x0 + 3) 6) (x1 + 4) (x0 + 4) 600) (x1 + 5) (x0 + 5) 6) (x1 + 6) (x0 + 6) 72) (x1 + 7) (x0 + 7) 100) (x1 + 8) (x0 + 8) 4)
set_option maxRecDepth 20000 in
set_option maxHeartbeats 2000000 in
theorem cX1_copy_ok {l : Launch} {D : va_G} {dA : Nat → ClassId} (M : vM) (x0 : Nat) (x1 : Nat) (f0 : v_isG x0) (f1 : v_isG x1) (hI : v_WT M.2.2) : Ct l D dA sX1_copy false 175 2 0 0 175 [.ref x0, .ref x1] M (fX1_copy M x0 x1) := by
  refine Ct_of (lv := [(0, .ref x0), (1, .ref x1)]) (by decide +kernel) rfl (Nat.le_of_ble_eq_true rfl) rfl (fun h => by cases h) ?_
  refine V_aload_n (k := 0) dX1_copy_0 rfl rfl ?_
  refine V_aload_n (k := 1) dX1_copy_1 rfl rfl ?_
  refine V_geti dX1_copy_2 (v_LG f1).2.1 (v_LG f1).1 vf_X1_42 (by decide) ?_
  refine V_puti dX1_copy_5 (v_LG f0).2.1 (v_LG f0).1 vf_X1_42 (by decide) rfl rfl ?_
  refine V_aload_n (k := 1) dX1_copy_8 rfl rfl ?_
  refine V_getr (k := x1 + 1) dX1_copy_9 (v_LG f1).2.1 (v_LG f1).1 vf_X1_9 (by decide) (v_finG hI f1).1 ?_
  refine V_iconst (v := 0) dX1_copy_12 rfl ?_
  refine V_aload_n (k := 0) dX1_copy_13 rfl rfl ?_
  refine V_getr (k := x0 + 1) dX1_copy_14 (v_LG f0).2.1 (v_LG f0).1 vf_X1_9 (by decide) (v_finG hI f0).1 ?_
  refine V_iconst (v := 0) dX1_copy_17 rfl ?_
  refine V_sipush (v := 400) dX1_copy_18 rfl ?_
  refine V_copy (kN := 400) dX1_copy_21 gw500 gw502 gw501 gw104 (v_LG f1).2.2.1.1 (v_LG f0).2.2.1.1 (v_LG f1).2.2.2.1 (v_LG f0).2.2.2.1 rfl (by decide) (by decide) (by decide) (by decide) (Nat.le_of_ble_eq_true rfl) ?_
  refine V_aload_n (k := 1) dX1_copy_24 rfl rfl ?_
  refine V_getr (k := x1 + 2) dX1_copy_25 (v_LG f1).2.1 (v_LG f1).1 vf_X1_15 (by decide) (v_finG hI f1).2.1 ?_
  refine V_iconst (v := 0) dX1_copy_28 rfl ?_
  refine V_aload_n (k := 0) dX1_copy_29 rfl rfl ?_
  refine V_getr (k := x0 + 2) dX1_copy_30 (v_LG f0).2.1 (v_LG f0).1 vf_X1_15 (by decide) (v_finG hI f0).2.1 ?_
  refine V_iconst (v := 0) dX1_copy_33 rfl ?_
  refine V_sipush (v := 400) dX1_copy_34 rfl ?_
  refine V_copy (kN := 400) dX1_copy_37 gw500 gw502 gw501 gw104 (v_LG f1).2.2.1.2.1 (v_LG f0).2.2.1.2.1 (v_LG f1).2.2.2.2.1 (v_LG f0).2.2.2.2.1 rfl (by decide) (by decide) (by decide) (by decide) (Nat.le_of_ble_eq_true rfl) ?_
  refine V_aload_n (k := 1) dX1_copy_40 rfl rfl ?_
  refine V_getr (k := x1 + 3) dX1_copy_41 (v_LG f1).2.1 (v_LG f1).1 vf_X1_18 (by decide) (v_finG hI f1).2.2.1 ?_
  refine V_iconst (v := 0) dX1_copy_44 rfl ?_
  refine V_aload_n (k := 0) dX1_copy_45 rfl rfl ?_
  refine V_getr (k := x0 + 3) dX1_copy_46 (v_LG f0).2.1 (v_LG f0).1 vf_X1_18 (by decide) (v_finG hI f0).2.2.1 ?_
  refine V_iconst (v := 0) dX1_copy_49 rfl ?_
  refine V_bipush (v := 6) dX1_copy_50 rfl ?_
  refine V_copy (kN := 6) dX1_copy_52 gw500 gw502 gw501 gw104 (v_LG f1).2.2.1.2.2.1 (v_LG f0).2.2.1.2.2.1 (v_LG f1).2.2.2.2.2.1 (v_LG f0).2.2.2.2.2.1 rfl (by decide) (by decide) (by decide) (by decide) (Nat.le_of_ble_eq_true rfl) ?_
  refine V_aload_n (k := 1) dX1_copy_55 rfl rfl ?_
  refine V_getr (k := x1 + 4) dX1_copy_56 (v_LG f1).2.1 (v_LG f1).1 vf_X1_21 (by decide) (v_finG hI f1).2.2.2.1 ?_
  refine V_iconst (v := 0) dX1_copy_59 rfl ?_
  refine V_aload_n (k := 0) dX1_copy_60 rfl rfl ?_
  refine V_getr (k := x0 + 4) dX1_copy_61 (v_LG f0).2.1 (v_LG f0).1 vf_X1_21 (by decide) (v_finG hI f0).2.2.2.1 ?_
  refine V_iconst (v := 0) dX1_copy_64 rfl ?_
  refine V_sipush (v := 600) dX1_copy_65 rfl ?_
  refine V_copy (kN := 600) dX1_copy_68 gw500 gw502 gw501 gw104 (v_LG f1).2.2.1.2.2.2.1 (v_LG f0).2.2.1.2.2.2.1 (v_LG f1).2.2.2.2.2.2.1 (v_LG f0).2.2.2.2.2.2.1 rfl (by decide) (by decide) (by decide) (by decide) (Nat.le_of_ble_eq_true rfl) ?_
  refine V_aload_n (k := 1) dX1_copy_71 rfl rfl ?_
  refine V_getr (k := x1 + 5) dX1_copy_72 (v_LG f1).2.1 (v_LG f1).1 vf_X1_24 (by decide) (v_finG hI f1).2.2.2.2.1 ?_
  refine V_iconst (v := 0) dX1_copy_75 rfl ?_
  refine V_aload_n (k := 0) dX1_copy_76 rfl rfl ?_
  refine V_getr (k := x0 + 5) dX1_copy_77 (v_LG f0).2.1 (v_LG f0).1 vf_X1_24 (by decide) (v_finG hI f0).2.2.2.2.1 ?_
  refine V_iconst (v := 0) dX1_copy_80 rfl ?_
  refine V_bipush (v := 6) dX1_copy_81 rfl ?_
  refine V_copy (kN := 6) dX1_copy_83 gw500 gw502 gw501 gw104 (v_LG f1).2.2.1.2.2.2.2.1 (v_LG f0).2.2.1.2.2.2.2.1 (v_LG f1).2.2.2.2.2.2.2.1 (v_LG f0).2.2.2.2.2.2.2.1 rfl (by decide) (by decide) (by decide) (by decide) (Nat.le_of_ble_eq_true rfl) ?_
  refine V_aload_n (k := 1) dX1_copy_86 rfl rfl ?_
  refine V_getr (k := x1 + 6) dX1_copy_87 (v_LG f1).2.1 (v_LG f1).1 vf_X1_27 (by decide) (v_finG hI f1).2.2.2.2.2.1 ?_
  refine V_iconst (v := 0) dX1_copy_90 rfl ?_
  refine V_aload_n (k := 0) dX1_copy_91 rfl rfl ?_
  refine V_getr (k := x0 + 6) dX1_copy_92 (v_LG f0).2.1 (v_LG f0).1 vf_X1_27 (by decide) (v_finG hI f0).2.2.2.2.2.1 ?_
  refine V_iconst (v := 0) dX1_copy_95 rfl ?_
  refine V_bipush (v := 72) dX1_copy_96 rfl ?_
  refine V_copy (kN := 72) dX1_copy_98 gw500 gw502 gw501 gw104 (v_LG f1).2.2.1.2.2.2.2.2.1 (v_LG f0).2.2.1.2.2.2.2.2.1 (v_LG f1).2.2.2.2.2.2.2.2.1 (v_LG f0).2.2.2.2.2.2.2.2.1 rfl (by decide) (by decide) (by decide) (by decide) (Nat.le_of_ble_eq_true rfl) ?_
  refine V_aload_n (k := 1) dX1_copy_101 rfl rfl ?_
  refine V_getr (k := x1 + 7) dX1_copy_102 (v_LG f1).2.1 (v_LG f1).1 vf_X1_30 (by decide) (v_finG hI f1).2.2.2.2.2.2.1 ?_
  refine V_iconst (v := 0) dX1_copy_105 rfl ?_
  refine V_aload_n (k := 0) dX1_copy_106 rfl rfl ?_
  refine V_getr (k := x0 + 7) dX1_copy_107 (v_LG f0).2.1 (v_LG f0).1 vf_X1_30 (by decide) (v_finG hI f0).2.2.2.2.2.2.1 ?_
  refine V_iconst (v := 0) dX1_copy_110 rfl ?_
  refine V_bipush (v := 100) dX1_copy_111 rfl ?_
  refine V_copy (kN := 100) dX1_copy_113 gw500 gw502 gw501 gw104 (v_LG f1).2.2.1.2.2.2.2.2.2.1 (v_LG f0).2.2.1.2.2.2.2.2.2.1 (v_LG f1).2.2.2.2.2.2.2.2.2.1 (v_LG f0).2.2.2.2.2.2.2.2.2.1 rfl (by decide) (by decide) (by decide) (by decide) (Nat.le_of_ble_eq_true rfl) ?_
  refine V_aload_n (k := 1) dX1_copy_116 rfl rfl ?_
  refine V_getr (k := x1 + 8) dX1_copy_117 (v_LG f1).2.1 (v_LG f1).1 vf_X1_33 (by decide) (v_finG hI f1).2.2.2.2.2.2.2 ?_
  refine V_iconst (v := 0) dX1_copy_120 rfl ?_
  refine V_aload_n (k := 0) dX1_copy_121 rfl rfl ?_
  refine V_getr (k := x0 + 8) dX1_copy_122 (v_LG f0).2.1 (v_LG f0).1 vf_X1_33 (by decide) (v_finG hI f0).2.2.2.2.2.2.2 ?_
  refine V_iconst (v := 0) dX1_copy_125 rfl ?_
  refine V_iconst (v := 4) dX1_copy_126 rfl ?_
  refine V_copy (kN := 4) dX1_copy_127 gw500 gw502 gw501 gw104 (v_LG f1).2.2.1.2.2.2.2.2.2.2 (v_LG f0).2.2.1.2.2.2.2.2.2.2 (v_LG f1).2.2.2.2.2.2.2.2.2.2 (v_LG f0).2.2.2.2.2.2.2.2.2.2 rfl (by decide) (by decide) (by decide) (by decide) (Nat.le_of_ble_eq_true rfl) ?_
  exact V_ret (fun _ => hI) (Or.inl ⟨rfl, rfl⟩) dX1_copy_130 (fun ty x h1 h2 => by cases h1) rfl
def fX10_image (M : vM) : Option (vR × vM) := bv (fX1_copy M 15 6) fun M1 => rV (v_si M1 0 14 1)
set_option maxRecDepth 20000 in
set_option maxHeartbeats 2000000 in
theorem cX10_image_ok {l : Launch} {D : va_G} {dA : Nat → ClassId} (M : vM) (hI : v_WT M.2.2) : Ct l D dA sX10_image false 175 3 0 0 175 [.ref 0] M (fX10_image M) := by
  refine Ct_of (lv := [(0, .ref 0)]) (by decide +kernel) rfl (Nat.le_of_ble_eq_true rfl) rfl (fun h => by cases h) ?_
  refine V_aload_n (k := 0) dX10_image_0 rfl rfl ?_
  refine V_getr (k := 15) dX10_image_1 rfl (by decide) vf_X10_44 (by decide) (v_fin hI 5 rfl) ?_
  refine V_aload_n (k := 0) dX10_image_4 rfl rfl ?_
  refine V_getr (k := 6) dX10_image_5 rfl (by decide) vf_X10_40 (by decide) (v_fin hI 4 rfl) ?_
  refine V_callVv (q := (RX1, TX1, 9)) (cls := 1) (st0 := []) (kc' := 0) (ks' := 0) dX10_image_8 lk_X10_352 rfl (by decide) rfl rfl rfl (cX1_copy_ok M 15 6 (Or.inr rfl) (Or.inl rfl) hI) rfl rfl (by decide) (by decide) (Nat.le_of_ble_eq_true rfl) (Or.inl rfl) rfl rfl (by decide) (by decide) (fun  M1 e2 hI3 => ?_)
  refine V_aload_n (k := 0) dX10_image_11 rfl rfl ?_
  refine V_iconst (v := 1) dX10_image_12 rfl ?_
  refine V_puti dX10_image_13 rfl (by decide) vf_X10_142 (by decide) rfl rfl ?_
  exact V_ret (fun _ => hI3) (Or.inl ⟨rfl, rfl⟩) dX10_image_16 (fun ty x h1 h2 => by cases h1) rfl
def fX3_costAt (M : vM) (x0 : Nat) (x1 : Int32) : Option (vR × vM) := bi (fX10_at M (x0 + 1) x1) fun y1 M2 => rI y1 M2
set_option maxRecDepth 20000 in
set_option maxHeartbeats 2000000 in
theorem cX3_costAt_ok {l : Launch} {D : va_G} {dA : Nat → ClassId} (M : vM) (x0 : Nat) (x1 : Int32) (f0 : v_isP x0) (hI : v_WT M.2.2) : Ct l D dA sX3_costAt false 175 2 0 0 175 [.ref x0, .int x1] M (fX3_costAt M x0 x1) := by
  refine Ct_of (lv := [(0, .ref x0), (1, .int x1)]) (by decide +kernel) rfl (Nat.le_of_ble_eq_true rfl) rfl (fun h => by cases h) ?_
  refine V_aload_n (k := 0) dX3_costAt_0 rfl rfl ?_
  refine V_getr (k := x0 + 1) dX3_costAt_1 (v_LP f0).2.1 (v_LP f0).1 vf_X3_9 (by decide) (v_finP hI f0).1 ?_
  refine V_iload_n (k := 1) dX3_costAt_4 rfl rfl ?_
  refine V_callSi (st0 := []) (kc' := 0) (ks' := 0) dX3_costAt_5 lk_X3_59 rfl (cX10_at_ok M (x0 + 1) x1 (v_isA_of (v_LP f0).2.2.2.1 (v_LP f0).2.2.1.1) hI) rfl rfl (by decide) (by decide) (Nat.le_of_ble_eq_true rfl) (Or.inl rfl) rfl rfl (by decide) (by decide) (fun y1 M2 e3 hI4 => ?_)
  exact V_ret (fun _ => hI4) (Or.inr (Or.inl ⟨rfl, _, rfl⟩)) dX3_costAt_8 (fun ty x h1 h2 => by cases h1; rfl) rfl
def fX3_greaterCosts_5 : Nat → vM → Nat → Nat → Int32 → Int32 → Int32 → Option (vR × vM)
  | 0, _, _, _, _, _, _ => none
  | n9 + 1, M, x0, x1, x2, x3, x4 => if (M.1 x0 4) ≤ x4 then rI x3 M else if ((x2 >>> (x4 &&& (31 : Int32))) &&& 1) = 0 then fX3_greaterCosts_5 n9 M x0 x1 x2 x3 (x4 + 1) else bi (fX3_costAt M x0 x4) fun y5 M6 => bi (fX3_costAt M6 x1 x4) fun y9 M10 => fX3_greaterCosts_5 n9 M10 x0 x1 x2 (x3 + (if y5 < y9 then y9 else y5)) (x4 + 1)
set_option maxRecDepth 20000 in
set_option maxHeartbeats 2000000 in
theorem vX3_greaterCosts_5 {l : Launch} {D : va_G} {dA : Nat → ClassId} : ∀ (n9 : Nat) (M : vM) (x0 : Nat) (x1 : Nat) (x2 : Int32) (x3 : Int32) (x4 : Int32) (f0 : v_isP x0) (f1 : v_isP x1), v_WT M.2.2 → V l D dA sX3_greaterCosts false 175 3 0 0 5 [(0, .ref x0), (1, .ref x1), (2, .int x2), (3, .int x3), (4, .int x4)] [] 175 M (fX3_greaterCosts_5 n9 M x0 x1 x2 x3 x4) := by
  intro n9
  induction n9 with
  | zero => intros; exact V_none
  | succ n9 ih =>
    intro M x0 x1 x2 x3 x4 f0 f1 hI
    refine V_iload (k := 4) dX3_greaterCosts_5 rfl ?_
    refine V_aload_n (k := 0) dX3_greaterCosts_7 rfl rfl ?_
    refine V_geti dX3_greaterCosts_8 (v_LP f0).2.1 (v_LP f0).1 vf_X3_40 (by decide) ?_
    refine V_icmpge (tgt := 47) dX3_greaterCosts_11 (by decide) (fun h3 => ?_) (fun h3 => ?_)
    · refine V_iload_n (k := 3) dX3_greaterCosts_47 rfl rfl ?_
      exact V_ret (fun _ => hI) (Or.inr (Or.inl ⟨rfl, _, rfl⟩)) dX3_greaterCosts_48 (fun ty x h1 h2 => by cases h1; rfl) rfl
    · refine V_iload_n (k := 2) dX3_greaterCosts_14 rfl rfl ?_
      refine V_iload (k := 4) dX3_greaterCosts_15 rfl ?_
      refine V_ishr dX3_greaterCosts_17 ?_
      refine V_iconst (v := 1) dX3_greaterCosts_18 rfl ?_
      refine V_iand dX3_greaterCosts_19 ?_
      refine V_ifeq (tgt := 41) dX3_greaterCosts_20 (by decide) (fun h4 => ?_) (fun h4 => ?_)
      · refine V_iinc (k := 4) (v := x4 + 1) (lv' := [(4, .int (x4 + 1)), (0, .ref x0), (1, .ref x1), (2, .int x2), (3, .int x3)]) dX3_greaterCosts_41 rfl rfl (by decide) rfl ?_
        refine V_goto (tgt := 5) dX3_greaterCosts_44 (by decide) ?_
        refine V_sub [1, 2, 3, 4, 0] rfl ?_
        exact ih M x0 x1 x2 x3 (x4 + 1) f0 f1 hI
      · refine V_iload_n (k := 3) dX3_greaterCosts_23 rfl rfl ?_
        refine V_aload_n (k := 0) dX3_greaterCosts_24 rfl rfl ?_
        refine V_iload (k := 4) dX3_greaterCosts_25 rfl ?_
        refine V_callVi (q := (RX3, TX3, 12)) (cls := 3) (st0 := [.int x3]) (kc' := 0) (ks' := 0) dX3_greaterCosts_27 lk_X3_69 rfl (v_LP f0).1 (v_LP f0).2.1 rfl rfl (cX3_costAt_ok M x0 x4 f0 hI) rfl rfl (by decide) (by decide) (Nat.le_of_ble_eq_true rfl) (Or.inl rfl) rfl rfl (by decide) (by decide) (fun y5 M6 e7 hI8 => ?_)
        refine V_aload_n (k := 1) dX3_greaterCosts_30 rfl rfl ?_
        refine V_iload (k := 4) dX3_greaterCosts_31 rfl ?_
        refine V_callVi (q := (RX3, TX3, 12)) (cls := 3) (st0 := [.int y5, .int x3]) (kc' := 0) (ks' := 0) dX3_greaterCosts_33 lk_X3_69 rfl (v_LP f1).1 (v_LP f1).2.1 rfl rfl (cX3_costAt_ok M6 x1 x4 f1 hI8) rfl rfl (by decide) (by decide) (Nat.le_of_ble_eq_true rfl) (Or.inl rfl) rfl rfl (by decide) (by decide) (fun y9 M10 e11 hI12 => ?_)
        refine V_mmax dX3_greaterCosts_36 gw833 gw834 gw101 gw835 (by decide) (Nat.le_of_ble_eq_true rfl) ?_
        refine V_iadd dX3_greaterCosts_39 ?_
        refine V_istore_n (lv' := [(3, .int (x3 + (if y5 < y9 then y9 else y5))), (0, .ref x0), (1, .ref x1), (2, .int x2), (4, .int x4)]) dX3_greaterCosts_40 rfl (by decide) rfl ?_
        refine V_iinc (k := 4) (v := x4 + 1) (lv' := [(4, .int (x4 + 1)), (3, .int (x3 + (if y5 < y9 then y9 else y5))), (0, .ref x0), (1, .ref x1), (2, .int x2)]) dX3_greaterCosts_41 rfl rfl (by decide) rfl ?_
        refine V_goto (tgt := 5) dX3_greaterCosts_44 (by decide) ?_
        refine V_sub [2, 3, 4, 1, 0] rfl ?_
        exact ih M10 x0 x1 x2 (x3 + (if y5 < y9 then y9 else y5)) (x4 + 1) f0 f1 hI12
def fX3_greaterCosts (M : vM) (x0 : Nat) (x1 : Nat) (x2 : Int32) : Option (vR × vM) := fX3_greaterCosts_5 FU M x0 x1 x2 0 0
set_option maxRecDepth 20000 in
set_option maxHeartbeats 2000000 in
theorem cX3_greaterCosts_ok {l : Launch} {D : va_G} {dA : Nat → ClassId} (M : vM) (x0 : Nat) (x1 : Nat) (x2 : Int32) (f0 : v_isP x0) (f1 : v_isP x1) (hI : v_WT M.2.2) : Ct l D dA sX3_greaterCosts false 175 3 0 0 175 [.ref x0, .ref x1, .int x2] M (fX3_greaterCosts M x0 x1 x2) := by
  refine Ct_of (lv := [(0, .ref x0), (1, .ref x1), (2, .int x2)]) (by decide +kernel) rfl (Nat.le_of_ble_eq_true rfl) rfl (fun h => by cases h) ?_
  refine V_iconst (v := 0) dX3_greaterCosts_0 rfl ?_
  refine V_istore_n (lv' := [(3, .int 0), (0, .ref x0), (1, .ref x1), (2, .int x2)]) dX3_greaterCosts_1 rfl (by decide) rfl ?_
  refine V_iconst (v := 0) dX3_greaterCosts_2 rfl ?_
  refine V_istore (lv' := [(4, .int 0), (3, .int 0), (0, .ref x0), (1, .ref x1), (2, .int x2)]) dX3_greaterCosts_3 (by decide) rfl ?_
  refine V_sub [2, 3, 4, 1, 0] rfl ?_
  exact vX3_greaterCosts_5 FU M x0 x1 x2 0 0 f0 f1 hI
def fX9_cheapestShared_74 (k79 : vM → Nat → Nat → Int32 → Int32 → Int32 → Int32 → Int32 → Int32 → Option (vR × vM)) (M : vM) (x0 : Nat) (x1 : Nat) (x2 : Int32) (x3 : Int32) (x4 : Int32) (x5 : Int32) (x6 : Int32) : Option (vR × vM) := k79 M x0 x1 x2 x3 x4 x5 x6 1
set_option maxRecDepth 20000 in
set_option maxHeartbeats 2000000 in
theorem vX9_cheapestShared_74 {l : Launch} {D : va_G} {dA : Nat → ClassId} {k79 : vM → Nat → Nat → Int32 → Int32 → Int32 → Int32 → Int32 → Int32 → Option (vR × vM)} (hk79 : ∀ (M : vM) (x0 : Nat) (x1 : Nat) (x2 : Int32) (x3 : Int32) (x4 : Int32) (x5 : Int32) (x6 : Int32) (s0 : Int32) (f0 : v_isW x0) (f1 : v_isW x1), v_WT M.2.2 → V l D dA sX9_cheapestShared false 175 4 0 0 79 [(0, .ref x0), (1, .ref x1), (2, .int x2), (3, .int x3), (4, .int x4), (5, .int x5), (6, .int x6)] [.int s0] 175 M (k79 M x0 x1 x2 x3 x4 x5 x6 s0)) : ∀ (M : vM) (x0 : Nat) (x1 : Nat) (x2 : Int32) (x3 : Int32) (x4 : Int32) (x5 : Int32) (x6 : Int32) (f0 : v_isW x0) (f1 : v_isW x1), v_WT M.2.2 → V l D dA sX9_cheapestShared false 175 4 0 0 74 [(0, .ref x0), (1, .ref x1), (2, .int x2), (3, .int x3), (4, .int x4), (5, .int x5), (6, .int x6)] [] 175 M (fX9_cheapestShared_74 k79 M x0 x1 x2 x3 x4 x5 x6) := by
  intro M x0 x1 x2 x3 x4 x5 x6 f0 f1 hI
  refine V_iconst (v := 1) dX9_cheapestShared_74 rfl ?_
  refine V_goto (tgt := 79) dX9_cheapestShared_75 (by decide) ?_
  refine V_sub [0, 1, 2, 3, 4, 5, 6] rfl ?_
  exact hk79 M x0 x1 x2 x3 x4 x5 x6 1 f0 f1 hI
def fX9_cheapestShared_78 (k79 : vM → Nat → Nat → Int32 → Int32 → Int32 → Int32 → Int32 → Int32 → Option (vR × vM)) (M : vM) (x0 : Nat) (x1 : Nat) (x2 : Int32) (x3 : Int32) (x4 : Int32) (x5 : Int32) (x6 : Int32) : Option (vR × vM) := k79 M x0 x1 x2 x3 x4 x5 x6 0
set_option maxRecDepth 20000 in
set_option maxHeartbeats 2000000 in
theorem vX9_cheapestShared_78 {l : Launch} {D : va_G} {dA : Nat → ClassId} {k79 : vM → Nat → Nat → Int32 → Int32 → Int32 → Int32 → Int32 → Int32 → Option (vR × vM)} (hk79 : ∀ (M : vM) (x0 : Nat) (x1 : Nat) (x2 : Int32) (x3 : Int32) (x4 : Int32) (x5 : Int32) (x6 : Int32) (s0 : Int32) (f0 : v_isW x0) (f1 : v_isW x1), v_WT M.2.2 → V l D dA sX9_cheapestShared false 175 4 0 0 79 [(0, .ref x0), (1, .ref x1), (2, .int x2), (3, .int x3), (4, .int x4), (5, .int x5), (6, .int x6)] [.int s0] 175 M (k79 M x0 x1 x2 x3 x4 x5 x6 s0)) : ∀ (M : vM) (x0 : Nat) (x1 : Nat) (x2 : Int32) (x3 : Int32) (x4 : Int32) (x5 : Int32) (x6 : Int32) (f0 : v_isW x0) (f1 : v_isW x1), v_WT M.2.2 → V l D dA sX9_cheapestShared false 175 4 0 0 78 [(0, .ref x0), (1, .ref x1), (2, .int x2), (3, .int x3), (4, .int x4), (5, .int x5), (6, .int x6)] [] 175 M (fX9_cheapestShared_78 k79 M x0 x1 x2 x3 x4 x5 x6) := by
  intro M x0 x1 x2 x3 x4 x5 x6 f0 f1 hI
  refine V_iconst (v := 0) dX9_cheapestShared_78 rfl ?_
  refine V_sub [0, 1, 2, 3, 4, 5, 6] rfl ?_
  exact hk79 M x0 x1 x2 x3 x4 x5 x6 0 f0 f1 hI
def fX9_cheapestShared_79 (k7 : vM → Nat → Nat → Int32 → Int32 → Int32 → Option (vR × vM)) (M : vM) (x0 : Nat) (x1 : Nat) (x2 : Int32) (x3 : Int32) (x4 : Int32) (x5 : Int32) (x6 : Int32) (s0 : Int32) : Option (vR × vM) := if s0 = 0 then k7 M x0 x1 x2 x3 (x4 + 1) else bi (fX9_withMark M x1 x5) fun y10 M11 => bi (fX9_isSpent M11 x1 y10) fun y14 M15 => if y14 = 0 then k7 M15 x0 x1 x5 x6 (x4 + 1) else k7 M15 x0 x1 x2 x3 (x4 + 1)
set_option maxRecDepth 20000 in
set_option maxHeartbeats 2000000 in
theorem vX9_cheapestShared_79 {l : Launch} {D : va_G} {dA : Nat → ClassId} {k7 : vM → Nat → Nat → Int32 → Int32 → Int32 → Option (vR × vM)} (hk7 : ∀ (M : vM) (x0 : Nat) (x1 : Nat) (x2 : Int32) (x3 : Int32) (x4 : Int32) (f0 : v_isW x0) (f1 : v_isW x1), v_WT M.2.2 → V l D dA sX9_cheapestShared false 175 4 0 0 7 [(0, .ref x0), (1, .ref x1), (2, .int x2), (3, .int x3), (4, .int x4)] [] 175 M (k7 M x0 x1 x2 x3 x4)) : ∀ (M : vM) (x0 : Nat) (x1 : Nat) (x2 : Int32) (x3 : Int32) (x4 : Int32) (x5 : Int32) (x6 : Int32) (s0 : Int32) (f0 : v_isW x0) (f1 : v_isW x1), v_WT M.2.2 → V l D dA sX9_cheapestShared false 175 4 0 0 79 [(0, .ref x0), (1, .ref x1), (2, .int x2), (3, .int x3), (4, .int x4), (5, .int x5), (6, .int x6)] [.int s0] 175 M (fX9_cheapestShared_79 k7 M x0 x1 x2 x3 x4 x5 x6 s0) := by
  intro M x0 x1 x2 x3 x4 x5 x6 s0 f0 f1 hI
  refine V_istore (lv' := [(7, .int s0), (0, .ref x0), (1, .ref x1), (2, .int x2), (3, .int x3), (4, .int x4), (5, .int x5), (6, .int x6)]) dX9_cheapestShared_79 (by decide) rfl ?_
  refine V_iload (k := 0) dX9_cheapestShared_81 rfl ?_
  refine V_ifeq (tgt := 105) dX9_cheapestShared_83 (by decide) (fun h9 => ?_) (fun h9 => ?_)
  · refine V_iinc (k := 5) (v := x4 + 1) (lv' := [(4, .int (x4 + 1)), (7, .int s0), (0, .ref x0), (1, .ref x1), (2, .int x2), (3, .int x3), (5, .int x5), (6, .int x6)]) dX9_cheapestShared_105 rfl rfl (by decide) rfl ?_
    refine V_goto (tgt := 7) dX9_cheapestShared_108 (by decide) ?_
    refine V_sub [2, 3, 4, 5, 0] rfl ?_
    exact hk7 M x0 x1 x2 x3 (x4 + 1) f0 f1 hI
  · refine V_aload_n (k := 2) dX9_cheapestShared_86 rfl rfl ?_
    refine V_aload_n (k := 2) dX9_cheapestShared_87 rfl rfl ?_
    refine V_iload (k := 6) dX9_cheapestShared_88 rfl ?_
    refine V_callVi (q := (RX9, TX9, 6)) (cls := 9) (st0 := [.ref x1]) (kc' := 0) (ks' := 0) dX9_cheapestShared_90 lk_X9_128 rfl (v_LW f1).1 (v_LW f1).2.1 rfl rfl (cX9_withMark_ok M x1 x5 f1 hI) rfl rfl (by decide) (by decide) (Nat.le_of_ble_eq_true rfl) (Or.inl rfl) rfl rfl (by decide) (by decide) (fun y10 M11 e12 hI13 => ?_)
    refine V_callVi (q := (RX9, TX9, 6)) (cls := 9) (st0 := []) (kc' := 0) (ks' := 0) dX9_cheapestShared_93 lk_X9_101 rfl (v_LW f1).1 (v_LW f1).2.1 rfl rfl (cX9_isSpent_ok M11 x1 y10 f1 hI13) rfl rfl (by decide) (by decide) (Nat.le_of_ble_eq_true rfl) (Or.inl rfl) rfl rfl (by decide) (by decide) (fun y14 M15 e16 hI17 => ?_)
    refine V_ifne (tgt := 105) dX9_cheapestShared_96 (by decide) (fun h18 => ?_) (fun h18 => ?_)
    · refine V_iinc (k := 5) (v := x4 + 1) (lv' := [(4, .int (x4 + 1)), (7, .int s0), (0, .ref x0), (1, .ref x1), (2, .int x2), (3, .int x3), (5, .int x5), (6, .int x6)]) dX9_cheapestShared_105 rfl rfl (by decide) rfl ?_
      refine V_goto (tgt := 7) dX9_cheapestShared_108 (by decide) ?_
      refine V_sub [2, 3, 4, 5, 0] rfl ?_
      exact hk7 M15 x0 x1 x2 x3 (x4 + 1) f0 f1 hI17
    · refine V_iload (k := 6) dX9_cheapestShared_99 rfl ?_
      refine V_istore_n (lv' := [(2, .int x5), (7, .int s0), (0, .ref x0), (1, .ref x1), (3, .int x3), (4, .int x4), (5, .int x5), (6, .int x6)]) dX9_cheapestShared_101 rfl (by decide) rfl ?_
      refine V_iload (k := 7) dX9_cheapestShared_102 rfl ?_
      refine V_istore_n (lv' := [(3, .int x6), (2, .int x5), (7, .int s0), (0, .ref x0), (1, .ref x1), (4, .int x4), (5, .int x5), (6, .int x6)]) dX9_cheapestShared_104 rfl (by decide) rfl ?_
      refine V_iinc (k := 5) (v := x4 + 1) (lv' := [(4, .int (x4 + 1)), (3, .int x6), (2, .int x5), (7, .int s0), (0, .ref x0), (1, .ref x1), (5, .int x5), (6, .int x6)]) dX9_cheapestShared_105 rfl rfl (by decide) rfl ?_
      refine V_goto (tgt := 7) dX9_cheapestShared_108 (by decide) ?_
      refine V_sub [4, 5, 2, 1, 0] rfl ?_
      exact hk7 M15 x0 x1 x5 x6 (x4 + 1) f0 f1 hI17
def fX9_cheapestShared_7 : Nat → vM → Nat → Nat → Int32 → Int32 → Int32 → Option (vR × vM)
  | 0, _, _, _, _, _, _ => none
  | n9 + 1, M, x0, x1, x2, x3, x4 => if (M.1 x0 1) ≤ x4 then rI x2 M else bi (fX9_isSpent M x0 x4) fun y20 M21 => if y20 = 0 then bi (fX9_markOf M21 x0 x4) fun y25 M26 => bi (fX3_greaterCosts M26 (M26.2.2 x0 0 - 1) (M26.2.2 x1 0 - 1) y25) fun y29 M30 => if x2 = ((-1)) then fX9_cheapestShared_74 (fX9_cheapestShared_79 (fX9_cheapestShared_7 n9)) M30 x0 x1 x2 x3 x4 y25 y29 else if y29 < x3 then fX9_cheapestShared_74 (fX9_cheapestShared_79 (fX9_cheapestShared_7 n9)) M30 x0 x1 x2 x3 x4 y25 y29 else if y29 = x3 then if x2 ≤ y25 then fX9_cheapestShared_78 (fX9_cheapestShared_79 (fX9_cheapestShared_7 n9)) M30 x0 x1 x2 x3 x4 y25 y29 else fX9_cheapestShared_74 (fX9_cheapestShared_79 (fX9_cheapestShared_7 n9)) M30 x0 x1 x2 x3 x4 y25 y29 else fX9_cheapestShared_78 (fX9_cheapestShared_79 (fX9_cheapestShared_7 n9)) M30 x0 x1 x2 x3 x4 y25 y29 else fX9_cheapestShared_7 n9 M21 x0 x1 x2 x3 (x4 + 1)
set_option maxRecDepth 20000 in
set_option maxHeartbeats 2000000 in
theorem vX9_cheapestShared_7 {l : Launch} {D : va_G} {dA : Nat → ClassId} : ∀ (n9 : Nat) (M : vM) (x0 : Nat) (x1 : Nat) (x2 : Int32) (x3 : Int32) (x4 : Int32) (f0 : v_isW x0) (f1 : v_isW x1), v_WT M.2.2 → V l D dA sX9_cheapestShared false 175 4 0 0 7 [(0, .ref x0), (1, .ref x1), (2, .int x2), (3, .int x3), (4, .int x4)] [] 175 M (fX9_cheapestShared_7 n9 M x0 x1 x2 x3 x4) := by
  intro n9
  induction n9 with
  | zero => intros; exact V_none
  | succ n9 ih =>
    intro M x0 x1 x2 x3 x4 f0 f1 hI
    refine V_iload (k := 4) dX9_cheapestShared_7 rfl ?_
    refine V_aload_n (k := 0) dX9_cheapestShared_9 rfl rfl ?_
    refine V_geti dX9_cheapestShared_10 (v_LW f0).2.1 (v_LW f0).1 vf_X9_23 (by decide) ?_
    refine V_icmpge (tgt := 111) dX9_cheapestShared_13 (by decide) (fun h19 => ?_) (fun h19 => ?_)
    · refine V_iload_n (k := 2) dX9_cheapestShared_111 rfl rfl ?_
      exact V_ret (fun _ => hI) (Or.inr (Or.inl ⟨rfl, _, rfl⟩)) dX9_cheapestShared_112 (fun ty x h1 h2 => by cases h1; rfl) rfl
    · refine V_aload_n (k := 0) dX9_cheapestShared_16 rfl rfl ?_
      refine V_iload (k := 4) dX9_cheapestShared_17 rfl ?_
      refine V_callVi (q := (RX9, TX9, 6)) (cls := 9) (st0 := []) (kc' := 0) (ks' := 0) dX9_cheapestShared_19 lk_X9_101 rfl (v_LW f0).1 (v_LW f0).2.1 rfl rfl (cX9_isSpent_ok M x0 x4 f0 hI) rfl rfl (by decide) (by decide) (Nat.le_of_ble_eq_true rfl) (Or.inl rfl) rfl rfl (by decide) (by decide) (fun y20 M21 e22 hI23 => ?_)
      refine V_ifeq (tgt := 28) dX9_cheapestShared_22 (by decide) (fun h24 => ?_) (fun h24 => ?_)
      · refine V_aload_n (k := 0) dX9_cheapestShared_28 rfl rfl ?_
        refine V_iload (k := 4) dX9_cheapestShared_29 rfl ?_
        refine V_callVi (q := (RX9, TX9, 6)) (cls := 9) (st0 := []) (kc' := 0) (ks' := 0) dX9_cheapestShared_31 lk_X9_98 rfl (v_LW f0).1 (v_LW f0).2.1 rfl rfl (cX9_markOf_ok M21 x0 x4 f0 hI23) rfl rfl (by decide) (by decide) (Nat.le_of_ble_eq_true rfl) (Or.inl rfl) rfl rfl (by decide) (by decide) (fun y25 M26 e27 hI28 => ?_)
        refine V_istore (lv' := [(5, .int y25), (0, .ref x0), (1, .ref x1), (2, .int x2), (3, .int x3), (4, .int x4)]) dX9_cheapestShared_34 (by decide) rfl ?_
        refine V_aload_n (k := 1) dX9_cheapestShared_36 rfl rfl ?_
        refine V_getr (k := M26.2.2 x0 0 - 1) dX9_cheapestShared_37 (v_LW f0).2.1 (v_LW f0).1 vf_X9_19 (by decide) (v_pln hI28 f0) ?_
        refine V_aload_n (k := 2) dX9_cheapestShared_40 rfl rfl ?_
        refine V_getr (k := M26.2.2 x1 0 - 1) dX9_cheapestShared_41 (v_LW f1).2.1 (v_LW f1).1 vf_X9_19 (by decide) (v_pln hI28 f1) ?_
        refine V_iload (k := 0) dX9_cheapestShared_44 rfl ?_
        refine V_callVi (q := (RX3, TX3, 12)) (cls := 3) (st0 := []) (kc' := 0) (ks' := 0) dX9_cheapestShared_46 lk_X9_79 rfl (v_LP (v_plnP hI28 f0)).1 (v_LP (v_plnP hI28 f0)).2.1 rfl rfl (cX3_greaterCosts_ok M26 (M26.2.2 x0 0 - 1) (M26.2.2 x1 0 - 1) y25 (v_plnP hI28 f0) (v_plnP hI28 f1) hI28) rfl rfl (by decide) (by decide) (Nat.le_of_ble_eq_true rfl) (Or.inl rfl) rfl rfl (by decide) (by decide) (fun y29 M30 e31 hI32 => ?_)
        refine V_istore (lv' := [(6, .int y29), (5, .int y25), (0, .ref x0), (1, .ref x1), (2, .int x2), (3, .int x3), (4, .int x4)]) dX9_cheapestShared_49 (by decide) rfl ?_
        refine V_iload_n (k := 4) dX9_cheapestShared_51 rfl rfl ?_
        refine V_iconst (v := (-1)) dX9_cheapestShared_52 rfl ?_
        refine V_icmpeq (tgt := 74) dX9_cheapestShared_53 (by decide) (fun h33 => ?_) (fun h33 => ?_)
        · refine V_sub [2, 3, 4, 5, 6, 1, 0] rfl ?_
          exact vX9_cheapestShared_74 (vX9_cheapestShared_79 (ih)) M30 x0 x1 x2 x3 x4 y25 y29 f0 f1 hI32
        · refine V_iload (k := 0) dX9_cheapestShared_56 rfl ?_
          refine V_iload_n (k := 5) dX9_cheapestShared_58 rfl rfl ?_
          refine V_icmplt (tgt := 74) dX9_cheapestShared_59 (by decide) (fun h34 => ?_) (fun h34 => ?_)
          · refine V_sub [2, 3, 4, 5, 6, 1, 0] rfl ?_
            exact vX9_cheapestShared_74 (vX9_cheapestShared_79 (ih)) M30 x0 x1 x2 x3 x4 y25 y29 f0 f1 hI32
          · refine V_iload (k := 0) dX9_cheapestShared_62 rfl ?_
            refine V_iload_n (k := 5) dX9_cheapestShared_64 rfl rfl ?_
            refine V_icmpne (tgt := 78) dX9_cheapestShared_65 (by decide) (fun h35 => ?_) (fun h35 => ?_)
            · refine V_sub [2, 3, 4, 5, 6, 1, 0] rfl ?_
              exact vX9_cheapestShared_78 (vX9_cheapestShared_79 (ih)) M30 x0 x1 x2 x3 x4 y25 y29 f0 f1 hI32
            · refine V_iload (k := 1) dX9_cheapestShared_68 rfl ?_
              refine V_iload_n (k := 4) dX9_cheapestShared_70 rfl rfl ?_
              refine V_icmpge (tgt := 78) dX9_cheapestShared_71 (by decide) (fun h36 => ?_) (fun h36 => ?_)
              · refine V_sub [2, 3, 4, 5, 6, 1, 0] rfl ?_
                exact vX9_cheapestShared_78 (vX9_cheapestShared_79 (ih)) M30 x0 x1 x2 x3 x4 y25 y29 f0 f1 hI32
              · refine V_sub [2, 3, 4, 5, 6, 1, 0] rfl ?_
                exact vX9_cheapestShared_74 (vX9_cheapestShared_79 (ih)) M30 x0 x1 x2 x3 x4 y25 y29 f0 f1 hI32
      · refine V_goto (tgt := 105) dX9_cheapestShared_25 (by decide) ?_
        refine V_iinc (k := 4) (v := x4 + 1) (lv' := [(4, .int (x4 + 1)), (0, .ref x0), (1, .ref x1), (2, .int x2), (3, .int x3)]) dX9_cheapestShared_105 rfl rfl (by decide) rfl ?_
        refine V_goto (tgt := 7) dX9_cheapestShared_108 (by decide) ?_
        refine V_sub [1, 2, 3, 4, 0] rfl ?_
        exact ih M21 x0 x1 x2 x3 (x4 + 1) f0 f1 hI23
def fX9_cheapestShared (M : vM) (x0 : Nat) (x1 : Nat) : Option (vR × vM) := fX9_cheapestShared_7 FU M x0 x1 ((-1)) 0 0
set_option maxRecDepth 20000 in
set_option maxHeartbeats 2000000 in
theorem cX9_cheapestShared_ok {l : Launch} {D : va_G} {dA : Nat → ClassId} (M : vM) (x0 : Nat) (x1 : Nat) (f0 : v_isW x0) (f1 : v_isW x1) (hI : v_WT M.2.2) : Ct l D dA sX9_cheapestShared false 175 4 0 0 175 [.ref x0, .ref x1] M (fX9_cheapestShared M x0 x1) := by
  refine Ct_of (lv := [(0, .ref x0), (1, .ref x1)]) (by decide +kernel) rfl (Nat.le_of_ble_eq_true rfl) rfl (fun h => by cases h) ?_
  refine V_iconst (v := (-1)) dX9_cheapestShared_0 rfl ?_
  refine V_istore_n (lv' := [(2, .int ((-1))), (0, .ref x0), (1, .ref x1)]) dX9_cheapestShared_1 rfl (by decide) rfl ?_
  refine V_iconst (v := 0) dX9_cheapestShared_2 rfl ?_
  refine V_istore_n (lv' := [(3, .int 0), (2, .int ((-1))), (0, .ref x0), (1, .ref x1)]) dX9_cheapestShared_3 rfl (by decide) rfl ?_
  refine V_iconst (v := 0) dX9_cheapestShared_4 rfl ?_
  refine V_istore (lv' := [(4, .int 0), (3, .int 0), (2, .int ((-1))), (0, .ref x0), (1, .ref x1)]) dX9_cheapestShared_5 (by decide) rfl ?_
  refine V_sub [3, 4, 2, 1, 0] rfl ?_
  exact vX9_cheapestShared_7 FU M x0 x1 ((-1)) 0 0 f0 f1 hI
def fX10_joint (M : vM) (x1 : Int32) (x2 : Int32) (x3 : Int32) : Option (vR × vM) := br (fX10_workOf M x1) fun y8 M9 => br (fX10_workOf M9 x2) fun y12 M13 => bv (fX10_refuseUnlessWhat M13 x3 3) fun M16 => if x1 = x2 then rT 1 M16 else if (M16.1 (M16.2.2 y8 0 - 1) 0) = 1 then if (M16.1 (M16.2.2 y12 0 - 1) 0) = 1 then bi (fX9_cheapestShared M16 y8 y12) fun y22 M23 => if y22 = ((-1)) then if x3 = 2 then rI 0 M23 else rI ((-1)) M23 else bi (fX3_greaterCosts M23 (M23.2.2 y8 0 - 1) (M23.2.2 y12 0 - 1) y22) fun y27 M28 => if x3 = 0 then rI y22 M28 else if x3 = 1 then rI y27 M28 else bi (fX9_nextUnspent M28 y8 0) fun y33 M34 => bi (fX9_costOf M34 y8 y33) fun y37 M38 => bi (fX9_nextUnspent M38 y12 0) fun y41 M42 => bi (fX9_costOf M42 y12 y41) fun y45 M46 => rI ((y37 + y45) - y27) M46 else rT 1 M16 else rT 1 M16
set_option maxRecDepth 20000 in
set_option maxHeartbeats 2000000 in
theorem cX10_joint_ok {l : Launch} {D : va_G} {dA : Nat → ClassId} (hT : l.stackTraces = false) (M : vM) (x1 : Int32) (x2 : Int32) (x3 : Int32) (hI : v_WT M.2.2) : Ct l D dA sX10_joint false 175 7 4 24 175 [.ref 0, .int x1, .int x2, .int x3] M (fX10_joint M x1 x2 x3) := by
  refine Ct_of (lv := [(0, .ref 0), (1, .int x1), (2, .int x2), (3, .int x3)]) (by decide +kernel) rfl (Nat.le_of_ble_eq_true rfl) rfl (fun h => by cases h) ?_
  refine V_aload_n (k := 0) dX10_joint_0 rfl rfl ?_
  refine V_iload_n (k := 1) dX10_joint_1 rfl rfl ?_
  refine V_callVr (q := (RX10, TX10, 15)) (cls := 10) (st0 := []) (kc' := 3) (ks' := 18) dX10_joint_2 lk_X10_158 rfl (by decide) rfl rfl rfl (cX10_workOf_ok hT M x1 hI) rfl rfl (by decide) (by decide) (Nat.le_of_ble_eq_true rfl) (Or.inl rfl) rfl rfl (by decide) (by decide) (fun y8 M9 e10 hI11 => ?_)
  have wy8 := wX10_workOf_ret e10
  refine V_astore (lv' := [(4, .ref y8), (0, .ref 0), (1, .int x1), (2, .int x2), (3, .int x3)]) dX10_joint_5 (by decide) rfl ?_
  refine V_aload_n (k := 1) dX10_joint_7 rfl rfl ?_
  refine V_iload_n (k := 3) dX10_joint_8 rfl rfl ?_
  refine V_callVr (q := (RX10, TX10, 15)) (cls := 10) (st0 := []) (kc' := 2) (ks' := 12) dX10_joint_9 lk_X10_158 rfl (by decide) rfl rfl rfl (cX10_workOf_ok hT M9 x2 hI11) rfl rfl (by decide) (by decide) (Nat.le_of_ble_eq_true rfl) (Or.inl rfl) rfl rfl (by decide) (by decide) (fun y12 M13 e14 hI15 => ?_)
  have wy12 := wX10_workOf_ret e14
  refine V_astore (lv' := [(5, .ref y12), (4, .ref y8), (0, .ref 0), (1, .int x1), (2, .int x2), (3, .int x3)]) dX10_joint_12 (by decide) rfl ?_
  refine V_iload_n (k := 5) dX10_joint_14 rfl rfl ?_
  refine V_iconst (v := 3) dX10_joint_15 rfl ?_
  refine V_callSv (st0 := []) (kc' := 1) (ks' := 6) dX10_joint_16 lk_X10_212 rfl (cX10_refuseUnlessWhat_ok hT M13 x3 3 hI15) rfl rfl (by decide) (by decide) (Nat.le_of_ble_eq_true rfl) (Or.inl rfl) rfl rfl (by decide) (by decide) (fun  M16 e17 hI18 => ?_)
  refine V_iload_n (k := 3) dX10_joint_19 rfl rfl ?_
  refine V_iload_n (k := 4) dX10_joint_20 rfl rfl ?_
  refine V_icmpeq (tgt := 48) dX10_joint_21 (by decide) (fun h19 => ?_) (fun h19 => ?_)
  · exact V_throwNW (sid := 20) (text := "not two sets") (fun _ => hI18) hT rfl (by decide +kernel) dX10_joint_48 dX10_joint_51 dX10_joint_52 dX10_joint_55 dX10_joint_58 rfl (by decide) (by decide) (by decide) (Nat.le_of_ble_eq_true rfl)
  · refine V_aload (k := 1) dX10_joint_24 rfl ?_
    refine V_getr (k := M16.2.2 y8 0 - 1) dX10_joint_26 (v_LW wy8).2.1 (v_LW wy8).1 vf_X10_132 (by decide) (v_pln hI18 wy8) ?_
    refine V_geti dX10_joint_29 (v_LP (v_plnP hI18 wy8)).2.1 (v_LP (v_plnP hI18 wy8)).1 vf_X10_162 (by decide) ?_
    refine V_iconst (v := 1) dX10_joint_32 rfl ?_
    refine V_icmpne (tgt := 48) dX10_joint_33 (by decide) (fun h20 => ?_) (fun h20 => ?_)
    · exact V_throwNW (sid := 20) (text := "not two sets") (fun _ => hI18) hT rfl (by decide +kernel) dX10_joint_48 dX10_joint_51 dX10_joint_52 dX10_joint_55 dX10_joint_58 rfl (by decide) (by decide) (by decide) (Nat.le_of_ble_eq_true rfl)
    · refine V_aload (k := 0) dX10_joint_36 rfl ?_
      refine V_getr (k := M16.2.2 y12 0 - 1) dX10_joint_38 (v_LW wy12).2.1 (v_LW wy12).1 vf_X10_132 (by decide) (v_pln hI18 wy12) ?_
      refine V_geti dX10_joint_41 (v_LP (v_plnP hI18 wy12)).2.1 (v_LP (v_plnP hI18 wy12)).1 vf_X10_162 (by decide) ?_
      refine V_iconst (v := 1) dX10_joint_44 rfl ?_
      refine V_icmpeq (tgt := 59) dX10_joint_45 (by decide) (fun h21 => ?_) (fun h21 => ?_)
      · refine V_aload (k := 1) dX10_joint_59 rfl ?_
        refine V_aload (k := 0) dX10_joint_61 rfl ?_
        refine V_callVi (q := (RX9, TX9, 6)) (cls := 9) (st0 := []) (kc' := 1) (ks' := 6) dX10_joint_63 lk_X10_298 rfl (v_LW wy8).1 (v_LW wy8).2.1 rfl rfl (cX9_cheapestShared_ok M16 y8 y12 wy8 wy12 hI18) rfl rfl (by decide) (by decide) (Nat.le_of_ble_eq_true rfl) (Or.inl rfl) rfl rfl (by decide) (by decide) (fun y22 M23 e24 hI25 => ?_)
        refine V_istore (lv' := [(6, .int y22), (5, .ref y12), (4, .ref y8), (0, .ref 0), (1, .int x1), (2, .int x2), (3, .int x3)]) dX10_joint_66 (by decide) rfl ?_
        refine V_iload (k := 0) dX10_joint_68 rfl ?_
        refine V_iconst (v := (-1)) dX10_joint_70 rfl ?_
        refine V_icmpne (tgt := 85) dX10_joint_71 (by decide) (fun h26 => ?_) (fun h26 => ?_)
        · refine V_aload (k := 2) dX10_joint_85 rfl ?_
          refine V_getr (k := M23.2.2 y8 0 - 1) dX10_joint_87 (v_LW wy8).2.1 (v_LW wy8).1 vf_X10_132 (by decide) (v_pln hI25 wy8) ?_
          refine V_aload (k := 1) dX10_joint_90 rfl ?_
          refine V_getr (k := M23.2.2 y12 0 - 1) dX10_joint_92 (v_LW wy12).2.1 (v_LW wy12).1 vf_X10_132 (by decide) (v_pln hI25 wy12) ?_
          refine V_iload (k := 0) dX10_joint_95 rfl ?_
          refine V_callVi (q := (RX3, TX3, 12)) (cls := 3) (st0 := []) (kc' := 1) (ks' := 6) dX10_joint_97 lk_X10_302 rfl (v_LP (v_plnP hI25 wy8)).1 (v_LP (v_plnP hI25 wy8)).2.1 rfl rfl (cX3_greaterCosts_ok M23 (M23.2.2 y8 0 - 1) (M23.2.2 y12 0 - 1) y22 (v_plnP hI25 wy8) (v_plnP hI25 wy12) hI25) rfl rfl (by decide) (by decide) (Nat.le_of_ble_eq_true rfl) (Or.inl rfl) rfl rfl (by decide) (by decide) (fun y27 M28 e29 hI30 => ?_)
          refine V_istore (lv' := [(7, .int y27), (6, .int y22), (5, .ref y12), (4, .ref y8), (0, .ref 0), (1, .int x1), (2, .int x2), (3, .int x3)]) dX10_joint_100 (by decide) rfl ?_
          refine V_iload_n (k := 7) dX10_joint_102 rfl rfl ?_
          refine V_lcase (k := 0) (tgt := 128) dX10_joint_103 (by decide) rfl (by decide) (fun h31 => ?_) (fun h31 => ?_)
          · refine V_iload (k := 1) dX10_joint_128 rfl ?_
            exact V_ret (fun _ => hI30) (Or.inr (Or.inl ⟨rfl, _, rfl⟩)) dX10_joint_130 (fun ty x h1 h2 => by cases h1; rfl) rfl
          refine V_lcase (k := 1) (tgt := 131) dX10_joint_103 (by decide) rfl (by decide) (fun h32 => ?_) (fun h32 => ?_)
          · refine V_iload (k := 0) dX10_joint_131 rfl ?_
            exact V_ret (fun _ => hI30) (Or.inr (Or.inl ⟨rfl, _, rfl⟩)) dX10_joint_133 (fun ty x h1 h2 => by cases h1; rfl) rfl
          refine V_ldef (off := 31) (tgt := 134) dX10_joint_103 (by decide) (by show Op.lookupswitch.offset [(0, 25), (1, 28)] 31 (x3).toInt = 31; rw [lv_osw (a := 0) h31 rfl]; rw [lv_osw (a := 1) h32 rfl]; rfl) (by decide) ?_
          refine V_aload (k := 3) dX10_joint_134 rfl ?_
          refine V_aload (k := 3) dX10_joint_136 rfl ?_
          refine V_iconst (v := 0) dX10_joint_138 rfl ?_
          refine V_callVi (q := (RX9, TX9, 6)) (cls := 9) (st0 := [.ref y8]) (kc' := 1) (ks' := 6) dX10_joint_139 lk_X10_306 rfl (v_LW wy8).1 (v_LW wy8).2.1 rfl rfl (cX9_nextUnspent_ok M28 y8 0 wy8 hI30) rfl rfl (by decide) (by decide) (Nat.le_of_ble_eq_true rfl) (Or.inl rfl) rfl rfl (by decide) (by decide) (fun y33 M34 e35 hI36 => ?_)
          refine V_callVi (q := (RX9, TX9, 6)) (cls := 9) (st0 := []) (kc' := 1) (ks' := 6) dX10_joint_142 lk_X10_196 rfl (v_LW wy8).1 (v_LW wy8).2.1 rfl rfl (cX9_costOf_ok M34 y8 y33 wy8 hI36) rfl rfl (by decide) (by decide) (Nat.le_of_ble_eq_true rfl) (Or.inl rfl) rfl rfl (by decide) (by decide) (fun y37 M38 e39 hI40 => ?_)
          refine V_aload (k := 2) dX10_joint_145 rfl ?_
          refine V_aload (k := 2) dX10_joint_147 rfl ?_
          refine V_iconst (v := 0) dX10_joint_149 rfl ?_
          refine V_callVi (q := (RX9, TX9, 6)) (cls := 9) (st0 := [.ref y12, .int y37]) (kc' := 1) (ks' := 6) dX10_joint_150 lk_X10_306 rfl (v_LW wy12).1 (v_LW wy12).2.1 rfl rfl (cX9_nextUnspent_ok M38 y12 0 wy12 hI40) rfl rfl (by decide) (by decide) (Nat.le_of_ble_eq_true rfl) (Or.inl rfl) rfl rfl (by decide) (by decide) (fun y41 M42 e43 hI44 => ?_)
          refine V_callVi (q := (RX9, TX9, 6)) (cls := 9) (st0 := [.int y37]) (kc' := 1) (ks' := 6) dX10_joint_153 lk_X10_196 rfl (v_LW wy12).1 (v_LW wy12).2.1 rfl rfl (cX9_costOf_ok M42 y12 y41 wy12 hI44) rfl rfl (by decide) (by decide) (Nat.le_of_ble_eq_true rfl) (Or.inl rfl) rfl rfl (by decide) (by decide) (fun y45 M46 e47 hI48 => ?_)
          refine V_iadd dX10_joint_156 ?_
          refine V_iload (k := 0) dX10_joint_157 rfl ?_
          refine V_isub dX10_joint_159 ?_
          exact V_ret (fun _ => hI48) (Or.inr (Or.inl ⟨rfl, _, rfl⟩)) dX10_joint_160 (fun ty x h1 h2 => by cases h1; rfl) rfl
        · refine V_iload_n (k := 6) dX10_joint_74 rfl rfl ?_
          refine V_iconst (v := 2) dX10_joint_75 rfl ?_
          refine V_icmpne (tgt := 83) dX10_joint_76 (by decide) (fun h49 => ?_) (fun h49 => ?_)
          · refine V_iconst (v := (-1)) dX10_joint_83 rfl ?_
            exact V_ret (fun _ => hI25) (Or.inr (Or.inl ⟨rfl, _, rfl⟩)) dX10_joint_84 (fun ty x h1 h2 => by cases h1; rfl) rfl
          · refine V_iconst (v := 0) dX10_joint_79 rfl ?_
            refine V_goto (tgt := 84) dX10_joint_80 (by decide) ?_
            exact V_ret (fun _ => hI25) (Or.inr (Or.inl ⟨rfl, _, rfl⟩)) dX10_joint_84 (fun ty x h1 h2 => by cases h1; rfl) rfl
      · exact V_throwNW (sid := 20) (text := "not two sets") (fun _ => hI18) hT rfl (by decide +kernel) dX10_joint_48 dX10_joint_51 dX10_joint_52 dX10_joint_55 dX10_joint_58 rfl (by decide) (by decide) (by decide) (Nat.le_of_ble_eq_true rfl)
def fX1_toldOf (M : vM) (x0 : Nat) (x1 : Int32) : Option (vR × vM) := bi (fX10_at M (x0 + 3) x1) fun y1 M2 => rI y1 M2
set_option maxRecDepth 20000 in
set_option maxHeartbeats 2000000 in
theorem cX1_toldOf_ok {l : Launch} {D : va_G} {dA : Nat → ClassId} (M : vM) (x0 : Nat) (x1 : Int32) (f0 : v_isG x0) (hI : v_WT M.2.2) : Ct l D dA sX1_toldOf false 175 2 0 0 175 [.ref x0, .int x1] M (fX1_toldOf M x0 x1) := by
  refine Ct_of (lv := [(0, .ref x0), (1, .int x1)]) (by decide +kernel) rfl (Nat.le_of_ble_eq_true rfl) rfl (fun h => by cases h) ?_
  refine V_aload_n (k := 0) dX1_toldOf_0 rfl rfl ?_
  refine V_getr (k := x0 + 3) dX1_toldOf_1 (v_LG f0).2.1 (v_LG f0).1 vf_X1_18 (by decide) (v_finG hI f0).2.2.1 ?_
  refine V_iload_n (k := 1) dX1_toldOf_4 rfl rfl ?_
  refine V_callSi (st0 := []) (kc' := 0) (ks' := 0) dX1_toldOf_5 lk_X1_52 rfl (cX10_at_ok M (x0 + 3) x1 (v_isA_of (v_LG f0).2.2.2.2.2.1 (v_LG f0).2.2.1.2.2.1) hI) rfl rfl (by decide) (by decide) (Nat.le_of_ble_eq_true rfl) (Or.inl rfl) rfl rfl (by decide) (by decide) (fun y1 M2 e3 hI4 => ?_)
  exact V_ret (fun _ => hI4) (Or.inr (Or.inl ⟨rfl, _, rfl⟩)) dX1_toldOf_8 (fun ty x h1 h2 => by cases h1; rfl) rfl
def fX1_toldAt (M : vM) (x0 : Nat) (x1 : Int32) (x2 : Int32) : Option (vR × vM) := bi (fX10_at M (x0 + 4) ((x1 * 100) + x2)) fun y1 M2 => rI y1 M2
set_option maxRecDepth 20000 in
set_option maxHeartbeats 2000000 in
theorem cX1_toldAt_ok {l : Launch} {D : va_G} {dA : Nat → ClassId} (M : vM) (x0 : Nat) (x1 : Int32) (x2 : Int32) (f0 : v_isG x0) (hI : v_WT M.2.2) : Ct l D dA sX1_toldAt false 175 2 0 0 175 [.ref x0, .int x1, .int x2] M (fX1_toldAt M x0 x1 x2) := by
  refine Ct_of (lv := [(0, .ref x0), (1, .int x1), (2, .int x2)]) (by decide +kernel) rfl (Nat.le_of_ble_eq_true rfl) rfl (fun h => by cases h) ?_
  refine V_aload_n (k := 0) dX1_toldAt_0 rfl rfl ?_
  refine V_getr (k := x0 + 4) dX1_toldAt_1 (v_LG f0).2.1 (v_LG f0).1 vf_X1_21 (by decide) (v_finG hI f0).2.2.2.1 ?_
  refine V_iload_n (k := 1) dX1_toldAt_4 rfl rfl ?_
  refine V_bipush (v := 100) dX1_toldAt_5 rfl ?_
  refine V_imul dX1_toldAt_7 ?_
  refine V_iload_n (k := 2) dX1_toldAt_8 rfl rfl ?_
  refine V_iadd dX1_toldAt_9 ?_
  refine V_callSi (st0 := []) (kc' := 0) (ks' := 0) dX1_toldAt_10 lk_X1_52 rfl (cX10_at_ok M (x0 + 4) ((x1 * 100) + x2) (v_isA_of (v_LG f0).2.2.2.2.2.2.1 (v_LG f0).2.2.1.2.2.2.1) hI) rfl rfl (by decide) (by decide) (Nat.le_of_ble_eq_true rfl) (Or.inl rfl) rfl rfl (by decide) (by decide) (fun y1 M2 e3 hI4 => ?_)
  exact V_ret (fun _ => hI4) (Or.inr (Or.inl ⟨rfl, _, rfl⟩)) dX1_toldAt_13 (fun ty x h1 h2 => by cases h1; rfl) rfl
def fX9_areSame (M : vM) (x0 : Nat) (x1 : Int32) (x2 : Int32) : Option (vR × vM) := bi (fX9_bitsThatCount M x0 (M.1 (M.2.2 x0 0 - 1) 2)) fun y2 M3 => bi (fJ6_bitCount_0f7a4 M3 ((x1 ^^^ x2) &&& y2)) fun y6 M7 => bi (fX9_unlikeOnes M7 (M7.1 (M7.2.2 x0 0 - 1) 2) (M7.1 (M7.2.2 x0 0 - 1) 3)) fun y10 M11 => if y10 ≤ y6 then rI 0 M11 else rI 1 M11
set_option maxRecDepth 20000 in
set_option maxHeartbeats 2000000 in
theorem cX9_areSame_ok {l : Launch} {D : va_G} {dA : Nat → ClassId} (M : vM) (x0 : Nat) (x1 : Int32) (x2 : Int32) (f0 : v_isW x0) (hI : v_WT M.2.2) : Ct l D dA sX9_areSame false 175 2 0 0 175 [.ref x0, .int x1, .int x2] M (fX9_areSame M x0 x1 x2) := by
  refine Ct_of (lv := [(0, .ref x0), (1, .int x1), (2, .int x2)]) (by decide +kernel) rfl (Nat.le_of_ble_eq_true rfl) rfl (fun h => by cases h) ?_
  refine V_iload_n (k := 1) dX9_areSame_0 rfl rfl ?_
  refine V_iload_n (k := 2) dX9_areSame_1 rfl rfl ?_
  refine V_ixor dX9_areSame_2 ?_
  refine V_aload_n (k := 0) dX9_areSame_3 rfl rfl ?_
  refine V_aload_n (k := 0) dX9_areSame_4 rfl rfl ?_
  refine V_getr (k := M.2.2 x0 0 - 1) dX9_areSame_5 (v_LW f0).2.1 (v_LW f0).1 vf_X9_19 (by decide) (v_pln hI f0) ?_
  refine V_geti dX9_areSame_8 (v_LP (v_plnP hI f0)).2.1 (v_LP (v_plnP hI f0)).1 vf_X9_104 (by decide) ?_
  refine V_callVi (q := (RX9, TX9, 6)) (cls := 9) (st0 := [.int (x1 ^^^ x2)]) (kc' := 0) (ks' := 0) dX9_areSame_11 lk_X9_107 rfl (v_LW f0).1 (v_LW f0).2.1 rfl rfl (cX9_bitsThatCount_ok M x0 (M.1 (M.2.2 x0 0 - 1) 2) f0 hI) rfl rfl (by decide) (by decide) (Nat.le_of_ble_eq_true rfl) (Or.inl rfl) rfl rfl (by decide) (by decide) (fun y2 M3 e4 hI5 => ?_)
  refine V_iand dX9_areSame_14 ?_
  refine V_callSi (st0 := []) (kc' := 0) (ks' := 0) dX9_areSame_15 lk_X9_110 rfl (cJ6_bitCount_0f7a4_ok M3 ((x1 ^^^ x2) &&& y2) hI5) rfl rfl (by decide) (by decide) (Nat.le_of_ble_eq_true rfl) (Or.inl rfl) rfl rfl (by decide) (by decide) (fun y6 M7 e8 hI9 => ?_)
  refine V_aload_n (k := 0) dX9_areSame_18 rfl rfl ?_
  refine V_getr (k := M7.2.2 x0 0 - 1) dX9_areSame_19 (v_LW f0).2.1 (v_LW f0).1 vf_X9_19 (by decide) (v_pln hI9 f0) ?_
  refine V_geti dX9_areSame_22 (v_LP (v_plnP hI9 f0)).2.1 (v_LP (v_plnP hI9 f0)).1 vf_X9_104 (by decide) ?_
  refine V_aload_n (k := 0) dX9_areSame_25 rfl rfl ?_
  refine V_getr (k := M7.2.2 x0 0 - 1) dX9_areSame_26 (v_LW f0).2.1 (v_LW f0).1 vf_X9_19 (by decide) (v_pln hI9 f0) ?_
  refine V_geti dX9_areSame_29 (v_LP (v_plnP hI9 f0)).2.1 (v_LP (v_plnP hI9 f0)).1 vf_X9_115 (by decide) ?_
  refine V_callSi (st0 := [.int y6]) (kc' := 0) (ks' := 0) dX9_areSame_32 lk_X9_118 rfl (cX9_unlikeOnes_ok M7 (M7.1 (M7.2.2 x0 0 - 1) 2) (M7.1 (M7.2.2 x0 0 - 1) 3) hI9) rfl rfl (by decide) (by decide) (Nat.le_of_ble_eq_true rfl) (Or.inl rfl) rfl rfl (by decide) (by decide) (fun y10 M11 e12 hI13 => ?_)
  refine V_icmpge (tgt := 42) dX9_areSame_35 (by decide) (fun h14 => ?_) (fun h14 => ?_)
  · refine V_iconst (v := 0) dX9_areSame_42 rfl ?_
    exact V_ret (fun _ => hI13) (Or.inr (Or.inr (Or.inl ⟨rfl, _, rfl⟩))) dX9_areSame_43 (fun ty x h1 h2 => by cases h1; cases h2; rfl) rfl
  · refine V_iconst (v := 1) dX9_areSame_38 rfl ?_
    refine V_goto (tgt := 43) dX9_areSame_39 (by decide) ?_
    exact V_ret (fun _ => hI13) (Or.inr (Or.inr (Or.inl ⟨rfl, _, rfl⟩))) dX9_areSame_43 (fun ty x h1 h2 => by cases h1; cases h2; rfl) rfl
def fX10_judge_67 (k24 : vM → Int32 → Int32 → Nat → Int32 → Int32 → Option (vR × vM)) : Nat → vM → Int32 → Int32 → Nat → Int32 → Int32 → Int32 → Int32 → Option (vR × vM)
  | 0, _, _, _, _, _, _, _, _ => none
  | n9 + 1, M, x1, x2, x3, x4, x5, x6, x7 => if x5 ≤ x7 then k24 M x1 x2 x3 x4 (x5 + 1) else bi (fX1_toldAt M 6 x1 x7) fun y8 M9 => bi (fX9_areSame M9 x3 y8 x6) fun y12 M13 => if y12 = 0 then fX10_judge_67 k24 n9 M13 x1 x2 x3 x4 x5 x6 (x7 + 1) else if x2 = 0 then rI x5 M13 else rI x7 M13
set_option maxRecDepth 20000 in
set_option maxHeartbeats 2000000 in
theorem vX10_judge_67 {l : Launch} {D : va_G} {dA : Nat → ClassId} (hT : l.stackTraces = false) {k24 : vM → Int32 → Int32 → Nat → Int32 → Int32 → Option (vR × vM)} (hk24 : ∀ (M : vM) (x1 : Int32) (x2 : Int32) (x3 : Nat) (x4 : Int32) (x5 : Int32) (f3 : v_isW x3), v_WT M.2.2 → V l D dA sX10_judge false 175 7 0 0 24 [(0, .ref 0), (1, .int x1), (2, .int x2), (3, .ref x3), (4, .int x4), (5, .int x5)] [] 175 M (k24 M x1 x2 x3 x4 x5)) : ∀ (n9 : Nat) (M : vM) (x1 : Int32) (x2 : Int32) (x3 : Nat) (x4 : Int32) (x5 : Int32) (x6 : Int32) (x7 : Int32) (f3 : v_isW x3), v_WT M.2.2 → V l D dA sX10_judge false 175 7 0 0 67 [(0, .ref 0), (1, .int x1), (2, .int x2), (3, .ref x3), (4, .int x4), (5, .int x5), (6, .int x6), (7, .int x7)] [] 175 M (fX10_judge_67 k24 n9 M x1 x2 x3 x4 x5 x6 x7) := by
  intro n9
  induction n9 with
  | zero => intros; exact V_none
  | succ n9 ih =>
    intro M x1 x2 x3 x4 x5 x6 x7 f3 hI
    refine V_iload (k := 7) dX10_judge_67 rfl ?_
    refine V_iload (k := 5) dX10_judge_69 rfl ?_
    refine V_icmpge (tgt := 111) dX10_judge_71 (by decide) (fun h7 => ?_) (fun h7 => ?_)
    · refine V_iinc (k := 5) (v := x5 + 1) (lv' := [(5, .int (x5 + 1)), (0, .ref 0), (1, .int x1), (2, .int x2), (3, .ref x3), (4, .int x4), (6, .int x6), (7, .int x7)]) dX10_judge_111 rfl rfl (by decide) rfl ?_
      refine V_goto (tgt := 24) dX10_judge_114 (by decide) ?_
      refine V_sub [1, 2, 3, 4, 5, 0] rfl ?_
      exact hk24 M x1 x2 x3 x4 (x5 + 1) f3 hI
    · refine V_aload_n (k := 3) dX10_judge_74 rfl rfl ?_
      refine V_aload_n (k := 0) dX10_judge_75 rfl rfl ?_
      refine V_getr (k := 6) dX10_judge_76 rfl (by decide) vf_X10_40 (by decide) (v_fin hI 4 rfl) ?_
      refine V_iload_n (k := 1) dX10_judge_79 rfl rfl ?_
      refine V_iload (k := 7) dX10_judge_80 rfl ?_
      refine V_callVi (q := (RX1, TX1, 9)) (cls := 1) (st0 := [.ref x3]) (kc' := 0) (ks' := 0) dX10_judge_82 lk_X10_251 rfl (by decide) rfl rfl rfl (cX1_toldAt_ok M 6 x1 x7 (Or.inl rfl) hI) rfl rfl (by decide) (by decide) (Nat.le_of_ble_eq_true rfl) (Or.inl rfl) rfl rfl (by decide) (by decide) (fun y8 M9 e10 hI11 => ?_)
      refine V_iload (k := 6) dX10_judge_85 rfl ?_
      refine V_callVi (q := (RX9, TX9, 6)) (cls := 9) (st0 := []) (kc' := 0) (ks' := 0) dX10_judge_87 lk_X10_221 rfl (v_LW f3).1 (v_LW f3).2.1 rfl rfl (cX9_areSame_ok M9 x3 y8 x6 f3 hI11) rfl rfl (by decide) (by decide) (Nat.le_of_ble_eq_true rfl) (Or.inl rfl) rfl rfl (by decide) (by decide) (fun y12 M13 e14 hI15 => ?_)
      refine V_ifeq (tgt := 105) dX10_judge_90 (by decide) (fun h16 => ?_) (fun h16 => ?_)
      · refine V_iinc (k := 7) (v := x7 + 1) (lv' := [(7, .int (x7 + 1)), (0, .ref 0), (1, .int x1), (2, .int x2), (3, .ref x3), (4, .int x4), (5, .int x5), (6, .int x6)]) dX10_judge_105 rfl rfl (by decide) rfl ?_
        refine V_goto (tgt := 67) dX10_judge_108 (by decide) ?_
        refine V_sub [1, 2, 3, 4, 5, 6, 7, 0] rfl ?_
        exact ih M13 x1 x2 x3 x4 x5 x6 (x7 + 1) f3 hI15
      · refine V_iload_n (k := 2) dX10_judge_93 rfl rfl ?_
        refine V_ifne (tgt := 102) dX10_judge_94 (by decide) (fun h17 => ?_) (fun h17 => ?_)
        · refine V_iload (k := 7) dX10_judge_102 rfl ?_
          exact V_ret (fun _ => hI15) (Or.inr (Or.inl ⟨rfl, _, rfl⟩)) dX10_judge_104 (fun ty x h1 h2 => by cases h1; rfl) rfl
        · refine V_iload (k := 5) dX10_judge_97 rfl ?_
          refine V_goto (tgt := 104) dX10_judge_99 (by decide) ?_
          exact V_ret (fun _ => hI15) (Or.inr (Or.inl ⟨rfl, _, rfl⟩)) dX10_judge_104 (fun ty x h1 h2 => by cases h1; rfl) rfl
def fX10_judge_24 : Nat → vM → Int32 → Int32 → Nat → Int32 → Int32 → Option (vR × vM)
  | 0, _, _, _, _, _, _ => none
  | n9 + 1, M, x1, x2, x3, x4, x5 => if x4 ≤ x5 then rI ((-1)) M else bi (fX1_toldAt M 6 x1 x5) fun y19 M20 => bi (fX9_withMark M20 x3 y19) fun y23 M24 => if y23 = ((-1)) then if x2 = 0 then rI x5 M24 else rI ((-1)) M24 else fX10_judge_67 (fX10_judge_24 n9) FU M24 x1 x2 x3 x4 x5 y19 0
set_option maxRecDepth 20000 in
set_option maxHeartbeats 2000000 in
theorem vX10_judge_24 {l : Launch} {D : va_G} {dA : Nat → ClassId} (hT : l.stackTraces = false) : ∀ (n9 : Nat) (M : vM) (x1 : Int32) (x2 : Int32) (x3 : Nat) (x4 : Int32) (x5 : Int32) (f3 : v_isW x3), v_WT M.2.2 → V l D dA sX10_judge false 175 7 0 0 24 [(0, .ref 0), (1, .int x1), (2, .int x2), (3, .ref x3), (4, .int x4), (5, .int x5)] [] 175 M (fX10_judge_24 n9 M x1 x2 x3 x4 x5) := by
  intro n9
  induction n9 with
  | zero => intros; exact V_none
  | succ n9 ih =>
    intro M x1 x2 x3 x4 x5 f3 hI
    refine V_iload (k := 5) dX10_judge_24 rfl ?_
    refine V_iload (k := 4) dX10_judge_26 rfl ?_
    refine V_icmpge (tgt := 117) dX10_judge_28 (by decide) (fun h18 => ?_) (fun h18 => ?_)
    · refine V_iconst (v := (-1)) dX10_judge_117 rfl ?_
      exact V_ret (fun _ => hI) (Or.inr (Or.inl ⟨rfl, _, rfl⟩)) dX10_judge_118 (fun ty x h1 h2 => by cases h1; rfl) rfl
    · refine V_aload_n (k := 0) dX10_judge_31 rfl rfl ?_
      refine V_getr (k := 6) dX10_judge_32 rfl (by decide) vf_X10_40 (by decide) (v_fin hI 4 rfl) ?_
      refine V_iload_n (k := 1) dX10_judge_35 rfl rfl ?_
      refine V_iload (k := 5) dX10_judge_36 rfl ?_
      refine V_callVi (q := (RX1, TX1, 9)) (cls := 1) (st0 := []) (kc' := 0) (ks' := 0) dX10_judge_38 lk_X10_251 rfl (by decide) rfl rfl rfl (cX1_toldAt_ok M 6 x1 x5 (Or.inl rfl) hI) rfl rfl (by decide) (by decide) (Nat.le_of_ble_eq_true rfl) (Or.inl rfl) rfl rfl (by decide) (by decide) (fun y19 M20 e21 hI22 => ?_)
      refine V_istore (lv' := [(6, .int y19), (0, .ref 0), (1, .int x1), (2, .int x2), (3, .ref x3), (4, .int x4), (5, .int x5)]) dX10_judge_41 (by decide) rfl ?_
      refine V_aload_n (k := 4) dX10_judge_43 rfl rfl ?_
      refine V_iload (k := 0) dX10_judge_44 rfl ?_
      refine V_callVi (q := (RX9, TX9, 6)) (cls := 9) (st0 := []) (kc' := 0) (ks' := 0) dX10_judge_46 lk_X10_209 rfl (v_LW f3).1 (v_LW f3).2.1 rfl rfl (cX9_withMark_ok M20 x3 y19 f3 hI22) rfl rfl (by decide) (by decide) (Nat.le_of_ble_eq_true rfl) (Or.inl rfl) rfl rfl (by decide) (by decide) (fun y23 M24 e25 hI26 => ?_)
      refine V_iconst (v := (-1)) dX10_judge_49 rfl ?_
      refine V_icmpne (tgt := 64) dX10_judge_50 (by decide) (fun h27 => ?_) (fun h27 => ?_)
      · refine V_iconst (v := 0) dX10_judge_64 rfl ?_
        refine V_istore (lv' := [(7, .int 0), (6, .int y19), (0, .ref 0), (1, .int x1), (2, .int x2), (3, .ref x3), (4, .int x4), (5, .int x5)]) dX10_judge_65 (by decide) rfl ?_
        refine V_sub [2, 3, 4, 5, 6, 7, 1, 0] rfl ?_
        exact vX10_judge_67 hT (ih) FU M24 x1 x2 x3 x4 x5 y19 0 f3 hI26
      · refine V_iload_n (k := 3) dX10_judge_53 rfl rfl ?_
        refine V_ifne (tgt := 62) dX10_judge_54 (by decide) (fun h28 => ?_) (fun h28 => ?_)
        · refine V_iconst (v := (-1)) dX10_judge_62 rfl ?_
          exact V_ret (fun _ => hI26) (Or.inr (Or.inl ⟨rfl, _, rfl⟩)) dX10_judge_63 (fun ty x h1 h2 => by cases h1; rfl) rfl
        · refine V_iload (k := 6) dX10_judge_57 rfl ?_
          refine V_goto (tgt := 63) dX10_judge_59 (by decide) ?_
          exact V_ret (fun _ => hI26) (Or.inr (Or.inl ⟨rfl, _, rfl⟩)) dX10_judge_63 (fun ty x h1 h2 => by cases h1; rfl) rfl
def fX10_judge (M : vM) (x1 : Int32) (x2 : Int32) : Option (vR × vM) := br (fX10_workOf M x1) fun y29 M30 => bv (fX10_refuseUnlessWhat M30 x2 2) fun M33 => bi (fX1_toldOf M33 6 x1) fun y36 M37 => fX10_judge_24 FU M37 x1 x2 y29 y36 0
set_option maxRecDepth 20000 in
set_option maxHeartbeats 2000000 in
theorem cX10_judge_ok {l : Launch} {D : va_G} {dA : Nat → ClassId} (hT : l.stackTraces = false) (M : vM) (x1 : Int32) (x2 : Int32) (hI : v_WT M.2.2) : Ct l D dA sX10_judge false 175 7 2 12 175 [.ref 0, .int x1, .int x2] M (fX10_judge M x1 x2) := by
  refine Ct_of (lv := [(0, .ref 0), (1, .int x1), (2, .int x2)]) (by decide +kernel) rfl (Nat.le_of_ble_eq_true rfl) rfl (fun h => by cases h) ?_
  refine V_aload_n (k := 0) dX10_judge_0 rfl rfl ?_
  refine V_iload_n (k := 1) dX10_judge_1 rfl rfl ?_
  refine V_callVr (q := (RX10, TX10, 15)) (cls := 10) (st0 := []) (kc' := 1) (ks' := 6) dX10_judge_2 lk_X10_158 rfl (by decide) rfl rfl rfl (cX10_workOf_ok hT M x1 hI) rfl rfl (by decide) (by decide) (Nat.le_of_ble_eq_true rfl) (Or.inl rfl) rfl rfl (by decide) (by decide) (fun y29 M30 e31 hI32 => ?_)
  have wy29 := wX10_workOf_ret e31
  refine V_astore_n (lv' := [(3, .ref y29), (0, .ref 0), (1, .int x1), (2, .int x2)]) dX10_judge_5 rfl (by decide) rfl ?_
  refine V_iload_n (k := 3) dX10_judge_6 rfl rfl ?_
  refine V_iconst (v := 2) dX10_judge_7 rfl ?_
  refine V_callSv (st0 := []) (kc' := 0) (ks' := 0) dX10_judge_8 lk_X10_212 rfl (cX10_refuseUnlessWhat_ok hT M30 x2 2 hI32) rfl rfl (by decide) (by decide) (Nat.le_of_ble_eq_true rfl) (Or.inl rfl) rfl rfl (by decide) (by decide) (fun  M33 e34 hI35 => ?_)
  refine V_aload_n (k := 1) dX10_judge_11 rfl rfl ?_
  refine V_getr (k := 6) dX10_judge_12 rfl (by decide) vf_X10_40 (by decide) (v_fin hI35 4 rfl) ?_
  refine V_iload_n (k := 2) dX10_judge_15 rfl rfl ?_
  refine V_callVi (q := (RX1, TX1, 9)) (cls := 1) (st0 := []) (kc' := 0) (ks' := 0) dX10_judge_16 lk_X10_186 rfl (by decide) rfl rfl rfl (cX1_toldOf_ok M33 6 x1 (Or.inl rfl) hI35) rfl rfl (by decide) (by decide) (Nat.le_of_ble_eq_true rfl) (Or.inl rfl) rfl rfl (by decide) (by decide) (fun y36 M37 e38 hI39 => ?_)
  refine V_istore (lv' := [(4, .int y36), (3, .ref y29), (0, .ref 0), (1, .int x1), (2, .int x2)]) dX10_judge_19 (by decide) rfl ?_
  refine V_iconst (v := 0) dX10_judge_21 rfl ?_
  refine V_istore (lv' := [(5, .int 0), (4, .int y36), (3, .ref y29), (0, .ref 0), (1, .int x1), (2, .int x2)]) dX10_judge_22 (by decide) rfl ?_
  refine V_sub [3, 4, 5, 2, 1, 0] rfl ?_
  exact vX10_judge_24 hT FU M37 x1 x2 y29 y36 0 wy29 hI39
def fX10_lasts (M : vM) (x1 : Int32) (x2 : Int32) : Option (vR × vM) := br (fX10_workOf M x1) fun y3 M4 => bv (fX10_refuseUnlessWhat M4 x2 3) fun M7 => bv (fX7_follow M7 y3 1458) fun M10 => if x2 = 0 then rI (M10.1 24 3) M10 else if x2 = 1 then rI (M10.1 24 4) M10 else rI (M10.1 24 5) M10
set_option maxRecDepth 20000 in
set_option maxHeartbeats 2000000 in
theorem cX10_lasts_ok {l : Launch} {D : va_G} {dA : Nat → ClassId} (hT : l.stackTraces = false) (M : vM) (x1 : Int32) (x2 : Int32) (hI : v_WT M.2.2) : Ct l D dA sX10_lasts false 175 7 2 12 175 [.ref 0, .int x1, .int x2] M (fX10_lasts M x1 x2) := by
  refine Ct_of (lv := [(0, .ref 0), (1, .int x1), (2, .int x2)]) (by decide +kernel) rfl (Nat.le_of_ble_eq_true rfl) rfl (fun h => by cases h) ?_
  refine V_aload_n (k := 0) dX10_lasts_0 rfl rfl ?_
  refine V_iload_n (k := 1) dX10_lasts_1 rfl rfl ?_
  refine V_callVr (q := (RX10, TX10, 15)) (cls := 10) (st0 := []) (kc' := 1) (ks' := 6) dX10_lasts_2 lk_X10_158 rfl (by decide) rfl rfl rfl (cX10_workOf_ok hT M x1 hI) rfl rfl (by decide) (by decide) (Nat.le_of_ble_eq_true rfl) (Or.inl rfl) rfl rfl (by decide) (by decide) (fun y3 M4 e5 hI6 => ?_)
  have wy3 := wX10_workOf_ret e5
  refine V_astore_n (lv' := [(3, .ref y3), (0, .ref 0), (1, .int x1), (2, .int x2)]) dX10_lasts_5 rfl (by decide) rfl ?_
  refine V_iload_n (k := 3) dX10_lasts_6 rfl rfl ?_
  refine V_iconst (v := 3) dX10_lasts_7 rfl ?_
  refine V_callSv (st0 := []) (kc' := 0) (ks' := 0) dX10_lasts_8 lk_X10_212 rfl (cX10_refuseUnlessWhat_ok hT M4 x2 3 hI6) rfl rfl (by decide) (by decide) (Nat.le_of_ble_eq_true rfl) (Or.inl rfl) rfl rfl (by decide) (by decide) (fun  M7 e8 hI9 => ?_)
  refine V_aload_n (k := 1) dX10_lasts_11 rfl rfl ?_
  refine V_getr (k := 24) dX10_lasts_12 rfl (by decide) vf_X10_50 (by decide) (v_fin hI9 6 rfl) ?_
  refine V_aload_n (k := 0) dX10_lasts_15 rfl rfl ?_
  refine V_sipush (v := 1458) dX10_lasts_16 rfl ?_
  refine V_callVv (q := (RX7, TX7, 6)) (cls := 7) (st0 := []) (kc' := 0) (ks' := 0) dX10_lasts_19 lk_X10_281 rfl (by decide) rfl rfl rfl (cX7_follow_ok M7 y3 1458 wy3 hI9) rfl rfl (by decide) (by decide) (Nat.le_of_ble_eq_true rfl) (Or.inl rfl) rfl rfl (by decide) (by decide) (fun  M10 e11 hI12 => ?_)
  refine V_iload_n (k := 3) dX10_lasts_22 rfl rfl ?_
  refine V_lcase (k := 0) (tgt := 48) dX10_lasts_23 (by decide) rfl (by decide) (fun h13 => ?_) (fun h13 => ?_)
  · refine V_aload_n (k := 1) dX10_lasts_48 rfl rfl ?_
    refine V_getr (k := 24) dX10_lasts_49 rfl (by decide) vf_X10_50 (by decide) (v_fin hI12 6 rfl) ?_
    refine V_geti dX10_lasts_52 rfl (by decide) vf_X10_284 (by decide) ?_
    exact V_ret (fun _ => hI12) (Or.inr (Or.inl ⟨rfl, _, rfl⟩)) dX10_lasts_55 (fun ty x h1 h2 => by cases h1; rfl) rfl
  refine V_lcase (k := 1) (tgt := 56) dX10_lasts_23 (by decide) rfl (by decide) (fun h14 => ?_) (fun h14 => ?_)
  · refine V_aload_n (k := 1) dX10_lasts_56 rfl rfl ?_
    refine V_getr (k := 24) dX10_lasts_57 rfl (by decide) vf_X10_50 (by decide) (v_fin hI12 6 rfl) ?_
    refine V_geti dX10_lasts_60 rfl (by decide) vf_X10_287 (by decide) ?_
    exact V_ret (fun _ => hI12) (Or.inr (Or.inl ⟨rfl, _, rfl⟩)) dX10_lasts_63 (fun ty x h1 h2 => by cases h1; rfl) rfl
  refine V_ldef (off := 41) (tgt := 64) dX10_lasts_23 (by decide) (by show Op.lookupswitch.offset [(0, 25), (1, 33)] 41 (x2).toInt = 41; rw [lv_osw (a := 0) h13 rfl]; rw [lv_osw (a := 1) h14 rfl]; rfl) (by decide) ?_
  refine V_aload_n (k := 1) dX10_lasts_64 rfl rfl ?_
  refine V_getr (k := 24) dX10_lasts_65 rfl (by decide) vf_X10_50 (by decide) (v_fin hI12 6 rfl) ?_
  refine V_geti dX10_lasts_68 rfl (by decide) vf_X10_290 (by decide) ?_
  exact V_ret (fun _ => hI12) (Or.inr (Or.inl ⟨rfl, _, rfl⟩)) dX10_lasts_71 (fun ty x h1 h2 => by cases h1; rfl) rfl
def fX9_unspentAt_4 : Nat → vM → Nat → Int32 → Int32 → Int32 → Option (vR × vM)
  | 0, _, _, _, _, _ => none
  | n9 + 1, M, x0, x1, x2, x3 => if (M.1 x0 1) ≤ x3 then rI ((-1)) M else bi (fX9_isSpent M x0 x3) fun y5 M6 => if y5 = 0 then if x2 = x1 then rI x3 M6 else fX9_unspentAt_4 n9 M6 x0 x1 (x2 + 1) (x3 + 1) else fX9_unspentAt_4 n9 M6 x0 x1 x2 (x3 + 1)
set_option maxRecDepth 20000 in
set_option maxHeartbeats 2000000 in
theorem vX9_unspentAt_4 {l : Launch} {D : va_G} {dA : Nat → ClassId} : ∀ (n9 : Nat) (M : vM) (x0 : Nat) (x1 : Int32) (x2 : Int32) (x3 : Int32) (f0 : v_isW x0), v_WT M.2.2 → V l D dA sX9_unspentAt false 175 3 0 0 4 [(0, .ref x0), (1, .int x1), (2, .int x2), (3, .int x3)] [] 175 M (fX9_unspentAt_4 n9 M x0 x1 x2 x3) := by
  intro n9
  induction n9 with
  | zero => intros; exact V_none
  | succ n9 ih =>
    intro M x0 x1 x2 x3 f0 hI
    refine V_iload_n (k := 3) dX9_unspentAt_4 rfl rfl ?_
    refine V_aload_n (k := 0) dX9_unspentAt_5 rfl rfl ?_
    refine V_geti dX9_unspentAt_6 (v_LW f0).2.1 (v_LW f0).1 vf_X9_23 (by decide) ?_
    refine V_icmpge (tgt := 36) dX9_unspentAt_9 (by decide) (fun h4 => ?_) (fun h4 => ?_)
    · refine V_iconst (v := (-1)) dX9_unspentAt_36 rfl ?_
      exact V_ret (fun _ => hI) (Or.inr (Or.inl ⟨rfl, _, rfl⟩)) dX9_unspentAt_37 (fun ty x h1 h2 => by cases h1; rfl) rfl
    · refine V_aload_n (k := 0) dX9_unspentAt_12 rfl rfl ?_
      refine V_iload_n (k := 3) dX9_unspentAt_13 rfl rfl ?_
      refine V_callVi (q := (RX9, TX9, 6)) (cls := 9) (st0 := []) (kc' := 0) (ks' := 0) dX9_unspentAt_14 lk_X9_101 rfl (v_LW f0).1 (v_LW f0).2.1 rfl rfl (cX9_isSpent_ok M x0 x3 f0 hI) rfl rfl (by decide) (by decide) (Nat.le_of_ble_eq_true rfl) (Or.inl rfl) rfl rfl (by decide) (by decide) (fun y5 M6 e7 hI8 => ?_)
      refine V_ifne (tgt := 30) dX9_unspentAt_17 (by decide) (fun h9 => ?_) (fun h9 => ?_)
      · refine V_iinc (k := 3) (v := x3 + 1) (lv' := [(3, .int (x3 + 1)), (0, .ref x0), (1, .int x1), (2, .int x2)]) dX9_unspentAt_30 rfl rfl (by decide) rfl ?_
        refine V_goto (tgt := 4) dX9_unspentAt_33 (by decide) ?_
        refine V_sub [1, 2, 3, 0] rfl ?_
        exact ih M6 x0 x1 x2 (x3 + 1) f0 hI8
      · refine V_iload_n (k := 2) dX9_unspentAt_20 rfl rfl ?_
        refine V_iload_n (k := 1) dX9_unspentAt_21 rfl rfl ?_
        refine V_icmpne (tgt := 27) dX9_unspentAt_22 (by decide) (fun h10 => ?_) (fun h10 => ?_)
        · refine V_iinc (k := 2) (v := x2 + 1) (lv' := [(2, .int (x2 + 1)), (0, .ref x0), (1, .int x1), (3, .int x3)]) dX9_unspentAt_27 rfl rfl (by decide) rfl ?_
          refine V_iinc (k := 3) (v := x3 + 1) (lv' := [(3, .int (x3 + 1)), (2, .int (x2 + 1)), (0, .ref x0), (1, .int x1)]) dX9_unspentAt_30 rfl rfl (by decide) rfl ?_
          refine V_goto (tgt := 4) dX9_unspentAt_33 (by decide) ?_
          refine V_sub [2, 3, 1, 0] rfl ?_
          exact ih M6 x0 x1 (x2 + 1) (x3 + 1) f0 hI8
        · refine V_iload_n (k := 3) dX9_unspentAt_25 rfl rfl ?_
          exact V_ret (fun _ => hI8) (Or.inr (Or.inl ⟨rfl, _, rfl⟩)) dX9_unspentAt_26 (fun ty x h1 h2 => by cases h1; rfl) rfl
def fX9_unspentAt (M : vM) (x0 : Nat) (x1 : Int32) : Option (vR × vM) := fX9_unspentAt_4 FU M x0 x1 0 0
set_option maxRecDepth 20000 in
set_option maxHeartbeats 2000000 in
theorem cX9_unspentAt_ok {l : Launch} {D : va_G} {dA : Nat → ClassId} (M : vM) (x0 : Nat) (x1 : Int32) (f0 : v_isW x0) (hI : v_WT M.2.2) : Ct l D dA sX9_unspentAt false 175 3 0 0 175 [.ref x0, .int x1] M (fX9_unspentAt M x0 x1) := by
  refine Ct_of (lv := [(0, .ref x0), (1, .int x1)]) (by decide +kernel) rfl (Nat.le_of_ble_eq_true rfl) rfl (fun h => by cases h) ?_
  refine V_iconst (v := 0) dX9_unspentAt_0 rfl ?_
  refine V_istore_n (lv' := [(2, .int 0), (0, .ref x0), (1, .int x1)]) dX9_unspentAt_1 rfl (by decide) rfl ?_
  refine V_iconst (v := 0) dX9_unspentAt_2 rfl ?_
  refine V_istore_n (lv' := [(3, .int 0), (2, .int 0), (0, .ref x0), (1, .int x1)]) dX9_unspentAt_3 rfl (by decide) rfl ?_
  refine V_sub [2, 3, 1, 0] rfl ?_
  exact vX9_unspentAt_4 FU M x0 x1 0 0 f0 hI
def fX10_left (M : vM) (x1 : Int32) (x2 : Int32) : Option (vR × vM) := br (fX10_workOf M x1) fun y2 M3 => if 0 ≤ x2 then bi (fX9_unspentAt M3 y2 x2) fun y7 M8 => rI y7 M8 else rT 1 M3
set_option maxRecDepth 20000 in
set_option maxHeartbeats 2000000 in
theorem cX10_left_ok {l : Launch} {D : va_G} {dA : Nat → ClassId} (hT : l.stackTraces = false) (M : vM) (x1 : Int32) (x2 : Int32) (hI : v_WT M.2.2) : Ct l D dA sX10_left false 175 7 2 12 175 [.ref 0, .int x1, .int x2] M (fX10_left M x1 x2) := by
  refine Ct_of (lv := [(0, .ref 0), (1, .int x1), (2, .int x2)]) (by decide +kernel) rfl (Nat.le_of_ble_eq_true rfl) rfl (fun h => by cases h) ?_
  refine V_aload_n (k := 0) dX10_left_0 rfl rfl ?_
  refine V_iload_n (k := 1) dX10_left_1 rfl rfl ?_
  refine V_callVr (q := (RX10, TX10, 15)) (cls := 10) (st0 := []) (kc' := 1) (ks' := 6) dX10_left_2 lk_X10_158 rfl (by decide) rfl rfl rfl (cX10_workOf_ok hT M x1 hI) rfl rfl (by decide) (by decide) (Nat.le_of_ble_eq_true rfl) (Or.inl rfl) rfl rfl (by decide) (by decide) (fun y2 M3 e4 hI5 => ?_)
  have wy2 := wX10_workOf_ret e4
  refine V_astore_n (lv' := [(3, .ref y2), (0, .ref 0), (1, .int x1), (2, .int x2)]) dX10_left_5 rfl (by decide) rfl ?_
  refine V_iload_n (k := 3) dX10_left_6 rfl rfl ?_
  refine V_ifge (tgt := 20) dX10_left_7 (by decide) (fun h6 => ?_) (fun h6 => ?_)
  · refine V_aload_n (k := 0) dX10_left_20 rfl rfl ?_
    refine V_iload_n (k := 3) dX10_left_21 rfl rfl ?_
    refine V_callVi (q := (RX9, TX9, 6)) (cls := 9) (st0 := []) (kc' := 1) (ks' := 6) dX10_left_22 lk_X10_245 rfl (v_LW wy2).1 (v_LW wy2).2.1 rfl rfl (cX9_unspentAt_ok M3 y2 x2 wy2 hI5) rfl rfl (by decide) (by decide) (Nat.le_of_ble_eq_true rfl) (Or.inl rfl) rfl rfl (by decide) (by decide) (fun y7 M8 e9 hI10 => ?_)
    exact V_ret (fun _ => hI10) (Or.inr (Or.inl ⟨rfl, _, rfl⟩)) dX10_left_25 (fun ty x h1 h2 => by cases h1; rfl) rfl
  · exact V_throwN (sid := 14) (text := "below 0") (fun _ => hI5) hT rfl (by decide +kernel) dX10_left_10 dX10_left_13 dX10_left_14 dX10_left_16 dX10_left_19 rfl (by decide) (by decide) (by decide) (Nat.le_of_ble_eq_true rfl)
def fJ7_fill_53178_5 : Nat → vM → Nat → Int32 → Int32 → Int32 → Option (vR × vM)
  | 0, _, _, _, _, _ => none
  | n9 + 1, M, x0, x1, x2, x3 => if x3 ≤ x2 then rV M else if v_in x2 (v_LAY x0).2.2 = true then fJ7_fill_53178_5 n9 (v_si M x0 (Int32.toNatClampNeg x2) x1) x0 x1 (x2 + 1) x3 else none
set_option maxRecDepth 20000 in
set_option maxHeartbeats 2000000 in
theorem vJ7_fill_53178_5 {l : Launch} {D : va_G} {dA : Nat → ClassId} : ∀ (n9 : Nat) (M : vM) (x0 : Nat) (x1 : Int32) (x2 : Int32) (x3 : Int32) (f0 : v_isA 0 x0), v_WT M.2.2 → V l D dA sJ7_fill_53178 false 175 1 0 0 5 [(0, .ref x0), (1, .int x1), (2, .int x2), (3, .int x3)] [] 175 M (fJ7_fill_53178_5 n9 M x0 x1 x2 x3) := by
  intro n9
  induction n9 with
  | zero => intros; exact V_none
  | succ n9 ih =>
    intro M x0 x1 x2 x3 f0 hI
    refine V_iload_n (k := 2) dJ7_fill_53178_5 rfl rfl ?_
    refine V_iload_n (k := 3) dJ7_fill_53178_6 rfl rfl ?_
    refine V_icmpge (tgt := 20) dJ7_fill_53178_7 (by decide) (fun h3 => ?_) (fun h3 => ?_)
    · exact V_ret (fun _ => hI) (Or.inl ⟨rfl, rfl⟩) dJ7_fill_53178_20 (fun ty x h1 h2 => by cases h1) rfl
    · refine V_aload_n (k := 0) dJ7_fill_53178_10 rfl rfl ?_
      refine V_iload_n (k := 2) dJ7_fill_53178_11 rfl rfl ?_
      refine V_iload_n (k := 1) dJ7_fill_53178_12 rfl rfl ?_
      refine V_iast dJ7_fill_53178_13 f0.2 f0.1 (fun h4 => ?_)
      refine V_iinc (k := 2) (v := x2 + 1) (lv' := [(2, .int (x2 + 1)), (0, .ref x0), (1, .int x1), (3, .int x3)]) dJ7_fill_53178_14 rfl rfl (by decide) rfl ?_
      refine V_goto (tgt := 5) dJ7_fill_53178_17 (by decide) ?_
      refine V_sub [1, 2, 0, 3] rfl ?_
      exact ih (v_si M x0 (Int32.toNatClampNeg x2) x1) x0 x1 (x2 + 1) x3 f0 hI
def fJ7_fill_53178 (M : vM) (x0 : Nat) (x1 : Int32) : Option (vR × vM) := fJ7_fill_53178_5 FU M x0 x1 0 (nI ((v_LAY x0).2.2))
set_option maxRecDepth 20000 in
set_option maxHeartbeats 2000000 in
theorem cJ7_fill_53178_ok {l : Launch} {D : va_G} {dA : Nat → ClassId} (M : vM) (x0 : Nat) (x1 : Int32) (f0 : v_isA 0 x0) (hI : v_WT M.2.2) : Ct l D dA sJ7_fill_53178 false 175 1 0 0 175 [.ref x0, .int x1] M (fJ7_fill_53178 M x0 x1) := by
  refine Ct_of (lv := [(0, .ref x0), (1, .int x1)]) (by decide +kernel) rfl (Nat.le_of_ble_eq_true rfl) rfl (fun h => by cases h) ?_
  refine V_iconst (v := 0) dJ7_fill_53178_0 rfl ?_
  refine V_istore_n (lv' := [(2, .int 0), (0, .ref x0), (1, .int x1)]) dJ7_fill_53178_1 rfl (by decide) rfl ?_
  refine V_aload_n (k := 1) dJ7_fill_53178_2 rfl rfl ?_
  refine V_alen dJ7_fill_53178_3 f0.2 f0.1 (by decide) ?_
  refine V_istore_n (lv' := [(3, .int (nI ((v_LAY x0).2.2))), (2, .int 0), (0, .ref x0), (1, .int x1)]) dJ7_fill_53178_4 rfl (by decide) rfl ?_
  refine V_sub [2, 3, 1, 0] rfl ?_
  exact vJ7_fill_53178_5 FU M x0 x1 0 (nI ((v_LAY x0).2.2)) f0 hI
def fX3_startAt (M : vM) (x0 : Nat) (x1 : Int32) : Option (vR × vM) := bi (fX10_at M (x0 + 2) x1) fun y1 M2 => rI y1 M2
set_option maxRecDepth 20000 in
set_option maxHeartbeats 2000000 in
theorem cX3_startAt_ok {l : Launch} {D : va_G} {dA : Nat → ClassId} (M : vM) (x0 : Nat) (x1 : Int32) (f0 : v_isP x0) (hI : v_WT M.2.2) : Ct l D dA sX3_startAt false 175 2 0 0 175 [.ref x0, .int x1] M (fX3_startAt M x0 x1) := by
  refine Ct_of (lv := [(0, .ref x0), (1, .int x1)]) (by decide +kernel) rfl (Nat.le_of_ble_eq_true rfl) rfl (fun h => by cases h) ?_
  refine V_aload_n (k := 0) dX3_startAt_0 rfl rfl ?_
  refine V_getr (k := x0 + 2) dX3_startAt_1 (v_LP f0).2.1 (v_LP f0).1 vf_X3_15 (by decide) (v_finP hI f0).2.1 ?_
  refine V_iload_n (k := 1) dX3_startAt_4 rfl rfl ?_
  refine V_callSi (st0 := []) (kc' := 0) (ks' := 0) dX3_startAt_5 lk_X3_59 rfl (cX10_at_ok M (x0 + 2) x1 (v_isA_of (v_LP f0).2.2.2.2.1 (v_LP f0).2.2.1.2.1) hI) rfl rfl (by decide) (by decide) (Nat.le_of_ble_eq_true rfl) (Or.inl rfl) rfl rfl (by decide) (by decide) (fun y1 M2 e3 hI4 => ?_)
  exact V_ret (fun _ => hI4) (Or.inr (Or.inl ⟨rfl, _, rfl⟩)) dX3_startAt_8 (fun ty x h1 h2 => by cases h1; rfl) rfl
def fX3_endAt (M : vM) (x0 : Nat) (x1 : Int32) : Option (vR × vM) := bi (fX10_at M (x0 + 3) x1) fun y1 M2 => rI y1 M2
set_option maxRecDepth 20000 in
set_option maxHeartbeats 2000000 in
theorem cX3_endAt_ok {l : Launch} {D : va_G} {dA : Nat → ClassId} (M : vM) (x0 : Nat) (x1 : Int32) (f0 : v_isP x0) (hI : v_WT M.2.2) : Ct l D dA sX3_endAt false 175 2 0 0 175 [.ref x0, .int x1] M (fX3_endAt M x0 x1) := by
  refine Ct_of (lv := [(0, .ref x0), (1, .int x1)]) (by decide +kernel) rfl (Nat.le_of_ble_eq_true rfl) rfl (fun h => by cases h) ?_
  refine V_aload_n (k := 0) dX3_endAt_0 rfl rfl ?_
  refine V_getr (k := x0 + 3) dX3_endAt_1 (v_LP f0).2.1 (v_LP f0).1 vf_X3_18 (by decide) (v_finP hI f0).2.2.1 ?_
  refine V_iload_n (k := 1) dX3_endAt_4 rfl rfl ?_
  refine V_callSi (st0 := []) (kc' := 0) (ks' := 0) dX3_endAt_5 lk_X3_59 rfl (cX10_at_ok M (x0 + 3) x1 (v_isA_of (v_LP f0).2.2.2.2.2.1 (v_LP f0).2.2.1.2.2.1) hI) rfl rfl (by decide) (by decide) (Nat.le_of_ble_eq_true rfl) (Or.inl rfl) rfl rfl (by decide) (by decide) (fun y1 M2 e3 hI4 => ?_)
  exact V_ret (fun _ => hI4) (Or.inr (Or.inl ⟨rfl, _, rfl⟩)) dX3_endAt_8 (fun ty x h1 h2 => by cases h1; rfl) rfl
def fX5_countInto_27 (k17 : vM → Nat → Int32 → Option (vR × vM)) : Nat → vM → Nat → Int32 → Int32 → Option (vR × vM)
  | 0, _, _, _, _ => none
  | n9 + 1, M, x1, x2, x3 => if (M.1 x1 4) ≤ x3 then k17 M x1 (x2 + 1) else bi (fX3_startAt M x1 x3) fun y6 M7 => if y6 = x2 then bi (fX3_endAt M7 x1 x3) fun y11 M12 => bi (fX3_endAt M12 x1 x3) fun y15 M16 => bi (fX10_at M16 37 y15) fun y19 M20 => bi (fX10_at M20 37 x2) fun y23 M24 => bv (fX10_put M24 37 y11 (y19 + y23)) fun M27 => fX5_countInto_27 k17 n9 M27 x1 x2 (x3 + 1) else fX5_countInto_27 k17 n9 M7 x1 x2 (x3 + 1)
set_option maxRecDepth 20000 in
set_option maxHeartbeats 2000000 in
theorem vX5_countInto_27 {l : Launch} {D : va_G} {dA : Nat → ClassId} {k17 : vM → Nat → Int32 → Option (vR × vM)} (hk17 : ∀ (M : vM) (x1 : Nat) (x2 : Int32) (f1 : v_isP x1), v_WT M.2.2 → V l D dA sX5_countInto false 175 3 0 0 17 [(0, .ref 36), (1, .ref x1), (2, .int x2)] [] 175 M (k17 M x1 x2)) : ∀ (n9 : Nat) (M : vM) (x1 : Nat) (x2 : Int32) (x3 : Int32) (f1 : v_isP x1), v_WT M.2.2 → V l D dA sX5_countInto false 175 3 0 0 27 [(0, .ref 36), (1, .ref x1), (2, .int x2), (3, .int x3)] [] 175 M (fX5_countInto_27 k17 n9 M x1 x2 x3) := by
  intro n9
  induction n9 with
  | zero => intros; exact V_none
  | succ n9 ih =>
    intro M x1 x2 x3 f1 hI
    refine V_iload_n (k := 3) dX5_countInto_27 rfl rfl ?_
    refine V_aload_n (k := 1) dX5_countInto_28 rfl rfl ?_
    refine V_geti dX5_countInto_29 (v_LP f1).2.1 (v_LP f1).1 vf_X5_50 (by decide) ?_
    refine V_icmpge (tgt := 83) dX5_countInto_32 (by decide) (fun h5 => ?_) (fun h5 => ?_)
    · refine V_iinc (k := 2) (v := x2 + 1) (lv' := [(2, .int (x2 + 1)), (0, .ref 36), (1, .ref x1), (3, .int x3)]) dX5_countInto_83 rfl rfl (by decide) rfl ?_
      refine V_goto (tgt := 17) dX5_countInto_86 (by decide) ?_
      refine V_sub [1, 2, 0] rfl ?_
      exact hk17 M x1 (x2 + 1) f1 hI
    · refine V_aload_n (k := 1) dX5_countInto_35 rfl rfl ?_
      refine V_iload_n (k := 3) dX5_countInto_36 rfl rfl ?_
      refine V_callVi (q := (RX3, TX3, 12)) (cls := 3) (st0 := []) (kc' := 0) (ks' := 0) dX5_countInto_37 lk_X5_53 rfl (v_LP f1).1 (v_LP f1).2.1 rfl rfl (cX3_startAt_ok M x1 x3 f1 hI) rfl rfl (by decide) (by decide) (Nat.le_of_ble_eq_true rfl) (Or.inl rfl) rfl rfl (by decide) (by decide) (fun y6 M7 e8 hI9 => ?_)
      refine V_iload_n (k := 2) dX5_countInto_40 rfl rfl ?_
      refine V_icmpne (tgt := 77) dX5_countInto_41 (by decide) (fun h10 => ?_) (fun h10 => ?_)
      · refine V_iinc (k := 3) (v := x3 + 1) (lv' := [(3, .int (x3 + 1)), (0, .ref 36), (1, .ref x1), (2, .int x2)]) dX5_countInto_77 rfl rfl (by decide) rfl ?_
        refine V_goto (tgt := 27) dX5_countInto_80 (by decide) ?_
        refine V_sub [1, 2, 3, 0] rfl ?_
        exact ih M7 x1 x2 (x3 + 1) f1 hI9
      · refine V_aload_n (k := 0) dX5_countInto_44 rfl rfl ?_
        refine V_getr (k := 37) dX5_countInto_45 rfl (by decide) vf_X5_9 (by decide) (v_fin hI9 44 rfl) ?_
        refine V_aload_n (k := 1) dX5_countInto_48 rfl rfl ?_
        refine V_iload_n (k := 3) dX5_countInto_49 rfl rfl ?_
        refine V_callVi (q := (RX3, TX3, 12)) (cls := 3) (st0 := [.ref 37]) (kc' := 0) (ks' := 0) dX5_countInto_50 lk_X5_57 rfl (v_LP f1).1 (v_LP f1).2.1 rfl rfl (cX3_endAt_ok M7 x1 x3 f1 hI9) rfl rfl (by decide) (by decide) (Nat.le_of_ble_eq_true rfl) (Or.inl rfl) rfl rfl (by decide) (by decide) (fun y11 M12 e13 hI14 => ?_)
        refine V_aload_n (k := 0) dX5_countInto_53 rfl rfl ?_
        refine V_getr (k := 37) dX5_countInto_54 rfl (by decide) vf_X5_9 (by decide) (v_fin hI14 44 rfl) ?_
        refine V_aload_n (k := 1) dX5_countInto_57 rfl rfl ?_
        refine V_iload_n (k := 3) dX5_countInto_58 rfl rfl ?_
        refine V_callVi (q := (RX3, TX3, 12)) (cls := 3) (st0 := [.ref 37, .int y11, .ref 37]) (kc' := 0) (ks' := 0) dX5_countInto_59 lk_X5_57 rfl (v_LP f1).1 (v_LP f1).2.1 rfl rfl (cX3_endAt_ok M12 x1 x3 f1 hI14) rfl rfl (by decide) (by decide) (Nat.le_of_ble_eq_true rfl) (Or.inl rfl) rfl rfl (by decide) (by decide) (fun y15 M16 e17 hI18 => ?_)
        refine V_callSi (st0 := [.int y11, .ref 37]) (kc' := 0) (ks' := 0) dX5_countInto_62 lk_X5_34 rfl (cX10_at_ok M16 37 y15 (v_isA_of (by decide) rfl) hI18) rfl rfl (by decide) (by decide) (Nat.le_of_ble_eq_true rfl) (Or.inl rfl) rfl rfl (by decide) (by decide) (fun y19 M20 e21 hI22 => ?_)
        refine V_aload_n (k := 0) dX5_countInto_65 rfl rfl ?_
        refine V_getr (k := 37) dX5_countInto_66 rfl (by decide) vf_X5_9 (by decide) (v_fin hI22 44 rfl) ?_
        refine V_iload_n (k := 2) dX5_countInto_69 rfl rfl ?_
        refine V_callSi (st0 := [.int y19, .int y11, .ref 37]) (kc' := 0) (ks' := 0) dX5_countInto_70 lk_X5_34 rfl (cX10_at_ok M20 37 x2 (v_isA_of (by decide) rfl) hI22) rfl rfl (by decide) (by decide) (Nat.le_of_ble_eq_true rfl) (Or.inl rfl) rfl rfl (by decide) (by decide) (fun y23 M24 e25 hI26 => ?_)
        refine V_iadd dX5_countInto_73 ?_
        refine V_callSv (st0 := []) (kc' := 0) (ks' := 0) dX5_countInto_74 lk_X5_60 rfl (cX10_put_ok M24 37 y11 (y19 + y23) (v_isA_of (by decide) rfl) hI26) rfl rfl (by decide) (by decide) (Nat.le_of_ble_eq_true rfl) (Or.inl rfl) rfl rfl (by decide) (by decide) (fun  M27 e28 hI29 => ?_)
        refine V_iinc (k := 3) (v := x3 + 1) (lv' := [(3, .int (x3 + 1)), (0, .ref 36), (1, .ref x1), (2, .int x2)]) dX5_countInto_77 rfl rfl (by decide) rfl ?_
        refine V_goto (tgt := 27) dX5_countInto_80 (by decide) ?_
        refine V_sub [1, 2, 3, 0] rfl ?_
        exact ih M27 x1 x2 (x3 + 1) f1 hI29
def fX5_countInto_17 : Nat → vM → Nat → Int32 → Option (vR × vM)
  | 0, _, _, _ => none
  | n9 + 1, M, x1, x2 => if (M.1 x1 1) ≤ x2 then rV M else fX5_countInto_27 (fX5_countInto_17 n9) FU M x1 x2 0
set_option maxRecDepth 20000 in
set_option maxHeartbeats 2000000 in
theorem vX5_countInto_17 {l : Launch} {D : va_G} {dA : Nat → ClassId} : ∀ (n9 : Nat) (M : vM) (x1 : Nat) (x2 : Int32) (f1 : v_isP x1), v_WT M.2.2 → V l D dA sX5_countInto false 175 3 0 0 17 [(0, .ref 36), (1, .ref x1), (2, .int x2)] [] 175 M (fX5_countInto_17 n9 M x1 x2) := by
  intro n9
  induction n9 with
  | zero => intros; exact V_none
  | succ n9 ih =>
    intro M x1 x2 f1 hI
    refine V_iload_n (k := 2) dX5_countInto_17 rfl rfl ?_
    refine V_aload_n (k := 1) dX5_countInto_18 rfl rfl ?_
    refine V_geti dX5_countInto_19 (v_LP f1).2.1 (v_LP f1).1 vf_X5_29 (by decide) ?_
    refine V_icmpge (tgt := 89) dX5_countInto_22 (by decide) (fun h30 => ?_) (fun h30 => ?_)
    · exact V_ret (fun _ => hI) (Or.inl ⟨rfl, rfl⟩) dX5_countInto_89 (fun ty x h1 h2 => by cases h1) rfl
    · refine V_iconst (v := 0) dX5_countInto_25 rfl ?_
      refine V_istore_n (lv' := [(3, .int 0), (0, .ref 36), (1, .ref x1), (2, .int x2)]) dX5_countInto_26 rfl (by decide) rfl ?_
      refine V_sub [1, 2, 3, 0] rfl ?_
      exact vX5_countInto_27 (ih) FU M x1 x2 0 f1 hI
def fX5_countInto (M : vM) (x1 : Nat) : Option (vR × vM) := bv (fJ7_fill_53178 M 37 0) fun M31 => if v_in 0 12 = true then fX5_countInto_17 FU (v_si M31 37 (Int32.toNatClampNeg 0) 1) x1 0 else none
set_option maxRecDepth 20000 in
set_option maxHeartbeats 2000000 in
theorem cX5_countInto_ok {l : Launch} {D : va_G} {dA : Nat → ClassId} (M : vM) (x1 : Nat) (f1 : v_isP x1) (hI : v_WT M.2.2) : Ct l D dA sX5_countInto false 175 3 0 0 175 [.ref 36, .ref x1] M (fX5_countInto M x1) := by
  refine Ct_of (lv := [(0, .ref 36), (1, .ref x1)]) (by decide +kernel) rfl (Nat.le_of_ble_eq_true rfl) rfl (fun h => by cases h) ?_
  refine V_aload_n (k := 0) dX5_countInto_0 rfl rfl ?_
  refine V_getr (k := 37) dX5_countInto_1 rfl (by decide) vf_X5_9 (by decide) (v_fin hI 44 rfl) ?_
  refine V_iconst (v := 0) dX5_countInto_4 rfl ?_
  refine V_callSv (st0 := []) (kc' := 0) (ks' := 0) dX5_countInto_5 lk_X5_44 rfl (cJ7_fill_53178_ok M 37 0 (v_isA_of (by decide) rfl) hI) rfl rfl (by decide) (by decide) (Nat.le_of_ble_eq_true rfl) (Or.inl rfl) rfl rfl (by decide) (by decide) (fun  M31 e32 hI33 => ?_)
  refine V_aload_n (k := 0) dX5_countInto_8 rfl rfl ?_
  refine V_getr (k := 37) dX5_countInto_9 rfl (by decide) vf_X5_9 (by decide) (v_fin hI33 44 rfl) ?_
  refine V_iconst (v := 0) dX5_countInto_12 rfl ?_
  refine V_iconst (v := 1) dX5_countInto_13 rfl ?_
  refine V_iast dX5_countInto_14 rfl (by decide) (fun h34 => ?_)
  refine V_iconst (v := 0) dX5_countInto_15 rfl ?_
  refine V_istore_n (lv' := [(2, .int 0), (0, .ref 36), (1, .ref x1)]) dX5_countInto_16 rfl (by decide) rfl ?_
  refine V_sub [1, 2, 0] rfl ?_
  exact vX5_countInto_17 FU (v_si M31 37 (Int32.toNatClampNeg 0) 1) x1 0 f1 hI33
