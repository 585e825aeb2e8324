def fX10_workOf (M : vM) (x1 : Int32) : Option (vR × vM) := if x1 < 0 then rT 1 M else if x1 < (M.1 0 12) then if v_in x1 6 = true then rR (46 + 15 * (Int32.toNatClampNeg x1)) M else none else rT 1 M
set_option maxRecDepth 20000 in
set_option maxHeartbeats 2000000 in
theorem cX10_workOf_ok {l : Launch} {D : va_G} {dA : Nat → ClassId} (hT : l.stackTraces = false) (M : vM) (x1 : Int32) (hI : v_WT M.2.2) : Ct l D dA sX10_workOf false 175 6 1 6 175 [.ref 0, .int x1] M (fX10_workOf M x1) := by
  refine Ct_of (lv := [(0, .ref 0), (1, .int x1)]) (by decide +kernel) rfl (Nat.le_of_ble_eq_true rfl) rfl (fun h => by cases h) ?_
  refine V_iload_n (k := 1) dX10_workOf_0 rfl rfl ?_
  refine V_iflt (tgt := 12) dX10_workOf_1 (by decide) (fun h4 => ?_) (fun h4 => ?_)
  · exact V_throwNW (sid := 19) (text := "no such work") (fun _ => hI) hT rfl (by decide +kernel) dX10_workOf_12 dX10_workOf_15 dX10_workOf_16 dX10_workOf_19 dX10_workOf_22 rfl (by decide) (by decide) (by decide) (Nat.le_of_ble_eq_true rfl)
  · refine V_iload_n (k := 1) dX10_workOf_4 rfl rfl ?_
    refine V_aload_n (k := 0) dX10_workOf_5 rfl rfl ?_
    refine V_geti dX10_workOf_6 rfl (by decide) vf_X10_129 (by decide) ?_
    refine V_icmplt (tgt := 23) dX10_workOf_9 (by decide) (fun h5 => ?_) (fun h5 => ?_)
    · refine V_aload_n (k := 0) dX10_workOf_23 rfl rfl ?_
      refine V_getr (k := 5) dX10_workOf_24 rfl (by decide) vf_X10_33 (by decide) (v_fin hI 3 rfl) ?_
      refine V_iload_n (k := 1) dX10_workOf_27 rfl rfl ?_
      refine V_aald (k := (46 + 15 * (Int32.toNatClampNeg x1))) dX10_workOf_28 rfl (by decide) (by decide) rfl (fun h6 => v_wrk hI h6) (fun h6 => ?_)
      exact V_ret (fun _ => hI) (Or.inr (Or.inr (Or.inr (Or.inr (Or.inl ⟨_, rfl, _, rfl⟩))))) dX10_workOf_29 (fun ty x h1 h2 => by cases h2) rfl
    · exact V_throwNW (sid := 19) (text := "no such work") (fun _ => hI) hT rfl (by decide +kernel) dX10_workOf_12 dX10_workOf_15 dX10_workOf_16 dX10_workOf_19 dX10_workOf_22 rfl (by decide) (by decide) (by decide) (Nat.le_of_ble_eq_true rfl)
theorem wX10_workOf_ret {M : vM} {x : Int32} {y : Nat} {M1 : vM} (h : fX10_workOf M x = rR y M1) : v_isW y := by
  unfold fX10_workOf at h
  by_cases h1 : x < 0
  · rw [if_pos h1] at h; cases h
  · rw [if_neg h1] at h
    by_cases h2 : x < M.1 0 12
    · rw [if_pos h2] at h
      by_cases h3 : v_in x 6 = true
      · rw [if_pos h3] at h; cases h; exact v_wrkW h3
      · rw [if_neg h3] at h; cases h
    · rw [if_neg h2] at h; cases h
def fX10_refuseUnlessWhat (M : vM) (x0 : Int32) (x1 : Int32) : Option (vR × vM) := if x0 < 0 then rT 1 M else if x0 < x1 then rV M else rT 1 M
set_option maxRecDepth 20000 in
set_option maxHeartbeats 2000000 in
theorem cX10_refuseUnlessWhat_ok {l : Launch} {D : va_G} {dA : Nat → ClassId} (hT : l.stackTraces = false) (M : vM) (x0 : Int32) (x1 : Int32) (hI : v_WT M.2.2) : Ct l D dA sX10_refuseUnlessWhat false 175 6 1 6 175 [.int x0, .int x1] M (fX10_refuseUnlessWhat M x0 x1) := by
  refine Ct_of (lv := [(0, .int x0), (1, .int x1)]) (by decide +kernel) rfl (Nat.le_of_ble_eq_true rfl) rfl (fun h => by cases h) ?_
  refine V_iload_n (k := 0) dX10_refuseUnlessWhat_0 rfl rfl ?_
  refine V_iflt (tgt := 9) dX10_refuseUnlessWhat_1 (by decide) (fun h3 => ?_) (fun h3 => ?_)
  · exact V_throwN (sid := 18) (text := "no such what") (fun _ => hI) hT rfl (by decide +kernel) dX10_refuseUnlessWhat_9 dX10_refuseUnlessWhat_12 dX10_refuseUnlessWhat_13 dX10_refuseUnlessWhat_15 dX10_refuseUnlessWhat_18 rfl (by decide) (by decide) (by decide) (Nat.le_of_ble_eq_true rfl)
  · refine V_iload_n (k := 0) dX10_refuseUnlessWhat_4 rfl rfl ?_
    refine V_iload_n (k := 1) dX10_refuseUnlessWhat_5 rfl rfl ?_
    refine V_icmplt (tgt := 19) dX10_refuseUnlessWhat_6 (by decide) (fun h4 => ?_) (fun h4 => ?_)
    · exact V_ret (fun _ => hI) (Or.inl ⟨rfl, rfl⟩) dX10_refuseUnlessWhat_19 (fun ty x h1 h2 => by cases h1) rfl
    · exact V_throwN (sid := 18) (text := "no such what") (fun _ => hI) hT rfl (by decide +kernel) dX10_refuseUnlessWhat_9 dX10_refuseUnlessWhat_12 dX10_refuseUnlessWhat_13 dX10_refuseUnlessWhat_15 dX10_refuseUnlessWhat_18 rfl (by decide) (by decide) (by decide) (Nat.le_of_ble_eq_true rfl)
def fX10_refuseUnlessWithin (M : vM) (x0 : Int32) (x1 : Int32) (x2 : Int32) : Option (vR × vM) := if x0 < x1 then rT 2 M else if x0 ≤ x2 then rV M else rT 2 M
set_option maxRecDepth 20000 in
set_option maxHeartbeats 2000000 in
theorem cX10_refuseUnlessWithin_ok {l : Launch} {D : va_G} {dA : Nat → ClassId} (hT : l.stackTraces = false) (M : vM) (x0 : Int32) (x1 : Int32) (x2 : Int32) (hI : v_WT M.2.2) : Ct l D dA sX10_refuseUnlessWithin false 175 6 1 6 175 [.int x0, .int x1, .int x2] M (fX10_refuseUnlessWithin M x0 x1 x2) := by
  refine Ct_of (lv := [(0, .int x0), (1, .int x1), (2, .int x2)]) (by decide +kernel) rfl (Nat.le_of_ble_eq_true rfl) rfl (fun h => by cases h) ?_
  refine V_iload_n (k := 0) dX10_refuseUnlessWithin_0 rfl rfl ?_
  refine V_iload_n (k := 1) dX10_refuseUnlessWithin_1 rfl rfl ?_
  refine V_icmplt (tgt := 10) dX10_refuseUnlessWithin_2 (by decide) (fun h3 => ?_) (fun h3 => ?_)
  · exact V_throwW (k := 2) (sid := 13) (text := "a number that is not as told") (fun _ => hI) hT (by decide +kernel) gw560 gw96 (by decide +kernel) (v_th th_iae) th_iaeg dX10_refuseUnlessWithin_10 dX10_refuseUnlessWithin_13 dX10_refuseUnlessWithin_14 dX10_refuseUnlessWithin_17 dX10_refuseUnlessWithin_20 rfl (by decide) (by decide) (by decide) (Nat.le_of_ble_eq_true rfl)
  · refine V_iload_n (k := 0) dX10_refuseUnlessWithin_5 rfl rfl ?_
    refine V_iload_n (k := 2) dX10_refuseUnlessWithin_6 rfl rfl ?_
    refine V_icmple (tgt := 21) dX10_refuseUnlessWithin_7 (by decide) (fun h4 => ?_) (fun h4 => ?_)
    · exact V_ret (fun _ => hI) (Or.inl ⟨rfl, rfl⟩) dX10_refuseUnlessWithin_21 (fun ty x h1 h2 => by cases h1) rfl
    · exact V_throwW (k := 2) (sid := 13) (text := "a number that is not as told") (fun _ => hI) hT (by decide +kernel) gw560 gw96 (by decide +kernel) (v_th th_iae) th_iaeg dX10_refuseUnlessWithin_10 dX10_refuseUnlessWithin_13 dX10_refuseUnlessWithin_14 dX10_refuseUnlessWithin_17 dX10_refuseUnlessWithin_20 rfl (by decide) (by decide) (by decide) (Nat.le_of_ble_eq_true rfl)
def fX9_has (M : vM) (x0 : Nat) (x1 : Int32) : Option (vR × vM) := if x1 < 0 then rI 0 M else if (M.1 x0 1) ≤ x1 then rI 0 M else if 1458 ≤ x1 then rI 0 M else rI 1 M
set_option maxRecDepth 20000 in
set_option maxHeartbeats 2000000 in
theorem cX9_has_ok {l : Launch} {D : va_G} {dA : Nat → ClassId} (M : vM) (x0 : Nat) (x1 : Int32) (f0 : v_isW x0) (hI : v_WT M.2.2) : Ct l D dA sX9_has false 175 1 0 0 175 [.ref x0, .int x1] M (fX9_has M x0 x1) := by
  refine Ct_of (lv := [(0, .ref x0), (1, .int x1)]) (by decide +kernel) rfl (Nat.le_of_ble_eq_true rfl) rfl (fun h => by cases h) ?_
  refine V_iload_n (k := 1) dX9_has_0 rfl rfl ?_
  refine V_iflt (tgt := 23) dX9_has_1 (by decide) (fun h4 => ?_) (fun h4 => ?_)
  · refine V_iconst (v := 0) dX9_has_23 rfl ?_
    exact V_ret (fun _ => hI) (Or.inr (Or.inr (Or.inl ⟨rfl, _, rfl⟩))) dX9_has_24 (fun ty x h1 h2 => by cases h1; cases h2; rfl) rfl
  · refine V_iload_n (k := 1) dX9_has_4 rfl rfl ?_
    refine V_aload_n (k := 0) dX9_has_5 rfl rfl ?_
    refine V_geti dX9_has_6 (v_LW f0).2.1 (v_LW f0).1 vf_X9_23 (by decide) ?_
    refine V_icmpge (tgt := 23) dX9_has_9 (by decide) (fun h5 => ?_) (fun h5 => ?_)
    · refine V_iconst (v := 0) dX9_has_23 rfl ?_
      exact V_ret (fun _ => hI) (Or.inr (Or.inr (Or.inl ⟨rfl, _, rfl⟩))) dX9_has_24 (fun ty x h1 h2 => by cases h1; cases h2; rfl) rfl
    · refine V_iload_n (k := 1) dX9_has_12 rfl rfl ?_
      refine V_sipush (v := 1458) dX9_has_13 rfl ?_
      refine V_icmpge (tgt := 23) dX9_has_16 (by decide) (fun h6 => ?_) (fun h6 => ?_)
      · refine V_iconst (v := 0) dX9_has_23 rfl ?_
        exact V_ret (fun _ => hI) (Or.inr (Or.inr (Or.inl ⟨rfl, _, rfl⟩))) dX9_has_24 (fun ty x h1 h2 => by cases h1; cases h2; rfl) rfl
      · refine V_iconst (v := 1) dX9_has_19 rfl ?_
        refine V_goto (tgt := 24) dX9_has_20 (by decide) ?_
        exact V_ret (fun _ => hI) (Or.inr (Or.inr (Or.inl ⟨rfl, _, rfl⟩))) dX9_has_24 (fun ty x h1 h2 => by cases h1; cases h2; rfl) rfl
def fX9_isSpent (M : vM) (x0 : Nat) (x1 : Int32) : Option (vR × vM) := bi (fX9_has M x0 x1) fun y4 M5 => if y4 = 0 then rI 1 M5 else if v_in x1 1458 = true then if (M5.1 (x0 + 8) (Int32.toNatClampNeg x1)) = 0 then rI 0 M5 else rI 1 M5 else none
set_option maxRecDepth 20000 in
set_option maxHeartbeats 2000000 in
theorem cX9_isSpent_ok {l : Launch} {D : va_G} {dA : Nat → ClassId} (M : vM) (x0 : Nat) (x1 : Int32) (f0 : v_isW x0) (hI : v_WT M.2.2) : Ct l D dA sX9_isSpent false 175 2 0 0 175 [.ref x0, .int x1] M (fX9_isSpent M x0 x1) := by
  refine Ct_of (lv := [(0, .ref x0), (1, .int x1)]) (by decide +kernel) rfl (Nat.le_of_ble_eq_true rfl) rfl (fun h => by cases h) ?_
  refine V_aload_n (k := 0) dX9_isSpent_0 rfl rfl ?_
  refine V_iload_n (k := 1) dX9_isSpent_1 rfl rfl ?_
  refine V_callVi (q := (RX9, TX9, 6)) (cls := 9) (st0 := []) (kc' := 0) (ks' := 0) dX9_isSpent_2 lk_X9_94 rfl (v_LW f0).1 (v_LW f0).2.1 rfl rfl (cX9_has_ok M x0 x1 f0 hI) rfl rfl (by decide) (by decide) (Nat.le_of_ble_eq_true rfl) (Or.inl rfl) rfl rfl (by decide) (by decide) (fun y4 M5 e6 hI7 => ?_)
  refine V_ifeq (tgt := 17) dX9_isSpent_5 (by decide) (fun h8 => ?_) (fun h8 => ?_)
  · refine V_iconst (v := 1) dX9_isSpent_17 rfl ?_
    refine V_goto (tgt := 22) dX9_isSpent_18 (by decide) ?_
    exact V_ret (fun _ => hI7) (Or.inr (Or.inr (Or.inl ⟨rfl, _, rfl⟩))) dX9_isSpent_22 (fun ty x h1 h2 => by cases h1; cases h2; rfl) rfl
  · refine V_aload_n (k := 0) dX9_isSpent_8 rfl rfl ?_
    refine V_getr (k := x0 + 8) dX9_isSpent_9 (v_LW f0).2.1 (v_LW f0).1 vf_X9_15 (by decide) (v_finW hI7 f0).2 ?_
    refine V_iload_n (k := 1) dX9_isSpent_12 rfl rfl ?_
    refine V_zald dX9_isSpent_13 (v_LW f0).2.2.2.1 (v_LW f0).2.2.2.2.2 (fun h9 => ?_)
    refine V_ifeq (tgt := 21) dX9_isSpent_14 (by decide) (fun h10 => ?_) (fun h10 => ?_)
    · refine V_iconst (v := 0) dX9_isSpent_21 rfl ?_
      exact V_ret (fun _ => hI7) (Or.inr (Or.inr (Or.inl ⟨rfl, _, rfl⟩))) dX9_isSpent_22 (fun ty x h1 h2 => by cases h1; cases h2; rfl) rfl
    · refine V_iconst (v := 1) dX9_isSpent_17 rfl ?_
      refine V_goto (tgt := 22) dX9_isSpent_18 (by decide) ?_
      exact V_ret (fun _ => hI7) (Or.inr (Or.inr (Or.inl ⟨rfl, _, rfl⟩))) dX9_isSpent_22 (fun ty x h1 h2 => by cases h1; cases h2; rfl) rfl
def fX9_nextUnspent_10 : Nat → vM → Nat → Int32 → Option (vR × vM)
  | 0, _, _, _ => none
  | n9 + 1, M, x0, x2 => if (M.1 x0 1) ≤ x2 then rI ((-1)) M else bi (fX9_isSpent M x0 x2) fun y5 M6 => if y5 = 0 then rI x2 M6 else fX9_nextUnspent_10 n9 M6 x0 (x2 + 1)
set_option maxRecDepth 20000 in
set_option maxHeartbeats 2000000 in
theorem vX9_nextUnspent_10 {l : Launch} {D : va_G} {dA : Nat → ClassId} : ∀ (n9 : Nat) (M : vM) (x0 : Nat) (x2 : Int32) (f0 : v_isW x0), v_WT M.2.2 → V l D dA sX9_nextUnspent false 175 3 0 0 10 [(0, .ref x0), (2, .int x2)] [] 175 M (fX9_nextUnspent_10 n9 M x0 x2) := by
  intro n9
  induction n9 with
  | zero => intros; exact V_none
  | succ n9 ih =>
    intro M x0 x2 f0 hI
    refine V_iload_n (k := 1) dX9_nextUnspent_10 rfl rfl ?_
    refine V_aload_n (k := 0) dX9_nextUnspent_11 rfl rfl ?_
    refine V_geti dX9_nextUnspent_12 (v_LW f0).2.1 (v_LW f0).1 vf_X9_23 (by decide) ?_
    refine V_icmpge (tgt := 34) dX9_nextUnspent_15 (by decide) (fun h4 => ?_) (fun h4 => ?_)
    · refine V_iconst (v := (-1)) dX9_nextUnspent_34 rfl ?_
      exact V_ret (fun _ => hI) (Or.inr (Or.inl ⟨rfl, _, rfl⟩)) dX9_nextUnspent_35 (fun ty x h1 h2 => by cases h1; rfl) rfl
    · refine V_aload_n (k := 0) dX9_nextUnspent_18 rfl rfl ?_
      refine V_iload_n (k := 1) dX9_nextUnspent_19 rfl rfl ?_
      refine V_callVi (q := (RX9, TX9, 6)) (cls := 9) (st0 := []) (kc' := 0) (ks' := 0) dX9_nextUnspent_20 lk_X9_101 rfl (v_LW f0).1 (v_LW f0).2.1 rfl rfl (cX9_isSpent_ok M x0 x2 f0 hI) rfl rfl (by decide) (by decide) (Nat.le_of_ble_eq_true rfl) (Or.inl rfl) rfl rfl (by decide) (by decide) (fun y5 M6 e7 hI8 => ?_)
      refine V_ifne (tgt := 28) dX9_nextUnspent_23 (by decide) (fun h9 => ?_) (fun h9 => ?_)
      · refine V_iinc (k := 1) (v := x2 + 1) (lv' := [(2, .int (x2 + 1)), (0, .ref x0)]) dX9_nextUnspent_28 rfl rfl (by decide) rfl ?_
        refine V_goto (tgt := 10) dX9_nextUnspent_31 (by decide) ?_
        refine V_sub [1, 0] rfl ?_
        exact ih M6 x0 (x2 + 1) f0 hI8
      · refine V_iload_n (k := 1) dX9_nextUnspent_26 rfl rfl ?_
        exact V_ret (fun _ => hI8) (Or.inr (Or.inl ⟨rfl, _, rfl⟩)) dX9_nextUnspent_27 (fun ty x h1 h2 => by cases h1; rfl) rfl
def fX9_nextUnspent (M : vM) (x0 : Nat) (x1 : Int32) : Option (vR × vM) := if 0 ≤ x1 then fX9_nextUnspent_10 FU M x0 x1 else fX9_nextUnspent_10 FU M x0 0
set_option maxRecDepth 20000 in
set_option maxHeartbeats 2000000 in
theorem cX9_nextUnspent_ok {l : Launch} {D : va_G} {dA : Nat → ClassId} (M : vM) (x0 : Nat) (x1 : Int32) (f0 : v_isW x0) (hI : v_WT M.2.2) : Ct l D dA sX9_nextUnspent false 175 3 0 0 175 [.ref x0, .int x1] M (fX9_nextUnspent M x0 x1) := by
  refine Ct_of (lv := [(0, .ref x0), (1, .int x1)]) (by decide +kernel) rfl (Nat.le_of_ble_eq_true rfl) rfl (fun h => by cases h) ?_
  refine V_iload_n (k := 1) dX9_nextUnspent_0 rfl rfl ?_
  refine V_ifge (tgt := 8) dX9_nextUnspent_1 (by decide) (fun h10 => ?_) (fun h10 => ?_)
  · refine V_iload_n (k := 1) dX9_nextUnspent_8 rfl rfl ?_
    refine V_istore_n (lv' := [(2, .int x1), (0, .ref x0), (1, .int x1)]) dX9_nextUnspent_9 rfl (by decide) rfl ?_
    refine V_sub [1, 0] rfl ?_
    exact vX9_nextUnspent_10 FU M x0 x1 f0 hI
  · refine V_iconst (v := 0) dX9_nextUnspent_4 rfl ?_
    refine V_goto (tgt := 9) dX9_nextUnspent_5 (by decide) ?_
    refine V_istore_n (lv' := [(2, .int 0), (0, .ref x0), (1, .int x1)]) dX9_nextUnspent_9 rfl (by decide) rfl ?_
    refine V_sub [1, 0] rfl ?_
    exact vX9_nextUnspent_10 FU M x0 0 f0 hI
def fX9_markOf (M : vM) (x0 : Nat) (x1 : Int32) : Option (vR × vM) := bi (fX9_has M x0 x1) fun y3 M4 => if y3 = 0 then rI 0 M4 else if v_in x1 1458 = true then rI ((Int64.toInt32 (M4.2.1 (x0 + 7) (Int32.toNatClampNeg x1))) &&& 1048575) M4 else none
set_option maxRecDepth 20000 in
set_option maxHeartbeats 2000000 in
theorem cX9_markOf_ok {l : Launch} {D : va_G} {dA : Nat → ClassId} (M : vM) (x0 : Nat) (x1 : Int32) (f0 : v_isW x0) (hI : v_WT M.2.2) : Ct l D dA sX9_markOf false 175 2 0 0 175 [.ref x0, .int x1] M (fX9_markOf M x0 x1) := by
  refine Ct_of (lv := [(0, .ref x0), (1, .int x1)]) (by decide +kernel) rfl (Nat.le_of_ble_eq_true rfl) rfl (fun h => by cases h) ?_
  refine V_aload_n (k := 0) dX9_markOf_0 rfl rfl ?_
  refine V_iload_n (k := 1) dX9_markOf_1 rfl rfl ?_
  refine V_callVi (q := (RX9, TX9, 6)) (cls := 9) (st0 := []) (kc' := 0) (ks' := 0) dX9_markOf_2 lk_X9_94 rfl (v_LW f0).1 (v_LW f0).2.1 rfl rfl (cX9_has_ok M x0 x1 f0 hI) rfl rfl (by decide) (by decide) (Nat.le_of_ble_eq_true rfl) (Or.inl rfl) rfl rfl (by decide) (by decide) (fun y3 M4 e5 hI6 => ?_)
  refine V_ifeq (tgt := 21) dX9_markOf_5 (by decide) (fun h7 => ?_) (fun h7 => ?_)
  · refine V_iconst (v := 0) dX9_markOf_21 rfl ?_
    exact V_ret (fun _ => hI6) (Or.inr (Or.inl ⟨rfl, _, rfl⟩)) dX9_markOf_22 (fun ty x h1 h2 => by cases h1; rfl) rfl
  · refine V_aload_n (k := 0) dX9_markOf_8 rfl rfl ?_
    refine V_getr (k := x0 + 7) dX9_markOf_9 (v_LW f0).2.1 (v_LW f0).1 vf_X9_9 (by decide) (v_finW hI6 f0).1 ?_
    refine V_iload_n (k := 1) dX9_markOf_12 rfl rfl ?_
    refine V_lald dX9_markOf_13 (v_LW f0).2.2.1 (v_LW f0).2.2.2.2.1 (fun h8 => ?_)
    refine V_l2i dX9_markOf_14 ?_
    refine V_ldc dX9_markOf_15 gw538 ?_
    refine V_iand dX9_markOf_17 ?_
    refine V_goto (tgt := 22) dX9_markOf_18 (by decide) ?_
    exact V_ret (fun _ => hI6) (Or.inr (Or.inl ⟨rfl, _, rfl⟩)) dX9_markOf_22 (fun ty x h1 h2 => by cases h1; rfl) rfl
def fX10_put (M : vM) (x0 : Nat) (x1 : Int32) (x2 : Int32) : Option (vR × vM) := if x1 < 0 then rV M else if (nI ((v_LAY x0).2.2)) ≤ x1 then rV M else if v_in x1 (v_LAY x0).2.2 = true then rV (v_si M x0 (Int32.toNatClampNeg x1) x2) else none
set_option maxRecDepth 20000 in
set_option maxHeartbeats 2000000 in
theorem cX10_put_ok {l : Launch} {D : va_G} {dA : Nat → ClassId} (M : vM) (x0 : Nat) (x1 : Int32) (x2 : Int32) (f0 : v_isA 0 x0) (hI : v_WT M.2.2) : Ct l D dA sX10_put false 175 1 0 0 175 [.ref x0, .int x1, .int x2] M (fX10_put M x0 x1 x2) := by
  refine Ct_of (lv := [(0, .ref x0), (1, .int x1), (2, .int x2)]) (by decide +kernel) rfl (Nat.le_of_ble_eq_true rfl) rfl (fun h => by cases h) ?_
  refine V_iload_n (k := 1) dX10_put_0 rfl rfl ?_
  refine V_iflt (tgt := 14) dX10_put_1 (by decide) (fun h4 => ?_) (fun h4 => ?_)
  · exact V_ret (fun _ => hI) (Or.inl ⟨rfl, rfl⟩) dX10_put_14 (fun ty x h1 h2 => by cases h1) rfl
  · refine V_iload_n (k := 1) dX10_put_4 rfl rfl ?_
    refine V_aload_n (k := 0) dX10_put_5 rfl rfl ?_
    refine V_alen dX10_put_6 f0.2 f0.1 (by decide) ?_
    refine V_icmpge (tgt := 14) dX10_put_7 (by decide) (fun h5 => ?_) (fun h5 => ?_)
    · exact V_ret (fun _ => hI) (Or.inl ⟨rfl, rfl⟩) dX10_put_14 (fun ty x h1 h2 => by cases h1) rfl
    · refine V_aload_n (k := 0) dX10_put_10 rfl rfl ?_
      refine V_iload_n (k := 1) dX10_put_11 rfl rfl ?_
      refine V_iload_n (k := 2) dX10_put_12 rfl rfl ?_
      refine V_iast dX10_put_13 f0.2 f0.1 (fun h6 => ?_)
      exact V_ret (fun _ => hI) (Or.inl ⟨rfl, rfl⟩) dX10_put_14 (fun ty x h1 h2 => by cases h1) rfl
def fX9_costOf (M : vM) (x0 : Nat) (x1 : Int32) : Option (vR × vM) := bi (fX9_has M x0 x1) fun y3 M4 => if y3 = 0 then rI 0 M4 else if v_in x1 1458 = true then rI (Int64.toInt32 ((M4.2.1 (x0 + 7) (Int32.toNatClampNeg x1)) >>> (Int32.toInt64 20 &&& 63))) M4 else none
set_option maxRecDepth 20000 in
set_option maxHeartbeats 2000000 in
theorem cX9_costOf_ok {l : Launch} {D : va_G} {dA : Nat → ClassId} (M : vM) (x0 : Nat) (x1 : Int32) (f0 : v_isW x0) (hI : v_WT M.2.2) : Ct l D dA sX9_costOf false 175 2 0 0 175 [.ref x0, .int x1] M (fX9_costOf M x0 x1) := by
  refine Ct_of (lv := [(0, .ref x0), (1, .int x1)]) (by decide +kernel) rfl (Nat.le_of_ble_eq_true rfl) rfl (fun h => by cases h) ?_
  refine V_aload_n (k := 0) dX9_costOf_0 rfl rfl ?_
  refine V_iload_n (k := 1) dX9_costOf_1 rfl rfl ?_
  refine V_callVi (q := (RX9, TX9, 6)) (cls := 9) (st0 := []) (kc' := 0) (ks' := 0) dX9_costOf_2 lk_X9_94 rfl (v_LW f0).1 (v_LW f0).2.1 rfl rfl (cX9_has_ok M x0 x1 f0 hI) rfl rfl (by decide) (by decide) (Nat.le_of_ble_eq_true rfl) (Or.inl rfl) rfl rfl (by decide) (by decide) (fun y3 M4 e5 hI6 => ?_)
  refine V_ifeq (tgt := 21) dX9_costOf_5 (by decide) (fun h7 => ?_) (fun h7 => ?_)
  · refine V_iconst (v := 0) dX9_costOf_21 rfl ?_
    exact V_ret (fun _ => hI6) (Or.inr (Or.inl ⟨rfl, _, rfl⟩)) dX9_costOf_22 (fun ty x h1 h2 => by cases h1; rfl) rfl
  · refine V_aload_n (k := 0) dX9_costOf_8 rfl rfl ?_
    refine V_getr (k := x0 + 7) dX9_costOf_9 (v_LW f0).2.1 (v_LW f0).1 vf_X9_9 (by decide) (v_finW hI6 f0).1 ?_
    refine V_iload_n (k := 1) dX9_costOf_12 rfl rfl ?_
    refine V_lald dX9_costOf_13 (v_LW f0).2.2.1 (v_LW f0).2.2.2.2.1 (fun h8 => ?_)
    refine V_bipush (v := 20) dX9_costOf_14 rfl ?_
    refine V_lshr dX9_costOf_16 ?_
    refine V_l2i dX9_costOf_17 ?_
    refine V_goto (tgt := 22) dX9_costOf_18 (by decide) ?_
    exact V_ret (fun _ => hI6) (Or.inr (Or.inl ⟨rfl, _, rfl⟩)) dX9_costOf_22 (fun ty x h1 h2 => by cases h1; rfl) rfl
def fX10_at (M : vM) (x0 : Nat) (x1 : Int32) : Option (vR × vM) := if x1 < 0 then rI 0 M else if (nI ((v_LAY x0).2.2)) ≤ x1 then rI 0 M else if v_in x1 (v_LAY x0).2.2 = true then rI (M.1 x0 (Int32.toNatClampNeg x1)) M else none
set_option maxRecDepth 20000 in
set_option maxHeartbeats 2000000 in
theorem cX10_at_ok {l : Launch} {D : va_G} {dA : Nat → ClassId} (M : vM) (x0 : Nat) (x1 : Int32) (f0 : v_isA 0 x0) (hI : v_WT M.2.2) : Ct l D dA sX10_at false 175 1 0 0 175 [.ref x0, .int x1] M (fX10_at M x0 x1) := by
  refine Ct_of (lv := [(0, .ref x0), (1, .int x1)]) (by decide +kernel) rfl (Nat.le_of_ble_eq_true rfl) rfl (fun h => by cases h) ?_
  refine V_iload_n (k := 1) dX10_at_0 rfl rfl ?_
  refine V_iflt (tgt := 16) dX10_at_1 (by decide) (fun h4 => ?_) (fun h4 => ?_)
  · refine V_iconst (v := 0) dX10_at_16 rfl ?_
    exact V_ret (fun _ => hI) (Or.inr (Or.inl ⟨rfl, _, rfl⟩)) dX10_at_17 (fun ty x h1 h2 => by cases h1; rfl) rfl
  · refine V_iload_n (k := 1) dX10_at_4 rfl rfl ?_
    refine V_aload_n (k := 0) dX10_at_5 rfl rfl ?_
    refine V_alen dX10_at_6 f0.2 f0.1 (by decide) ?_
    refine V_icmpge (tgt := 16) dX10_at_7 (by decide) (fun h5 => ?_) (fun h5 => ?_)
    · refine V_iconst (v := 0) dX10_at_16 rfl ?_
      exact V_ret (fun _ => hI) (Or.inr (Or.inl ⟨rfl, _, rfl⟩)) dX10_at_17 (fun ty x h1 h2 => by cases h1; rfl) rfl
    · refine V_aload_n (k := 0) dX10_at_10 rfl rfl ?_
      refine V_iload_n (k := 1) dX10_at_11 rfl rfl ?_
      refine V_iald dX10_at_12 f0.2 f0.1 (fun h6 => ?_)
      refine V_goto (tgt := 17) dX10_at_13 (by decide) ?_
      exact V_ret (fun _ => hI) (Or.inr (Or.inl ⟨rfl, _, rfl⟩)) dX10_at_17 (fun ty x h1 h2 => by cases h1; rfl) rfl
def fJ6_bitCount_0f7a4 (M : vM) (x0 : Int32) : Option (vR × vM) := rI ((((((((x0 - (((Int32.toUInt32 x0 >>> (Int32.toUInt32 1 &&& Int32.toUInt32 31)).toInt32) &&& 1431655765)) &&& 858993459) + (((Int32.toUInt32 (x0 - (((Int32.toUInt32 x0 >>> (Int32.toUInt32 1 &&& Int32.toUInt32 31)).toInt32) &&& 1431655765)) >>> (Int32.toUInt32 2 &&& Int32.toUInt32 31)).toInt32) &&& 858993459)) + ((Int32.toUInt32 (((x0 - (((Int32.toUInt32 x0 >>> (Int32.toUInt32 1 &&& Int32.toUInt32 31)).toInt32) &&& 1431655765)) &&& 858993459) + (((Int32.toUInt32 (x0 - (((Int32.toUInt32 x0 >>> (Int32.toUInt32 1 &&& Int32.toUInt32 31)).toInt32) &&& 1431655765)) >>> (Int32.toUInt32 2 &&& Int32.toUInt32 31)).toInt32) &&& 858993459)) >>> (Int32.toUInt32 4 &&& Int32.toUInt32 31)).toInt32)) &&& 252645135) + ((Int32.toUInt32 (((((x0 - (((Int32.toUInt32 x0 >>> (Int32.toUInt32 1 &&& Int32.toUInt32 31)).toInt32) &&& 1431655765)) &&& 858993459) + (((Int32.toUInt32 (x0 - (((Int32.toUInt32 x0 >>> (Int32.toUInt32 1 &&& Int32.toUInt32 31)).toInt32) &&& 1431655765)) >>> (Int32.toUInt32 2 &&& Int32.toUInt32 31)).toInt32) &&& 858993459)) + ((Int32.toUInt32 (((x0 - (((Int32.toUInt32 x0 >>> (Int32.toUInt32 1 &&& Int32.toUInt32 31)).toInt32) &&& 1431655765)) &&& 858993459) + (((Int32.toUInt32 (x0 - (((Int32.toUInt32 x0 >>> (Int32.toUInt32 1 &&& Int32.toUInt32 31)).toInt32) &&& 1431655765)) >>> (Int32.toUInt32 2 &&& Int32.toUInt32 31)).toInt32) &&& 858993459)) >>> (Int32.toUInt32 4 &&& Int32.toUInt32 31)).toInt32)) &&& 252645135) >>> (Int32.toUInt32 8 &&& Int32.toUInt32 31)).toInt32)) + ((Int32.toUInt32 ((((((x0 - (((Int32.toUInt32 x0 >>> (Int32.toUInt32 1 &&& Int32.toUInt32 31)).toInt32) &&& 1431655765)) &&& 858993459) + (((Int32.toUInt32 (x0 - (((Int32.toUInt32 x0 >>> (Int32.toUInt32 1 &&& Int32.toUInt32 31)).toInt32) &&& 1431655765)) >>> (Int32.toUInt32 2 &&& Int32.toUInt32 31)).toInt32) &&& 858993459)) + ((Int32.toUInt32 (((x0 - (((Int32.toUInt32 x0 >>> (Int32.toUInt32 1 &&& Int32.toUInt32 31)).toInt32) &&& 1431655765)) &&& 858993459) + (((Int32.toUInt32 (x0 - (((Int32.toUInt32 x0 >>> (Int32.toUInt32 1 &&& Int32.toUInt32 31)).toInt32) &&& 1431655765)) >>> (Int32.toUInt32 2 &&& Int32.toUInt32 31)).toInt32) &&& 858993459)) >>> (Int32.toUInt32 4 &&& Int32.toUInt32 31)).toInt32)) &&& 252645135) + ((Int32.toUInt32 (((((x0 - (((Int32.toUInt32 x0 >>> (Int32.toUInt32 1 &&& Int32.toUInt32 31)).toInt32) &&& 1431655765)) &&& 858993459) + (((Int32.toUInt32 (x0 - (((Int32.toUInt32 x0 >>> (Int32.toUInt32 1 &&& Int32.toUInt32 31)).toInt32) &&& 1431655765)) >>> (Int32.toUInt32 2 &&& Int32.toUInt32 31)).toInt32) &&& 858993459)) + ((Int32.toUInt32 (((x0 - (((Int32.toUInt32 x0 >>> (Int32.toUInt32 1 &&& Int32.toUInt32 31)).toInt32) &&& 1431655765)) &&& 858993459) + (((Int32.toUInt32 (x0 - (((Int32.toUInt32 x0 >>> (Int32.toUInt32 1 &&& Int32.toUInt32 31)).toInt32) &&& 1431655765)) >>> (Int32.toUInt32 2 &&& Int32.toUInt32 31)).toInt32) &&& 858993459)) >>> (Int32.toUInt32 4 &&& Int32.toUInt32 31)).toInt32)) &&& 252645135) >>> (Int32.toUInt32 8 &&& Int32.toUInt32 31)).toInt32)) >>> (Int32.toUInt32 16 &&& Int32.toUInt32 31)).toInt32)) &&& 63) M
set_option maxRecDepth 20000 in
set_option maxHeartbeats 2000000 in
theorem cJ6_bitCount_0f7a4_ok {l : Launch} {D : va_G} {dA : Nat → ClassId} (M : vM) (x0 : Int32) (hI : v_WT M.2.2) : Ct l D dA sJ6_bitCount_0f7a4 false 175 1 0 0 175 [.int x0] M (fJ6_bitCount_0f7a4 M x0) := by
  refine Ct_of (lv := [(0, .int x0)]) (by decide +kernel) rfl (Nat.le_of_ble_eq_true rfl) rfl (fun h => by cases h) ?_
  refine V_iload_n (k := 0) dJ6_bitCount_0f7a4_0 rfl rfl ?_
  refine V_iload_n (k := 0) dJ6_bitCount_0f7a4_1 rfl rfl ?_
  refine V_iconst (v := 1) dJ6_bitCount_0f7a4_2 rfl ?_
  refine V_iushr dJ6_bitCount_0f7a4_3 ?_
  refine V_ldcw dJ6_bitCount_0f7a4_4 gw549 ?_
  refine V_iand dJ6_bitCount_0f7a4_7 ?_
  refine V_isub dJ6_bitCount_0f7a4_8 ?_
  refine V_istore_n (lv' := [(0, .int (x0 - (((Int32.toUInt32 x0 >>> (Int32.toUInt32 1 &&& Int32.toUInt32 31)).toInt32) &&& 1431655765)))]) dJ6_bitCount_0f7a4_9 rfl (by decide) rfl ?_
  refine V_iload_n (k := 0) dJ6_bitCount_0f7a4_10 rfl rfl ?_
  refine V_ldcw dJ6_bitCount_0f7a4_11 gw550 ?_
  refine V_iand dJ6_bitCount_0f7a4_14 ?_
  refine V_iload_n (k := 0) dJ6_bitCount_0f7a4_15 rfl rfl ?_
  refine V_iconst (v := 2) dJ6_bitCount_0f7a4_16 rfl ?_
  refine V_iushr dJ6_bitCount_0f7a4_17 ?_
  refine V_ldcw dJ6_bitCount_0f7a4_18 gw550 ?_
  refine V_iand dJ6_bitCount_0f7a4_21 ?_
  refine V_iadd dJ6_bitCount_0f7a4_22 ?_
  refine V_istore_n (lv' := [(0, .int (((x0 - (((Int32.toUInt32 x0 >>> (Int32.toUInt32 1 &&& Int32.toUInt32 31)).toInt32) &&& 1431655765)) &&& 858993459) + (((Int32.toUInt32 (x0 - (((Int32.toUInt32 x0 >>> (Int32.toUInt32 1 &&& Int32.toUInt32 31)).toInt32) &&& 1431655765)) >>> (Int32.toUInt32 2 &&& Int32.toUInt32 31)).toInt32) &&& 858993459)))]) dJ6_bitCount_0f7a4_23 rfl (by decide) rfl ?_
  refine V_iload_n (k := 0) dJ6_bitCount_0f7a4_24 rfl rfl ?_
  refine V_iload_n (k := 0) dJ6_bitCount_0f7a4_25 rfl rfl ?_
  refine V_iconst (v := 4) dJ6_bitCount_0f7a4_26 rfl ?_
  refine V_iushr dJ6_bitCount_0f7a4_27 ?_
  refine V_iadd dJ6_bitCount_0f7a4_28 ?_
  refine V_ldcw dJ6_bitCount_0f7a4_29 gw551 ?_
  refine V_iand dJ6_bitCount_0f7a4_32 ?_
  refine V_istore_n (lv' := [(0, .int (((((x0 - (((Int32.toUInt32 x0 >>> (Int32.toUInt32 1 &&& Int32.toUInt32 31)).toInt32) &&& 1431655765)) &&& 858993459) + (((Int32.toUInt32 (x0 - (((Int32.toUInt32 x0 >>> (Int32.toUInt32 1 &&& Int32.toUInt32 31)).toInt32) &&& 1431655765)) >>> (Int32.toUInt32 2 &&& Int32.toUInt32 31)).toInt32) &&& 858993459)) + ((Int32.toUInt32 (((x0 - (((Int32.toUInt32 x0 >>> (Int32.toUInt32 1 &&& Int32.toUInt32 31)).toInt32) &&& 1431655765)) &&& 858993459) + (((Int32.toUInt32 (x0 - (((Int32.toUInt32 x0 >>> (Int32.toUInt32 1 &&& Int32.toUInt32 31)).toInt32) &&& 1431655765)) >>> (Int32.toUInt32 2 &&& Int32.toUInt32 31)).toInt32) &&& 858993459)) >>> (Int32.toUInt32 4 &&& Int32.toUInt32 31)).toInt32)) &&& 252645135))]) dJ6_bitCount_0f7a4_33 rfl (by decide) rfl ?_
  refine V_iload_n (k := 0) dJ6_bitCount_0f7a4_34 rfl rfl ?_
  refine V_iload_n (k := 0) dJ6_bitCount_0f7a4_35 rfl rfl ?_
  refine V_bipush (v := 8) dJ6_bitCount_0f7a4_36 rfl ?_
  refine V_iushr dJ6_bitCount_0f7a4_38 ?_
  refine V_iadd dJ6_bitCount_0f7a4_39 ?_
  refine V_istore_n (lv' := [(0, .int ((((((x0 - (((Int32.toUInt32 x0 >>> (Int32.toUInt32 1 &&& Int32.toUInt32 31)).toInt32) &&& 1431655765)) &&& 858993459) + (((Int32.toUInt32 (x0 - (((Int32.toUInt32 x0 >>> (Int32.toUInt32 1 &&& Int32.toUInt32 31)).toInt32) &&& 1431655765)) >>> (Int32.toUInt32 2 &&& Int32.toUInt32 31)).toInt32) &&& 858993459)) + ((Int32.toUInt32 (((x0 - (((Int32.toUInt32 x0 >>> (Int32.toUInt32 1 &&& Int32.toUInt32 31)).toInt32) &&& 1431655765)) &&& 858993459) + (((Int32.toUInt32 (x0 - (((Int32.toUInt32 x0 >>> (Int32.toUInt32 1 &&& Int32.toUInt32 31)).toInt32) &&& 1431655765)) >>> (Int32.toUInt32 2 &&& Int32.toUInt32 31)).toInt32) &&& 858993459)) >>> (Int32.toUInt32 4 &&& Int32.toUInt32 31)).toInt32)) &&& 252645135) + ((Int32.toUInt32 (((((x0 - (((Int32.toUInt32 x0 >>> (Int32.toUInt32 1 &&& Int32.toUInt32 31)).toInt32) &&& 1431655765)) &&& 858993459) + (((Int32.toUInt32 (x0 - (((Int32.toUInt32 x0 >>> (Int32.toUInt32 1 &&& Int32.toUInt32 31)).toInt32) &&& 1431655765)) >>> (Int32.toUInt32 2 &&& Int32.toUInt32 31)).toInt32) &&& 858993459)) + ((Int32.toUInt32 (((x0 - (((Int32.toUInt32 x0 >>> (Int32.toUInt32 1 &&& Int32.toUInt32 31)).toInt32) &&& 1431655765)) &&& 858993459) + (((Int32.toUInt32 (x0 - (((Int32.toUInt32 x0 >>> (Int32.toUInt32 1 &&& Int32.toUInt32 31)).toInt32) &&& 1431655765)) >>> (Int32.toUInt32 2 &&& Int32.toUInt32 31)).toInt32) &&& 858993459)) >>> (Int32.toUInt32 4 &&& Int32.toUInt32 31)).toInt32)) &&& 252645135) >>> (Int32.toUInt32 8 &&& Int32.toUInt32 31)).toInt32)))]) dJ6_bitCount_0f7a4_40 rfl (by decide) rfl ?_
  refine V_iload_n (k := 0) dJ6_bitCount_0f7a4_41 rfl rfl ?_
  refine V_iload_n (k := 0) dJ6_bitCount_0f7a4_42 rfl rfl ?_
  refine V_bipush (v := 16) dJ6_bitCount_0f7a4_43 rfl ?_
  refine V_iushr dJ6_bitCount_0f7a4_45 ?_
  refine V_iadd dJ6_bitCount_0f7a4_46 ?_
  refine V_istore_n (lv' := [(0, .int (((((((x0 - (((Int32.toUInt32 x0 >>> (Int32.toUInt32 1 &&& Int32.toUInt32 31)).toInt32) &&& 1431655765)) &&& 858993459) + (((Int32.toUInt32 (x0 - (((Int32.toUInt32 x0 >>> (Int32.toUInt32 1 &&& Int32.toUInt32 31)).toInt32) &&& 1431655765)) >>> (Int32.toUInt32 2 &&& Int32.toUInt32 31)).toInt32) &&& 858993459)) + ((Int32.toUInt32 (((x0 - (((Int32.toUInt32 x0 >>> (Int32.toUInt32 1 &&& Int32.toUInt32 31)).toInt32) &&& 1431655765)) &&& 858993459) + (((Int32.toUInt32 (x0 - (((Int32.toUInt32 x0 >>> (Int32.toUInt32 1 &&& Int32.toUInt32 31)).toInt32) &&& 1431655765)) >>> (Int32.toUInt32 2 &&& Int32.toUInt32 31)).toInt32) &&& 858993459)) >>> (Int32.toUInt32 4 &&& Int32.toUInt32 31)).toInt32)) &&& 252645135) + ((Int32.toUInt32 (((((x0 - (((Int32.toUInt32 x0 >>> (Int32.toUInt32 1 &&& Int32.toUInt32 31)).toInt32) &&& 1431655765)) &&& 858993459) + (((Int32.toUInt32 (x0 - (((Int32.toUInt32 x0 >>> (Int32.toUInt32 1 &&& Int32.toUInt32 31)).toInt32) &&& 1431655765)) >>> (Int32.toUInt32 2 &&& Int32.toUInt32 31)).toInt32) &&& 858993459)) + ((Int32.toUInt32 (((x0 - (((Int32.toUInt32 x0 >>> (Int32.toUInt32 1 &&& Int32.toUInt32 31)).toInt32) &&& 1431655765)) &&& 858993459) + (((Int32.toUInt32 (x0 - (((Int32.toUInt32 x0 >>> (Int32.toUInt32 1 &&& Int32.toUInt32 31)).toInt32) &&& 1431655765)) >>> (Int32.toUInt32 2 &&& Int32.toUInt32 31)).toInt32) &&& 858993459)) >>> (Int32.toUInt32 4 &&& Int32.toUInt32 31)).toInt32)) &&& 252645135) >>> (Int32.toUInt32 8 &&& Int32.toUInt32 31)).toInt32)) + ((Int32.toUInt32 ((((((x0 - (((Int32.toUInt32 x0 >>> (Int32.toUInt32 1 &&& Int32.toUInt32 31)).toInt32) &&& 1431655765)) &&& 858993459) + (((Int32.toUInt32 (x0 - (((Int32.toUInt32 x0 >>> (Int32.toUInt32 1 &&& Int32.toUInt32 31)).toInt32) &&& 1431655765)) >>> (Int32.toUInt32 2 &&& Int32.toUInt32 31)).toInt32) &&& 858993459)) + ((Int32.toUInt32 (((x0 - (((Int32.toUInt32 x0 >>> (Int32.toUInt32 1 &&& Int32.toUInt32 31)).toInt32) &&& 1431655765)) &&& 858993459) + (((Int32.toUInt32 (x0 - (((Int32.toUInt32 x0 >>> (Int32.toUInt32 1 &&& Int32.toUInt32 31)).toInt32) &&& 1431655765)) >>> (Int32.toUInt32 2 &&& Int32.toUInt32 31)).toInt32) &&& 858993459)) >>> (Int32.toUInt32 4 &&& Int32.toUInt32 31)).toInt32)) &&& 252645135) + ((Int32.toUInt32 (((((x0 - (((Int32.toUInt32 x0 >>> (Int32.toUInt32 1 &&& Int32.toUInt32 31)).toInt32) &&& 1431655765)) &&& 858993459) + (((Int32.toUInt32 (x0 - (((Int32.toUInt32 x0 >>> (Int32.toUInt32 1 &&& Int32.toUInt32 31)).toInt32) &&& 1431655765)) >>> (Int32.toUInt32 2 &&& Int32.toUInt32 31)).toInt32) &&& 858993459)) + ((Int32.toUInt32 (((x0 - (((Int32.toUInt32 x0 >>> (Int32.toUInt32 1 &&& Int32.toUInt32 31)).toInt32) &&& 1431655765)) &&& 858993459) + (((Int32.toUInt32 (x0 - (((Int32.toUInt32 x0 >>> (Int32.toUInt32 1 &&& Int32.toUInt32 31)).toInt32) &&& 1431655765)) >>> (Int32.toUInt32 2 &&& Int32.toUInt32 31)).toInt32) &&& 858993459)) >>> (Int32.toUInt32 4 &&& Int32.toUInt32 31)).toInt32)) &&& 252645135) >>> (Int32.toUInt32 8 &&& Int32.toUInt32 31)).toInt32)) >>> (Int32.toUInt32 16 &&& Int32.toUInt32 31)).toInt32)))]) dJ6_bitCount_0f7a4_47 rfl (by decide) rfl ?_
  refine V_iload_n (k := 0) dJ6_bitCount_0f7a4_48 rfl rfl ?_
  refine V_bipush (v := 63) dJ6_bitCount_0f7a4_49 rfl ?_
  refine V_iand dJ6_bitCount_0f7a4_51 ?_
  exact V_ret (fun _ => hI) (Or.inr (Or.inl ⟨rfl, _, rfl⟩)) dJ6_bitCount_0f7a4_52 (fun ty x h1 h2 => by cases h1; rfl) rfl
def fX6_clashesOf_5 : Nat → vM → Int32 → Int32 → Int32 → Int32 → Option (vR × vM)
  | 0, _, _, _, _, _ => none
  | n9 + 1, M, x1, x2, x3, x4 => if (M.1 28 3) ≤ x4 then rI x3 M else if x4 = x1 then fX6_clashesOf_5 n9 M x1 x2 x3 (x4 + 1) else bi (fX10_at M 29 x4) fun y6 M7 => bi (fX10_at M7 29 x1) fun y10 M11 => bi (fJ6_bitCount_0f7a4 M11 (y6 ^^^ y10)) fun y14 M15 => if x2 ≤ y14 then fX6_clashesOf_5 n9 M15 x1 x2 x3 (x4 + 1) else fX6_clashesOf_5 n9 M15 x1 x2 (x3 ||| (1 <<< (x4 &&& (31 : Int32)))) (x4 + 1)
set_option maxRecDepth 20000 in
set_option maxHeartbeats 2000000 in
theorem vX6_clashesOf_5 {l : Launch} {D : va_G} {dA : Nat → ClassId} : ∀ (n9 : Nat) (M : vM) (x1 : Int32) (x2 : Int32) (x3 : Int32) (x4 : Int32), v_WT M.2.2 → V l D dA sX6_clashesOf false 175 2 0 0 5 [(0, .ref 28), (1, .int x1), (2, .int x2), (3, .int x3), (4, .int x4)] [] 175 M (fX6_clashesOf_5 n9 M x1 x2 x3 x4) := by
  intro n9
  induction n9 with
  | zero => intros; exact V_none
  | succ n9 ih =>
    intro M x1 x2 x3 x4 hI
    refine V_iload (k := 4) dX6_clashesOf_5 rfl ?_
    refine V_aload_n (k := 0) dX6_clashesOf_7 rfl rfl ?_
    refine V_geti dX6_clashesOf_8 rfl (by decide) vf_X6_21 (by decide) ?_
    refine V_icmpge (tgt := 58) dX6_clashesOf_11 (by decide) (fun h4 => ?_) (fun h4 => ?_)
    · refine V_iload_n (k := 3) dX6_clashesOf_58 rfl rfl ?_
      exact V_ret (fun _ => hI) (Or.inr (Or.inl ⟨rfl, _, rfl⟩)) dX6_clashesOf_59 (fun ty x h1 h2 => by cases h1; rfl) rfl
    · refine V_iload (k := 4) dX6_clashesOf_14 rfl ?_
      refine V_iload_n (k := 1) dX6_clashesOf_16 rfl rfl ?_
      refine V_icmpeq (tgt := 52) dX6_clashesOf_17 (by decide) (fun h5 => ?_) (fun h5 => ?_)
      · refine V_iinc (k := 4) (v := x4 + 1) (lv' := [(4, .int (x4 + 1)), (0, .ref 28), (1, .int x1), (2, .int x2), (3, .int x3)]) dX6_clashesOf_52 rfl rfl (by decide) rfl ?_
        refine V_goto (tgt := 5) dX6_clashesOf_55 (by decide) ?_
        refine V_sub [1, 2, 3, 4, 0] rfl ?_
        exact ih M x1 x2 x3 (x4 + 1) hI
      · refine V_aload_n (k := 0) dX6_clashesOf_20 rfl rfl ?_
        refine V_getr (k := 29) dX6_clashesOf_21 rfl (by decide) vf_X6_9 (by decide) (v_fin hI 39 rfl) ?_
        refine V_iload (k := 4) dX6_clashesOf_24 rfl ?_
        refine V_callSi (st0 := []) (kc' := 0) (ks' := 0) dX6_clashesOf_26 lk_X6_58 rfl (cX10_at_ok M 29 x4 (v_isA_of (by decide) rfl) hI) rfl rfl (by decide) (by decide) (Nat.le_of_ble_eq_true rfl) (Or.inl rfl) rfl rfl (by decide) (by decide) (fun y6 M7 e8 hI9 => ?_)
        refine V_aload_n (k := 0) dX6_clashesOf_29 rfl rfl ?_
        refine V_getr (k := 29) dX6_clashesOf_30 rfl (by decide) vf_X6_9 (by decide) (v_fin hI9 39 rfl) ?_
        refine V_iload_n (k := 1) dX6_clashesOf_33 rfl rfl ?_
        refine V_callSi (st0 := [.int y6]) (kc' := 0) (ks' := 0) dX6_clashesOf_34 lk_X6_58 rfl (cX10_at_ok M7 29 x1 (v_isA_of (by decide) rfl) hI9) rfl rfl (by decide) (by decide) (Nat.le_of_ble_eq_true rfl) (Or.inl rfl) rfl rfl (by decide) (by decide) (fun y10 M11 e12 hI13 => ?_)
        refine V_ixor dX6_clashesOf_37 ?_
        refine V_callSi (st0 := []) (kc' := 0) (ks' := 0) dX6_clashesOf_38 lk_X6_62 rfl (cJ6_bitCount_0f7a4_ok M11 (y6 ^^^ y10) hI13) rfl rfl (by decide) (by decide) (Nat.le_of_ble_eq_true rfl) (Or.inl rfl) rfl rfl (by decide) (by decide) (fun y14 M15 e16 hI17 => ?_)
        refine V_iload_n (k := 2) dX6_clashesOf_41 rfl rfl ?_
        refine V_icmpge (tgt := 52) dX6_clashesOf_42 (by decide) (fun h18 => ?_) (fun h18 => ?_)
        · refine V_iinc (k := 4) (v := x4 + 1) (lv' := [(4, .int (x4 + 1)), (0, .ref 28), (1, .int x1), (2, .int x2), (3, .int x3)]) dX6_clashesOf_52 rfl rfl (by decide) rfl ?_
          refine V_goto (tgt := 5) dX6_clashesOf_55 (by decide) ?_
          refine V_sub [1, 2, 3, 4, 0] rfl ?_
          exact ih M15 x1 x2 x3 (x4 + 1) hI17
        · refine V_iload_n (k := 3) dX6_clashesOf_45 rfl rfl ?_
          refine V_iconst (v := 1) dX6_clashesOf_46 rfl ?_
          refine V_iload (k := 4) dX6_clashesOf_47 rfl ?_
          refine V_ishl dX6_clashesOf_49 ?_
          refine V_ior dX6_clashesOf_50 ?_
          refine V_istore_n (lv' := [(3, .int (x3 ||| (1 <<< (x4 &&& (31 : Int32))))), (0, .ref 28), (1, .int x1), (2, .int x2), (4, .int x4)]) dX6_clashesOf_51 rfl (by decide) rfl ?_
          refine V_iinc (k := 4) (v := x4 + 1) (lv' := [(4, .int (x4 + 1)), (3, .int (x3 ||| (1 <<< (x4 &&& (31 : Int32))))), (0, .ref 28), (1, .int x1), (2, .int x2)]) dX6_clashesOf_52 rfl rfl (by decide) rfl ?_
          refine V_goto (tgt := 5) dX6_clashesOf_55 (by decide) ?_
          refine V_sub [2, 3, 4, 1, 0] rfl ?_
          exact ih M15 x1 x2 (x3 ||| (1 <<< (x4 &&& (31 : Int32)))) (x4 + 1) hI17
def fX6_clashesOf (M : vM) (x1 : Int32) (x2 : Int32) : Option (vR × vM) := fX6_clashesOf_5 FU M x1 x2 0 0
set_option maxRecDepth 20000 in
set_option maxHeartbeats 2000000 in
theorem cX6_clashesOf_ok {l : Launch} {D : va_G} {dA : Nat → ClassId} (M : vM) (x1 : Int32) (x2 : Int32) (hI : v_WT M.2.2) : Ct l D dA sX6_clashesOf false 175 2 0 0 175 [.ref 28, .int x1, .int x2] M (fX6_clashesOf M x1 x2) := by
  refine Ct_of (lv := [(0, .ref 28), (1, .int x1), (2, .int x2)]) (by decide +kernel) rfl (Nat.le_of_ble_eq_true rfl) rfl (fun h => by cases h) ?_
  refine V_iconst (v := 0) dX6_clashesOf_0 rfl ?_
  refine V_istore_n (lv' := [(3, .int 0), (0, .ref 28), (1, .int x1), (2, .int x2)]) dX6_clashesOf_1 rfl (by decide) rfl ?_
  refine V_iconst (v := 0) dX6_clashesOf_2 rfl ?_
  refine V_istore (lv' := [(4, .int 0), (3, .int 0), (0, .ref 28), (1, .int x1), (2, .int x2)]) dX6_clashesOf_3 (by decide) rfl ?_
  refine V_sub [2, 3, 4, 1, 0] rfl ?_
  exact vX6_clashesOf_5 FU M x1 x2 0 0 hI
def fX6_keepIfBetter_61 (M : vM) (x1 : Int32) (x2 : Int32) (x3 : Int32) (s0 : Int32) : Option (vR × vM) := if s0 = 0 then rV M else rV (v_si (v_si (v_si M 28 4 x2) 28 5 x3) 28 6 x1)
set_option maxRecDepth 20000 in
set_option maxHeartbeats 2000000 in
theorem vX6_keepIfBetter_61 {l : Launch} {D : va_G} {dA : Nat → ClassId} : ∀ (M : vM) (x1 : Int32) (x2 : Int32) (x3 : Int32) (s0 : Int32), v_WT M.2.2 → V l D dA sX6_keepIfBetter false 175 1 0 0 61 [(0, .ref 28), (1, .int x1), (2, .int x2), (3, .int x3)] [.int s0] 175 M (fX6_keepIfBetter_61 M x1 x2 x3 s0) := by
  intro M x1 x2 x3 s0 hI
  refine V_istore (lv' := [(4, .int s0), (0, .ref 28), (1, .int x1), (2, .int x2), (3, .int x3)]) dX6_keepIfBetter_61 (by decide) rfl ?_
  refine V_iload (k := 0) dX6_keepIfBetter_63 rfl ?_
  refine V_ifeq (tgt := 83) dX6_keepIfBetter_65 (by decide) (fun h7 => ?_) (fun h7 => ?_)
  · exact V_ret (fun _ => hI) (Or.inl ⟨rfl, rfl⟩) dX6_keepIfBetter_83 (fun ty x h1 h2 => by cases h1) rfl
  · refine V_aload_n (k := 1) dX6_keepIfBetter_68 rfl rfl ?_
    refine V_iload_n (k := 3) dX6_keepIfBetter_69 rfl rfl ?_
    refine V_puti dX6_keepIfBetter_70 rfl (by decide) vf_X6_45 (by decide) rfl rfl ?_
    refine V_aload_n (k := 1) dX6_keepIfBetter_73 rfl rfl ?_
    refine V_iload_n (k := 4) dX6_keepIfBetter_74 rfl rfl ?_
    refine V_puti dX6_keepIfBetter_75 rfl (by decide) vf_X6_48 (by decide) rfl rfl ?_
    refine V_aload_n (k := 1) dX6_keepIfBetter_78 rfl rfl ?_
    refine V_iload_n (k := 2) dX6_keepIfBetter_79 rfl rfl ?_
    refine V_puti dX6_keepIfBetter_80 rfl (by decide) vf_X6_51 (by decide) rfl rfl ?_
    exact V_ret (fun _ => hI) (Or.inl ⟨rfl, rfl⟩) dX6_keepIfBetter_83 (fun ty x h1 h2 => by cases h1) rfl
def fX6_keepIfBetter (M : vM) (x1 : Int32) (x2 : Int32) (x3 : Int32) : Option (vR × vM) := if x2 = (M.1 28 4) then if x3 = (M.1 28 5) then if (M.1 28 6) ≤ x1 then fX6_keepIfBetter_61 M x1 x2 x3 0 else fX6_keepIfBetter_61 M x1 x2 x3 1 else if (M.1 28 5) ≤ x3 then fX6_keepIfBetter_61 M x1 x2 x3 0 else fX6_keepIfBetter_61 M x1 x2 x3 1 else if x2 ≤ (M.1 28 4) then fX6_keepIfBetter_61 M x1 x2 x3 0 else fX6_keepIfBetter_61 M x1 x2 x3 1
set_option maxRecDepth 20000 in
set_option maxHeartbeats 2000000 in
theorem cX6_keepIfBetter_ok {l : Launch} {D : va_G} {dA : Nat → ClassId} (M : vM) (x1 : Int32) (x2 : Int32) (x3 : Int32) (hI : v_WT M.2.2) : Ct l D dA sX6_keepIfBetter false 175 1 0 0 175 [.ref 28, .int x1, .int x2, .int x3] M (fX6_keepIfBetter M x1 x2 x3) := by
  refine Ct_of (lv := [(0, .ref 28), (1, .int x1), (2, .int x2), (3, .int x3)]) (by decide +kernel) rfl (Nat.le_of_ble_eq_true rfl) rfl (fun h => by cases h) ?_
  refine V_iload_n (k := 2) dX6_keepIfBetter_0 rfl rfl ?_
  refine V_aload_n (k := 0) dX6_keepIfBetter_1 rfl rfl ?_
  refine V_geti dX6_keepIfBetter_2 rfl (by decide) vf_X6_45 (by decide) ?_
  refine V_icmpeq (tgt := 24) dX6_keepIfBetter_5 (by decide) (fun h8 => ?_) (fun h8 => ?_)
  · refine V_iload_n (k := 3) dX6_keepIfBetter_24 rfl rfl ?_
    refine V_aload_n (k := 0) dX6_keepIfBetter_25 rfl rfl ?_
    refine V_geti dX6_keepIfBetter_26 rfl (by decide) vf_X6_48 (by decide) ?_
    refine V_icmpeq (tgt := 48) dX6_keepIfBetter_29 (by decide) (fun h9 => ?_) (fun h9 => ?_)
    · refine V_iload_n (k := 1) dX6_keepIfBetter_48 rfl rfl ?_
      refine V_aload_n (k := 0) dX6_keepIfBetter_49 rfl rfl ?_
      refine V_geti dX6_keepIfBetter_50 rfl (by decide) vf_X6_51 (by decide) ?_
      refine V_icmpge (tgt := 60) dX6_keepIfBetter_53 (by decide) (fun h10 => ?_) (fun h10 => ?_)
      · refine V_iconst (v := 0) dX6_keepIfBetter_60 rfl ?_
        refine V_sub [0, 1, 2, 3] rfl ?_
        exact vX6_keepIfBetter_61 M x1 x2 x3 0 hI
      · refine V_iconst (v := 1) dX6_keepIfBetter_56 rfl ?_
        refine V_goto (tgt := 61) dX6_keepIfBetter_57 (by decide) ?_
        refine V_sub [0, 1, 2, 3] rfl ?_
        exact vX6_keepIfBetter_61 M x1 x2 x3 1 hI
    · refine V_iload_n (k := 3) dX6_keepIfBetter_32 rfl rfl ?_
      refine V_aload_n (k := 0) dX6_keepIfBetter_33 rfl rfl ?_
      refine V_geti dX6_keepIfBetter_34 rfl (by decide) vf_X6_48 (by decide) ?_
      refine V_icmpge (tgt := 44) dX6_keepIfBetter_37 (by decide) (fun h11 => ?_) (fun h11 => ?_)
      · refine V_iconst (v := 0) dX6_keepIfBetter_44 rfl ?_
        refine V_goto (tgt := 61) dX6_keepIfBetter_45 (by decide) ?_
        refine V_sub [0, 1, 2, 3] rfl ?_
        exact vX6_keepIfBetter_61 M x1 x2 x3 0 hI
      · refine V_iconst (v := 1) dX6_keepIfBetter_40 rfl ?_
        refine V_goto (tgt := 61) dX6_keepIfBetter_41 (by decide) ?_
        refine V_sub [0, 1, 2, 3] rfl ?_
        exact vX6_keepIfBetter_61 M x1 x2 x3 1 hI
  · refine V_iload_n (k := 2) dX6_keepIfBetter_8 rfl rfl ?_
    refine V_aload_n (k := 0) dX6_keepIfBetter_9 rfl rfl ?_
    refine V_geti dX6_keepIfBetter_10 rfl (by decide) vf_X6_45 (by decide) ?_
    refine V_icmple (tgt := 20) dX6_keepIfBetter_13 (by decide) (fun h12 => ?_) (fun h12 => ?_)
    · refine V_iconst (v := 0) dX6_keepIfBetter_20 rfl ?_
      refine V_goto (tgt := 61) dX6_keepIfBetter_21 (by decide) ?_
      refine V_sub [0, 1, 2, 3] rfl ?_
      exact vX6_keepIfBetter_61 M x1 x2 x3 0 hI
    · refine V_iconst (v := 1) dX6_keepIfBetter_16 rfl ?_
      refine V_goto (tgt := 61) dX6_keepIfBetter_17 (by decide) ?_
      refine V_sub [0, 1, 2, 3] rfl ?_
      exact vX6_keepIfBetter_61 M x1 x2 x3 1 hI
def fX6_choose_30 (self : vM → Int32 → Int32 → Int32 → Int32 → Option (vR × vM)) (M : vM) (x2 : Int32) (x3 : Int32) (x4 : Int32) : Option (vR × vM) := bv (fX6_keepIfBetter M x2 x3 x4) fun M5 => rV M5
set_option maxRecDepth 20000 in
set_option maxHeartbeats 2000000 in
theorem vX6_choose_30 {l : Launch} {D : va_G} {dA : Nat → ClassId} {dd : Nat} {self : vM → Int32 → Int32 → Int32 → Int32 → Option (vR × vM)} (hself : ∀ (M : vM) (x1 : Int32) (x2 : Int32) (x3 : Int32) (x4 : Int32), v_WT M.2.2 → Ct l D dA sX6_choose false 175 (2 + dd) 0 0 175 [.ref 28, .int x1, .int x2, .int x3, .int x4] M (self M x1 x2 x3 x4)) : ∀ (M : vM) (x2 : Int32) (x3 : Int32) (x4 : Int32), v_WT M.2.2 → V l D dA sX6_choose false 175 (2 + dd + 1) 0 0 30 [(0, .ref 28), (2, .int x2), (3, .int x3), (4, .int x4)] [] 175 M (fX6_choose_30 self M x2 x3 x4) := by
  intro M x2 x3 x4 hI
  refine V_aload_n (k := 0) dX6_choose_30 rfl rfl ?_
  refine V_iload_n (k := 1) dX6_choose_31 rfl rfl ?_
  refine V_iload_n (k := 2) dX6_choose_32 rfl rfl ?_
  refine V_iload (k := 3) dX6_choose_33 rfl ?_
  refine V_callVv (q := (RX6, TX6, 7)) (cls := 6) (st0 := []) (kc' := 0) (ks' := 0) dX6_choose_35 lk_X6_67 rfl (by decide) rfl rfl rfl (cX6_keepIfBetter_ok M x2 x3 x4 hI) rfl rfl (by omega) (by decide) (Nat.le_of_ble_eq_true rfl) (Or.inl rfl) rfl rfl (by decide) (by decide) (fun  M5 e6 hI7 => ?_)
  exact V_ret (fun _ => hI7) (Or.inl ⟨rfl, rfl⟩) dX6_choose_38 (fun ty x h1 h2 => by cases h1) rfl
def fX6_choose_78 (self : vM → Int32 → Int32 → Int32 → Int32 → Option (vR × vM)) (M : vM) (x1 : Int32) (x2 : Int32) (x3 : Int32) (x4 : Int32) : Option (vR × vM) := bv (self M (x1 + 1) x2 x3 x4) fun M8 => rV M8
set_option maxRecDepth 20000 in
set_option maxHeartbeats 2000000 in
theorem vX6_choose_78 {l : Launch} {D : va_G} {dA : Nat → ClassId} {dd : Nat} {self : vM → Int32 → Int32 → Int32 → Int32 → Option (vR × vM)} (hself : ∀ (M : vM) (x1 : Int32) (x2 : Int32) (x3 : Int32) (x4 : Int32), v_WT M.2.2 → Ct l D dA sX6_choose false 175 (2 + dd) 0 0 175 [.ref 28, .int x1, .int x2, .int x3, .int x4] M (self M x1 x2 x3 x4)) : ∀ (M : vM) (x1 : Int32) (x2 : Int32) (x3 : Int32) (x4 : Int32), v_WT M.2.2 → V l D dA sX6_choose false 175 (2 + dd + 1) 0 0 78 [(0, .ref 28), (1, .int x1), (2, .int x2), (3, .int x3), (4, .int x4)] [] 175 M (fX6_choose_78 self M x1 x2 x3 x4) := by
  intro M x1 x2 x3 x4 hI
  refine V_aload_n (k := 0) dX6_choose_78 rfl rfl ?_
  refine V_iload_n (k := 1) dX6_choose_79 rfl rfl ?_
  refine V_iconst (v := 1) dX6_choose_80 rfl ?_
  refine V_iadd dX6_choose_81 ?_
  refine V_iload_n (k := 2) dX6_choose_82 rfl rfl ?_
  refine V_iload_n (k := 3) dX6_choose_83 rfl rfl ?_
  refine V_iload (k := 4) dX6_choose_84 rfl ?_
  refine V_callVv (q := (RX6, TX6, 7)) (cls := 6) (st0 := []) (kc' := 0) (ks' := 0) dX6_choose_86 lk_X6_54 rfl (by decide) rfl rfl rfl (hself M (x1 + 1) x2 x3 x4 hI) rfl rfl (by omega) (by decide) (Nat.le_of_ble_eq_true rfl) (Or.inl rfl) rfl rfl (by decide) (by decide) (fun  M8 e9 hI10 => ?_)
  exact V_ret (fun _ => hI10) (Or.inl ⟨rfl, rfl⟩) dX6_choose_89 (fun ty x h1 h2 => by cases h1) rfl
def fX6_choose_b (self : vM → Int32 → Int32 → Int32 → Int32 → Option (vR × vM)) (M : vM) (x1 : Int32) (x2 : Int32) (x3 : Int32) (x4 : Int32) : Option (vR × vM) := if (M.1 28 4) ≤ ((x3 + (M.1 28 3)) - x1) then if (M.1 28 3) ≤ x1 then fX6_choose_30 self M x2 x3 x4 else if x1 < 14 then bi (fX10_at M 31 x1) fun y14 M15 => if (y14 &&& x2) = 0 then bi (fX10_at M15 30 x1) fun y19 M20 => bv (self M20 (x1 + 1) (x2 ||| (1 <<< (x1 &&& (31 : Int32)))) (x3 + 1) (x4 + y19)) fun M23 => fX6_choose_78 self M23 x1 x2 x3 x4 else fX6_choose_78 self M15 x1 x2 x3 x4 else fX6_choose_30 self M x2 x3 x4 else rV M
def fX6_choose_r : Nat → vM → Int32 → Int32 → Int32 → Int32 → Option (vR × vM)
  | 0, _, _, _, _, _ => none
  | d9 + 1, M, x1, x2, x3, x4 => fX6_choose_b (fX6_choose_r d9) M x1 x2 x3 x4
def fX6_choose (M : vM) (x1 : Int32) (x2 : Int32) (x3 : Int32) (x4 : Int32) : Option (vR × vM) := fX6_choose_r 16 M x1 x2 x3 x4
set_option maxRecDepth 20000 in
set_option maxHeartbeats 2000000 in
theorem cX6_choose_b {l : Launch} {D : va_G} {dA : Nat → ClassId} {dd : Nat} {self : vM → Int32 → Int32 → Int32 → Int32 → Option (vR × vM)} (hself : ∀ (M : vM) (x1 : Int32) (x2 : Int32) (x3 : Int32) (x4 : Int32), v_WT M.2.2 → Ct l D dA sX6_choose false 175 (2 + dd) 0 0 175 [.ref 28, .int x1, .int x2, .int x3, .int x4] M (self M x1 x2 x3 x4)) (M : vM) (x1 : Int32) (x2 : Int32) (x3 : Int32) (x4 : Int32) (hI : v_WT M.2.2) : Ct l D dA sX6_choose false 175 (2 + dd + 1) 0 0 175 [.ref 28, .int x1, .int x2, .int x3, .int x4] M (fX6_choose_b self M x1 x2 x3 x4) := by
  refine Ct_of (lv := [(0, .ref 28), (1, .int x1), (2, .int x2), (3, .int x3), (4, .int x4)]) (by decide +kernel) rfl (Nat.le_of_ble_eq_true rfl) rfl (fun h => by cases h) ?_
  refine V_iload_n (k := 3) dX6_choose_0 rfl rfl ?_
  refine V_aload_n (k := 0) dX6_choose_1 rfl rfl ?_
  refine V_geti dX6_choose_2 rfl (by decide) vf_X6_21 (by decide) ?_
  refine V_iadd dX6_choose_5 ?_
  refine V_iload_n (k := 1) dX6_choose_6 rfl rfl ?_
  refine V_isub dX6_choose_7 ?_
  refine V_aload_n (k := 0) dX6_choose_8 rfl rfl ?_
  refine V_geti dX6_choose_9 rfl (by decide) vf_X6_45 (by decide) ?_
  refine V_icmpge (tgt := 16) dX6_choose_12 (by decide) (fun h11 => ?_) (fun h11 => ?_)
  · refine V_iload_n (k := 1) dX6_choose_16 rfl rfl ?_
    refine V_aload_n (k := 0) dX6_choose_17 rfl rfl ?_
    refine V_geti dX6_choose_18 rfl (by decide) vf_X6_21 (by decide) ?_
    refine V_icmpge (tgt := 30) dX6_choose_21 (by decide) (fun h12 => ?_) (fun h12 => ?_)
    · refine V_sub [0, 2, 3, 4] rfl ?_
      exact vX6_choose_30 hself M x2 x3 x4 hI
    · refine V_iload_n (k := 1) dX6_choose_24 rfl rfl ?_
      refine V_bipush (v := 14) dX6_choose_25 rfl ?_
      refine V_icmplt (tgt := 39) dX6_choose_27 (by decide) (fun h13 => ?_) (fun h13 => ?_)
      · refine V_aload_n (k := 0) dX6_choose_39 rfl rfl ?_
        refine V_getr (k := 31) dX6_choose_40 rfl (by decide) vf_X6_18 (by decide) (v_fin hI 41 rfl) ?_
        refine V_iload_n (k := 1) dX6_choose_43 rfl rfl ?_
        refine V_callSi (st0 := []) (kc' := 0) (ks' := 0) dX6_choose_44 lk_X6_58 rfl (cX10_at_ok M 31 x1 (v_isA_of (by decide) rfl) hI) rfl rfl (by omega) (by decide) (Nat.le_of_ble_eq_true rfl) (Or.inl rfl) rfl rfl (by decide) (by decide) (fun y14 M15 e16 hI17 => ?_)
        refine V_iload_n (k := 2) dX6_choose_47 rfl rfl ?_
        refine V_iand dX6_choose_48 ?_
        refine V_ifne (tgt := 78) dX6_choose_49 (by decide) (fun h18 => ?_) (fun h18 => ?_)
        · refine V_sub [0, 1, 2, 3, 4] rfl ?_
          exact vX6_choose_78 hself M15 x1 x2 x3 x4 hI17
        · refine V_aload_n (k := 0) dX6_choose_52 rfl rfl ?_
          refine V_iload_n (k := 1) dX6_choose_53 rfl rfl ?_
          refine V_iconst (v := 1) dX6_choose_54 rfl ?_
          refine V_iadd dX6_choose_55 ?_
          refine V_iload_n (k := 2) dX6_choose_56 rfl rfl ?_
          refine V_iconst (v := 1) dX6_choose_57 rfl ?_
          refine V_iload_n (k := 1) dX6_choose_58 rfl rfl ?_
          refine V_ishl dX6_choose_59 ?_
          refine V_ior dX6_choose_60 ?_
          refine V_iload_n (k := 3) dX6_choose_61 rfl rfl ?_
          refine V_iconst (v := 1) dX6_choose_62 rfl ?_
          refine V_iadd dX6_choose_63 ?_
          refine V_iload (k := 4) dX6_choose_64 rfl ?_
          refine V_aload_n (k := 0) dX6_choose_66 rfl rfl ?_
          refine V_getr (k := 30) dX6_choose_67 rfl (by decide) vf_X6_15 (by decide) (v_fin hI17 40 rfl) ?_
          refine V_iload_n (k := 1) dX6_choose_70 rfl rfl ?_
          refine V_callSi (st0 := [.int x4, .int (x3 + 1), .int (x2 ||| (1 <<< (x1 &&& (31 : Int32)))), .int (x1 + 1), .ref 28]) (kc' := 0) (ks' := 0) dX6_choose_71 lk_X6_58 rfl (cX10_at_ok M15 30 x1 (v_isA_of (by decide) rfl) hI17) rfl rfl (by omega) (by decide) (Nat.le_of_ble_eq_true rfl) (Or.inl rfl) rfl rfl (by decide) (by decide) (fun y19 M20 e21 hI22 => ?_)
          refine V_iadd dX6_choose_74 ?_
          refine V_callVv (q := (RX6, TX6, 7)) (cls := 6) (st0 := []) (kc' := 0) (ks' := 0) dX6_choose_75 lk_X6_54 rfl (by decide) rfl rfl rfl (hself M20 (x1 + 1) (x2 ||| (1 <<< (x1 &&& (31 : Int32)))) (x3 + 1) (x4 + y19) hI22) rfl rfl (by omega) (by decide) (Nat.le_of_ble_eq_true rfl) (Or.inl rfl) rfl rfl (by decide) (by decide) (fun  M23 e24 hI25 => ?_)
          refine V_sub [0, 1, 2, 3, 4] rfl ?_
          exact vX6_choose_78 hself M23 x1 x2 x3 x4 hI25
      · refine V_sub [0, 2, 3, 4] rfl ?_
        exact vX6_choose_30 hself M x2 x3 x4 hI
  · exact V_ret (fun _ => hI) (Or.inl ⟨rfl, rfl⟩) dX6_choose_15 (fun ty x h1 h2 => by cases h1) rfl
theorem cX6_choose_r {l : Launch} {D : va_G} {dA : Nat → ClassId} : ∀ (d9 : Nat) (M : vM) (x1 : Int32) (x2 : Int32) (x3 : Int32) (x4 : Int32), v_WT M.2.2 → Ct l D dA sX6_choose false 175 (2 + d9) 0 0 175 [.ref 28, .int x1, .int x2, .int x3, .int x4] M (fX6_choose_r d9 M x1 x2 x3 x4) := by
  intro d9
  induction d9 with
  | zero => intros; intro r M9 h; cases h
  | succ d9 ih => exact fun M x1 x2 x3 x4 hI => cX6_choose_b (dd := d9) ih M x1 x2 x3 x4 hI
theorem cX6_choose_ok {l : Launch} {D : va_G} {dA : Nat → ClassId} (M : vM) (x1 : Int32) (x2 : Int32) (x3 : Int32) (x4 : Int32) (hI : v_WT M.2.2) : Ct l D dA sX6_choose false 175 18 0 0 175 [.ref 28, .int x1, .int x2, .int x3, .int x4] M (fX6_choose M x1 x2 x3 x4) := cX6_choose_r 16 M x1 x2 x3 x4 hI
def fX6_seek_80 : Nat → vM → Int32 → Int32 → Option (vR × vM)
  | 0, _, _, _ => none
  | n9 + 1, M, x2, x3 => if (M.1 28 3) ≤ x3 then bv (fX6_choose (v_si (v_si (v_si M 28 4 0) 28 5 0) 28 6 0) 0 0 0 0) fun M5 => rV M5 else bi (fX6_clashesOf M x3 x2) fun y8 M9 => bv (fX10_put M9 31 x3 y8) fun M12 => fX6_seek_80 n9 M12 x2 (x3 + 1)
set_option maxRecDepth 20000 in
set_option maxHeartbeats 2000000 in
theorem vX6_seek_80 {l : Launch} {D : va_G} {dA : Nat → ClassId} : ∀ (n9 : Nat) (M : vM) (x2 : Int32) (x3 : Int32), v_WT M.2.2 → V l D dA sX6_seek false 175 19 0 0 80 [(0, .ref 28), (2, .int x2), (3, .int x3)] [] 175 M (fX6_seek_80 n9 M x2 x3) := by
  intro n9
  induction n9 with
  | zero => intros; exact V_none
  | succ n9 ih =>
    intro M x2 x3 hI
    refine V_iload_n (k := 2) dX6_seek_80 rfl rfl ?_
    refine V_aload_n (k := 0) dX6_seek_81 rfl rfl ?_
    refine V_geti dX6_seek_82 rfl (by decide) vf_X6_21 (by decide) ?_
    refine V_icmpge (tgt := 108) dX6_seek_85 (by decide) (fun h4 => ?_) (fun h4 => ?_)
    · refine V_aload_n (k := 0) dX6_seek_108 rfl rfl ?_
      refine V_iconst (v := 0) dX6_seek_109 rfl ?_
      refine V_puti dX6_seek_110 rfl (by decide) vf_X6_45 (by decide) rfl rfl ?_
      refine V_aload_n (k := 0) dX6_seek_113 rfl rfl ?_
      refine V_iconst (v := 0) dX6_seek_114 rfl ?_
      refine V_puti dX6_seek_115 rfl (by decide) vf_X6_48 (by decide) rfl rfl ?_
      refine V_aload_n (k := 0) dX6_seek_118 rfl rfl ?_
      refine V_iconst (v := 0) dX6_seek_119 rfl ?_
      refine V_puti dX6_seek_120 rfl (by decide) vf_X6_51 (by decide) rfl rfl ?_
      refine V_aload_n (k := 0) dX6_seek_123 rfl rfl ?_
      refine V_iconst (v := 0) dX6_seek_124 rfl ?_
      refine V_iconst (v := 0) dX6_seek_125 rfl ?_
      refine V_iconst (v := 0) dX6_seek_126 rfl ?_
      refine V_iconst (v := 0) dX6_seek_127 rfl ?_
      refine V_callVv (q := (RX6, TX6, 7)) (cls := 6) (st0 := []) (kc' := 0) (ks' := 0) dX6_seek_128 lk_X6_54 rfl (by decide) rfl rfl rfl (cX6_choose_ok (v_si (v_si (v_si M 28 4 0) 28 5 0) 28 6 0) 0 0 0 0 hI) rfl rfl (by decide) (by decide) (Nat.le_of_ble_eq_true rfl) (Or.inl rfl) rfl rfl (by decide) (by decide) (fun  M5 e6 hI7 => ?_)
      exact V_ret (fun _ => hI7) (Or.inl ⟨rfl, rfl⟩) dX6_seek_131 (fun ty x h1 h2 => by cases h1) rfl
    · refine V_aload_n (k := 0) dX6_seek_88 rfl rfl ?_
      refine V_getr (k := 31) dX6_seek_89 rfl (by decide) vf_X6_18 (by decide) (v_fin hI 41 rfl) ?_
      refine V_iload_n (k := 2) dX6_seek_92 rfl rfl ?_
      refine V_aload_n (k := 0) dX6_seek_93 rfl rfl ?_
      refine V_iload_n (k := 2) dX6_seek_94 rfl rfl ?_
      refine V_iload_n (k := 1) dX6_seek_95 rfl rfl ?_
      refine V_callVi (q := (RX6, TX6, 7)) (cls := 6) (st0 := [.int x3, .ref 31]) (kc' := 0) (ks' := 0) dX6_seek_96 lk_X6_41 rfl (by decide) rfl rfl rfl (cX6_clashesOf_ok M x3 x2 hI) rfl rfl (by decide) (by decide) (Nat.le_of_ble_eq_true rfl) (Or.inl rfl) rfl rfl (by decide) (by decide) (fun y8 M9 e10 hI11 => ?_)
      refine V_callSv (st0 := []) (kc' := 0) (ks' := 0) dX6_seek_99 lk_X6_34 rfl (cX10_put_ok M9 31 x3 y8 (v_isA_of (by decide) rfl) hI11) rfl rfl (by decide) (by decide) (Nat.le_of_ble_eq_true rfl) (Or.inl rfl) rfl rfl (by decide) (by decide) (fun  M12 e13 hI14 => ?_)
      refine V_iinc (k := 2) (v := x3 + 1) (lv' := [(3, .int (x3 + 1)), (0, .ref 28), (2, .int x2)]) dX6_seek_102 rfl rfl (by decide) rfl ?_
      refine V_goto (tgt := 80) dX6_seek_105 (by decide) ?_
      refine V_sub [1, 2, 0] rfl ?_
      exact ih M12 x2 (x3 + 1) hI14
def fX6_seek_11 : Nat → vM → Nat → Int32 → Int32 → Option (vR × vM)
  | 0, _, _, _, _ => none
  | n9 + 1, M, x1, x2, x3 => if x3 = ((-1)) then fX6_seek_80 FU M x2 0 else if 14 ≤ (M.1 28 3) then fX6_seek_80 FU M x2 0 else bi (fX9_markOf M x1 x3) fun y17 M18 => bv (fX10_put M18 29 (M.1 28 3) y17) fun M21 => bi (fX9_costOf M21 x1 x3) fun y24 M25 => bv (fX10_put M25 30 (M21.1 28 3) y24) fun M28 => bi (fX9_nextUnspent (v_si M28 28 3 ((M28.1 28 3) + 1)) x1 (x3 + 1)) fun y31 M32 => fX6_seek_11 n9 M32 x1 x2 y31
set_option maxRecDepth 20000 in
set_option maxHeartbeats 2000000 in
theorem vX6_seek_11 {l : Launch} {D : va_G} {dA : Nat → ClassId} : ∀ (n9 : Nat) (M : vM) (x1 : Nat) (x2 : Int32) (x3 : Int32) (f1 : v_isW x1), v_WT M.2.2 → V l D dA sX6_seek false 175 19 0 0 11 [(0, .ref 28), (1, .ref x1), (2, .int x2), (3, .int x3)] [] 175 M (fX6_seek_11 n9 M x1 x2 x3) := by
  intro n9
  induction n9 with
  | zero => intros; exact V_none
  | succ n9 ih =>
    intro M x1 x2 x3 f1 hI
    refine V_iload_n (k := 3) dX6_seek_11 rfl rfl ?_
    refine V_iconst (v := (-1)) dX6_seek_12 rfl ?_
    refine V_icmpeq (tgt := 78) dX6_seek_13 (by decide) (fun h15 => ?_) (fun h15 => ?_)
    · refine V_iconst (v := 0) dX6_seek_78 rfl ?_
      refine V_istore_n (lv' := [(3, .int 0), (0, .ref 28), (1, .ref x1), (2, .int x2)]) dX6_seek_79 rfl (by decide) rfl ?_
      refine V_sub [1, 3, 0] rfl ?_
      exact vX6_seek_80 FU M x2 0 hI
    · refine V_aload_n (k := 0) dX6_seek_16 rfl rfl ?_
      refine V_geti dX6_seek_17 rfl (by decide) vf_X6_21 (by decide) ?_
      refine V_bipush (v := 14) dX6_seek_20 rfl ?_
      refine V_icmpge (tgt := 78) dX6_seek_22 (by decide) (fun h16 => ?_) (fun h16 => ?_)
      · refine V_iconst (v := 0) dX6_seek_78 rfl ?_
        refine V_istore_n (lv' := [(3, .int 0), (0, .ref 28), (1, .ref x1), (2, .int x2)]) dX6_seek_79 rfl (by decide) rfl ?_
        refine V_sub [1, 3, 0] rfl ?_
        exact vX6_seek_80 FU M x2 0 hI
      · refine V_aload_n (k := 0) dX6_seek_25 rfl rfl ?_
        refine V_getr (k := 29) dX6_seek_26 rfl (by decide) vf_X6_9 (by decide) (v_fin hI 39 rfl) ?_
        refine V_aload_n (k := 0) dX6_seek_29 rfl rfl ?_
        refine V_geti dX6_seek_30 rfl (by decide) vf_X6_21 (by decide) ?_
        refine V_aload_n (k := 1) dX6_seek_33 rfl rfl ?_
        refine V_iload_n (k := 3) dX6_seek_34 rfl rfl ?_
        refine V_callVi (q := (RX9, TX9, 6)) (cls := 9) (st0 := [.int (M.1 28 3), .ref 29]) (kc' := 0) (ks' := 0) dX6_seek_35 lk_X6_31 rfl (v_LW f1).1 (v_LW f1).2.1 rfl rfl (cX9_markOf_ok M x1 x3 f1 hI) rfl rfl (by decide) (by decide) (Nat.le_of_ble_eq_true rfl) (Or.inl rfl) rfl rfl (by decide) (by decide) (fun y17 M18 e19 hI20 => ?_)
        refine V_callSv (st0 := []) (kc' := 0) (ks' := 0) dX6_seek_38 lk_X6_34 rfl (cX10_put_ok M18 29 (M.1 28 3) y17 (v_isA_of (by decide) rfl) hI20) rfl rfl (by decide) (by decide) (Nat.le_of_ble_eq_true rfl) (Or.inl rfl) rfl rfl (by decide) (by decide) (fun  M21 e22 hI23 => ?_)
        refine V_aload_n (k := 0) dX6_seek_41 rfl rfl ?_
        refine V_getr (k := 30) dX6_seek_42 rfl (by decide) vf_X6_15 (by decide) (v_fin hI23 40 rfl) ?_
        refine V_aload_n (k := 0) dX6_seek_45 rfl rfl ?_
        refine V_geti dX6_seek_46 rfl (by decide) vf_X6_21 (by decide) ?_
        refine V_aload_n (k := 1) dX6_seek_49 rfl rfl ?_
        refine V_iload_n (k := 3) dX6_seek_50 rfl rfl ?_
        refine V_callVi (q := (RX9, TX9, 6)) (cls := 9) (st0 := [.int (M21.1 28 3), .ref 30]) (kc' := 0) (ks' := 0) dX6_seek_51 lk_X6_38 rfl (v_LW f1).1 (v_LW f1).2.1 rfl rfl (cX9_costOf_ok M21 x1 x3 f1 hI23) rfl rfl (by decide) (by decide) (Nat.le_of_ble_eq_true rfl) (Or.inl rfl) rfl rfl (by decide) (by decide) (fun y24 M25 e26 hI27 => ?_)
        refine V_callSv (st0 := []) (kc' := 0) (ks' := 0) dX6_seek_54 lk_X6_34 rfl (cX10_put_ok M25 30 (M21.1 28 3) y24 (v_isA_of (by decide) rfl) hI27) rfl rfl (by decide) (by decide) (Nat.le_of_ble_eq_true rfl) (Or.inl rfl) rfl rfl (by decide) (by decide) (fun  M28 e29 hI30 => ?_)
        refine V_aload_n (k := 0) dX6_seek_57 rfl rfl ?_
        refine V_dup dX6_seek_58 rfl ?_
        refine V_geti dX6_seek_59 rfl (by decide) vf_X6_21 (by decide) ?_
        refine V_iconst (v := 1) dX6_seek_62 rfl ?_
        refine V_iadd dX6_seek_63 ?_
        refine V_puti dX6_seek_64 rfl (by decide) vf_X6_21 (by decide) rfl rfl ?_
        refine V_aload_n (k := 1) dX6_seek_67 rfl rfl ?_
        refine V_iload_n (k := 3) dX6_seek_68 rfl rfl ?_
        refine V_iconst (v := 1) dX6_seek_69 rfl ?_
        refine V_iadd dX6_seek_70 ?_
        refine V_callVi (q := (RX9, TX9, 6)) (cls := 9) (st0 := []) (kc' := 0) (ks' := 0) dX6_seek_71 lk_X6_25 rfl (v_LW f1).1 (v_LW f1).2.1 rfl rfl (cX9_nextUnspent_ok (v_si M28 28 3 ((M28.1 28 3) + 1)) x1 (x3 + 1) f1 hI30) rfl rfl (by decide) (by decide) (Nat.le_of_ble_eq_true rfl) (Or.inl rfl) rfl rfl (by decide) (by decide) (fun y31 M32 e33 hI34 => ?_)
        refine V_istore_n (lv' := [(3, .int y31), (0, .ref 28), (1, .ref x1), (2, .int x2)]) dX6_seek_74 rfl (by decide) rfl ?_
        refine V_goto (tgt := 11) dX6_seek_75 (by decide) ?_
        refine V_sub [1, 2, 3, 0] rfl ?_
        exact ih M32 x1 x2 y31 f1 hI34
def fX6_seek (M : vM) (x1 : Nat) (x2 : Int32) : Option (vR × vM) := bi (fX9_nextUnspent (v_si M 28 3 0) x1 0) fun y35 M36 => fX6_seek_11 FU M36 x1 x2 y35
set_option maxRecDepth 20000 in
set_option maxHeartbeats 2000000 in
theorem cX6_seek_ok {l : Launch} {D : va_G} {dA : Nat → ClassId} (M : vM) (x1 : Nat) (x2 : Int32) (f1 : v_isW x1) (hI : v_WT M.2.2) : Ct l D dA sX6_seek false 175 19 0 0 175 [.ref 28, .ref x1, .int x2] M (fX6_seek M x1 x2) := by
  refine Ct_of (lv := [(0, .ref 28), (1, .ref x1), (2, .int x2)]) (by decide +kernel) rfl (Nat.le_of_ble_eq_true rfl) rfl (fun h => by cases h) ?_
  refine V_aload_n (k := 0) dX6_seek_0 rfl rfl ?_
  refine V_iconst (v := 0) dX6_seek_1 rfl ?_
  refine V_puti dX6_seek_2 rfl (by decide) vf_X6_21 (by decide) rfl rfl ?_
  refine V_aload_n (k := 1) dX6_seek_5 rfl rfl ?_
  refine V_iconst (v := 0) dX6_seek_6 rfl ?_
  refine V_callVi (q := (RX9, TX9, 6)) (cls := 9) (st0 := []) (kc' := 0) (ks' := 0) dX6_seek_7 lk_X6_25 rfl (v_LW f1).1 (v_LW f1).2.1 rfl rfl (cX9_nextUnspent_ok (v_si M 28 3 0) x1 0 f1 hI) rfl rfl (by decide) (by decide) (Nat.le_of_ble_eq_true rfl) (Or.inl rfl) rfl rfl (by decide) (by decide) (fun y35 M36 e37 hI38 => ?_)
  refine V_istore_n (lv' := [(3, .int y35), (0, .ref 28), (1, .ref x1), (2, .int x2)]) dX6_seek_10 rfl (by decide) rfl ?_
  refine V_sub [1, 2, 3, 0] rfl ?_
  exact vX6_seek_11 FU M36 x1 x2 y35 f1 hI38
def fX10_apart (M : vM) (x1 : Int32) (x2 : Int32) (x3 : Int32) : Option (vR × vM) := br (fX10_workOf M x1) fun y3 M4 => bv (fX10_refuseUnlessWhat M4 x3 3) fun M7 => bv (fX10_refuseUnlessWithin M7 x2 0 30) fun M10 => bv (fX6_seek M10 y3 x2) fun M13 => if x3 = 0 then rI (M13.1 28 4) M13 else if x3 = 1 then rI (M13.1 28 5) M13 else rI (M13.1 28 6) M13
set_option maxRecDepth 20000 in
set_option maxHeartbeats 2000000 in
theorem cX10_apart_ok {l : Launch} {D : va_G} {dA : Nat → ClassId} (hT : l.stackTraces = false) (M : vM) (x1 : Int32) (x2 : Int32) (x3 : Int32) (hI : v_WT M.2.2) : Ct l D dA sX10_apart false 175 20 3 18 175 [.ref 0, .int x1, .int x2, .int x3] M (fX10_apart M x1 x2 x3) := by
  refine Ct_of (lv := [(0, .ref 0), (1, .int x1), (2, .int x2), (3, .int x3)]) (by decide +kernel) rfl (Nat.le_of_ble_eq_true rfl) rfl (fun h => by cases h) ?_
  refine V_aload_n (k := 0) dX10_apart_0 rfl rfl ?_
  refine V_iload_n (k := 1) dX10_apart_1 rfl rfl ?_
  refine V_callVr (q := (RX10, TX10, 15)) (cls := 10) (st0 := []) (kc' := 2) (ks' := 12) dX10_apart_2 lk_X10_158 rfl (by decide) rfl rfl rfl (cX10_workOf_ok hT M x1 hI) rfl rfl (by decide) (by decide) (Nat.le_of_ble_eq_true rfl) (Or.inl rfl) rfl rfl (by decide) (by decide) (fun y3 M4 e5 hI6 => ?_)
  have wy3 := wX10_workOf_ret e5
  refine V_astore (lv' := [(4, .ref y3), (0, .ref 0), (1, .int x1), (2, .int x2), (3, .int x3)]) dX10_apart_5 (by decide) rfl ?_
  refine V_iload_n (k := 4) dX10_apart_7 rfl rfl ?_
  refine V_iconst (v := 3) dX10_apart_8 rfl ?_
  refine V_callSv (st0 := []) (kc' := 1) (ks' := 6) dX10_apart_9 lk_X10_212 rfl (cX10_refuseUnlessWhat_ok hT M4 x3 3 hI6) rfl rfl (by decide) (by decide) (Nat.le_of_ble_eq_true rfl) (Or.inl rfl) rfl rfl (by decide) (by decide) (fun  M7 e8 hI9 => ?_)
  refine V_iload_n (k := 3) dX10_apart_12 rfl rfl ?_
  refine V_iconst (v := 0) dX10_apart_13 rfl ?_
  refine V_bipush (v := 30) dX10_apart_14 rfl ?_
  refine V_callSv (st0 := []) (kc' := 0) (ks' := 0) dX10_apart_16 lk_X10_254 rfl (cX10_refuseUnlessWithin_ok hT M7 x2 0 30 hI9) rfl rfl (by decide) (by decide) (Nat.le_of_ble_eq_true rfl) (Or.inl rfl) rfl rfl (by decide) (by decide) (fun  M10 e11 hI12 => ?_)
  refine V_aload_n (k := 1) dX10_apart_19 rfl rfl ?_
  refine V_getr (k := 28) dX10_apart_20 rfl (by decide) vf_X10_57 (by decide) (v_fin hI12 7 rfl) ?_
  refine V_aload (k := 0) dX10_apart_23 rfl ?_
  refine V_iload_n (k := 3) dX10_apart_25 rfl rfl ?_
  refine V_callVv (q := (RX6, TX6, 7)) (cls := 6) (st0 := []) (kc' := 0) (ks' := 0) dX10_apart_26 lk_X10_258 rfl (by decide) rfl rfl rfl (cX6_seek_ok M10 y3 x2 wy3 hI12) rfl rfl (by decide) (by decide) (Nat.le_of_ble_eq_true rfl) (Or.inl rfl) rfl rfl (by decide) (by decide) (fun  M13 e14 hI15 => ?_)
  refine V_iload_n (k := 4) dX10_apart_29 rfl rfl ?_
  refine V_lcase (k := 0) (tgt := 56) dX10_apart_30 (by decide) rfl (by decide) (fun h16 => ?_) (fun h16 => ?_)
  · refine V_aload_n (k := 1) dX10_apart_56 rfl rfl ?_
    refine V_getr (k := 28) dX10_apart_57 rfl (by decide) vf_X10_57 (by decide) (v_fin hI15 7 rfl) ?_
    refine V_geti dX10_apart_60 rfl (by decide) vf_X10_261 (by decide) ?_
    exact V_ret (fun _ => hI15) (Or.inr (Or.inl ⟨rfl, _, rfl⟩)) dX10_apart_63 (fun ty x h1 h2 => by cases h1; rfl) rfl
  refine V_lcase (k := 1) (tgt := 64) dX10_apart_30 (by decide) rfl (by decide) (fun h17 => ?_) (fun h17 => ?_)
  · refine V_aload_n (k := 1) dX10_apart_64 rfl rfl ?_
    refine V_getr (k := 28) dX10_apart_65 rfl (by decide) vf_X10_57 (by decide) (v_fin hI15 7 rfl) ?_
    refine V_geti dX10_apart_68 rfl (by decide) vf_X10_264 (by decide) ?_
    exact V_ret (fun _ => hI15) (Or.inr (Or.inl ⟨rfl, _, rfl⟩)) dX10_apart_71 (fun ty x h1 h2 => by cases h1; rfl) rfl
  refine V_ldef (off := 42) (tgt := 72) dX10_apart_30 (by decide) (by show Op.lookupswitch.offset [(0, 26), (1, 34)] 42 (x3).toInt = 42; rw [lv_osw (a := 0) h16 rfl]; rw [lv_osw (a := 1) h17 rfl]; rfl) (by decide) ?_
  refine V_aload_n (k := 1) dX10_apart_72 rfl rfl ?_
  refine V_getr (k := 28) dX10_apart_73 rfl (by decide) vf_X10_57 (by decide) (v_fin hI15 7 rfl) ?_
  refine V_geti dX10_apart_76 rfl (by decide) vf_X10_267 (by decide) ?_
  exact V_ret (fun _ => hI15) (Or.inr (Or.inl ⟨rfl, _, rfl⟩)) dX10_apart_79 (fun ty x h1 h2 => by cases h1; rfl) rfl
def fX1_bookWork (M : vM) (x0 : Nat) (x1 : Int32) : Option (vR × vM) := bi (fX10_at M (x0 + 1) x1) fun y1 M2 => rI y1 M2
set_option maxRecDepth 20000 in
set_option maxHeartbeats 2000000 in
theorem cX1_bookWork_ok {l : Launch} {D : va_G} {dA : Nat → ClassId} (M : vM) (x0 : Nat) (x1 : Int32) (f0 : v_isG x0) (hI : v_WT M.2.2) : Ct l D dA sX1_bookWork false 175 2 0 0 175 [.ref x0, .int x1] M (fX1_bookWork M x0 x1) := by
  refine Ct_of (lv := [(0, .ref x0), (1, .int x1)]) (by decide +kernel) rfl (Nat.le_of_ble_eq_true rfl) rfl (fun h => by cases h) ?_
  refine V_aload_n (k := 0) dX1_bookWork_0 rfl rfl ?_
  refine V_getr (k := x0 + 1) dX1_bookWork_1 (v_LG f0).2.1 (v_LG f0).1 vf_X1_9 (by decide) (v_finG hI f0).1 ?_
  refine V_iload_n (k := 1) dX1_bookWork_4 rfl rfl ?_
  refine V_callSi (st0 := []) (kc' := 0) (ks' := 0) dX1_bookWork_5 lk_X1_52 rfl (cX10_at_ok M (x0 + 1) x1 (v_isA_of (v_LG f0).2.2.2.1 (v_LG f0).2.2.1.1) hI) rfl rfl (by decide) (by decide) (Nat.le_of_ble_eq_true rfl) (Or.inl rfl) rfl rfl (by decide) (by decide) (fun y1 M2 e3 hI4 => ?_)
  exact V_ret (fun _ => hI4) (Or.inr (Or.inl ⟨rfl, _, rfl⟩)) dX1_bookWork_8 (fun ty x h1 h2 => by cases h1; rfl) rfl
def fX1_bookWay (M : vM) (x0 : Nat) (x1 : Int32) : Option (vR × vM) := bi (fX10_at M (x0 + 2) x1) fun y1 M2 => rI y1 M2
set_option maxRecDepth 20000 in
set_option maxHeartbeats 2000000 in
theorem cX1_bookWay_ok {l : Launch} {D : va_G} {dA : Nat → ClassId} (M : vM) (x0 : Nat) (x1 : Int32) (f0 : v_isG x0) (hI : v_WT M.2.2) : Ct l D dA sX1_bookWay false 175 2 0 0 175 [.ref x0, .int x1] M (fX1_bookWay M x0 x1) := by
  refine Ct_of (lv := [(0, .ref x0), (1, .int x1)]) (by decide +kernel) rfl (Nat.le_of_ble_eq_true rfl) rfl (fun h => by cases h) ?_
  refine V_aload_n (k := 0) dX1_bookWay_0 rfl rfl ?_
  refine V_getr (k := x0 + 2) dX1_bookWay_1 (v_LG f0).2.1 (v_LG f0).1 vf_X1_15 (by decide) (v_finG hI f0).2.1 ?_
  refine V_iload_n (k := 1) dX1_bookWay_4 rfl rfl ?_
  refine V_callSi (st0 := []) (kc' := 0) (ks' := 0) dX1_bookWay_5 lk_X1_52 rfl (cX10_at_ok M (x0 + 2) x1 (v_isA_of (v_LG f0).2.2.2.2.1 (v_LG f0).2.2.1.2.1) hI) rfl rfl (by decide) (by decide) (Nat.le_of_ble_eq_true rfl) (Or.inl rfl) rfl rfl (by decide) (by decide) (fun y1 M2 e3 hI4 => ?_)
  exact V_ret (fun _ => hI4) (Or.inr (Or.inl ⟨rfl, _, rfl⟩)) dX1_bookWay_8 (fun ty x h1 h2 => by cases h1; rfl) rfl
def fX10_book (M : vM) (x1 : Int32) (x2 : Int32) : Option (vR × vM) := bv (fX10_refuseUnlessWhat M x2 2) fun M4 => if x1 < 0 then rT 1 M4 else if x1 < (M4.1 6 0) then if x2 = 0 then bi (fX1_bookWork M4 6 x1) fun y14 M15 => rI y14 M15 else bi (fX1_bookWay M4 6 x1) fun y10 M11 => rI y10 M11 else rT 1 M4
set_option maxRecDepth 20000 in
set_option maxHeartbeats 2000000 in
theorem cX10_book_ok {l : Launch} {D : va_G} {dA : Nat → ClassId} (hT : l.stackTraces = false) (M : vM) (x1 : Int32) (x2 : Int32) (hI : v_WT M.2.2) : Ct l D dA sX10_book false 175 7 2 12 175 [.ref 0, .int x1, .int x2] M (fX10_book M x1 x2) := by
  refine Ct_of (lv := [(0, .ref 0), (1, .int x1), (2, .int x2)]) (by decide +kernel) rfl (Nat.le_of_ble_eq_true rfl) rfl (fun h => by cases h) ?_
  refine V_iload_n (k := 2) dX10_book_0 rfl rfl ?_
  refine V_iconst (v := 2) dX10_book_1 rfl ?_
  refine V_callSv (st0 := []) (kc' := 1) (ks' := 6) dX10_book_2 lk_X10_212 rfl (cX10_refuseUnlessWhat_ok hT M x2 2 hI) rfl rfl (by decide) (by decide) (Nat.le_of_ble_eq_true rfl) (Or.inl rfl) rfl rfl (by decide) (by decide) (fun  M4 e5 hI6 => ?_)
  refine V_iload_n (k := 1) dX10_book_5 rfl rfl ?_
  refine V_iflt (tgt := 20) dX10_book_6 (by decide) (fun h7 => ?_) (fun h7 => ?_)
  · exact V_throwN (sid := 16) (text := "no such one in the book") (fun _ => hI6) hT rfl (by decide +kernel) dX10_book_20 dX10_book_23 dX10_book_24 dX10_book_26 dX10_book_29 rfl (by decide) (by decide) (by decide) (Nat.le_of_ble_eq_true rfl)
  · refine V_iload_n (k := 1) dX10_book_9 rfl rfl ?_
    refine V_aload_n (k := 0) dX10_book_10 rfl rfl ?_
    refine V_getr (k := 6) dX10_book_11 rfl (by decide) vf_X10_40 (by decide) (v_fin hI6 4 rfl) ?_
    refine V_geti dX10_book_14 rfl (by decide) vf_X10_146 (by decide) ?_
    refine V_icmplt (tgt := 30) dX10_book_17 (by decide) (fun h8 => ?_) (fun h8 => ?_)
    · refine V_iload_n (k := 2) dX10_book_30 rfl rfl ?_
      refine V_ifne (tgt := 45) dX10_book_31 (by decide) (fun h9 => ?_) (fun h9 => ?_)
      · refine V_aload_n (k := 0) dX10_book_45 rfl rfl ?_
        refine V_getr (k := 6) dX10_book_46 rfl (by decide) vf_X10_40 (by decide) (v_fin hI6 4 rfl) ?_
        refine V_iload_n (k := 1) dX10_book_49 rfl rfl ?_
        refine V_callVi (q := (RX1, TX1, 9)) (cls := 1) (st0 := []) (kc' := 1) (ks' := 6) dX10_book_50 lk_X10_240 rfl (by decide) rfl rfl rfl (cX1_bookWay_ok M4 6 x1 (Or.inl rfl) hI6) rfl rfl (by decide) (by decide) (Nat.le_of_ble_eq_true rfl) (Or.inl rfl) rfl rfl (by decide) (by decide) (fun y10 M11 e12 hI13 => ?_)
        exact V_ret (fun _ => hI13) (Or.inr (Or.inl ⟨rfl, _, rfl⟩)) dX10_book_53 (fun ty x h1 h2 => by cases h1; rfl) rfl
      · refine V_aload_n (k := 0) dX10_book_34 rfl rfl ?_
        refine V_getr (k := 6) dX10_book_35 rfl (by decide) vf_X10_40 (by decide) (v_fin hI6 4 rfl) ?_
        refine V_iload_n (k := 1) dX10_book_38 rfl rfl ?_
        refine V_callVi (q := (RX1, TX1, 9)) (cls := 1) (st0 := []) (kc' := 1) (ks' := 6) dX10_book_39 lk_X10_237 rfl (by decide) rfl rfl rfl (cX1_bookWork_ok M4 6 x1 (Or.inl rfl) hI6) rfl rfl (by decide) (by decide) (Nat.le_of_ble_eq_true rfl) (Or.inl rfl) rfl rfl (by decide) (by decide) (fun y14 M15 e16 hI17 => ?_)
        refine V_goto (tgt := 53) dX10_book_42 (by decide) ?_
        exact V_ret (fun _ => hI17) (Or.inr (Or.inl ⟨rfl, _, rfl⟩)) dX10_book_53 (fun ty x h1 h2 => by cases h1; rfl) rfl
    · exact V_throwN (sid := 16) (text := "no such one in the book") (fun _ => hI6) hT rfl (by decide +kernel) dX10_book_20 dX10_book_23 dX10_book_24 dX10_book_26 dX10_book_29 rfl (by decide) (by decide) (by decide) (Nat.le_of_ble_eq_true rfl)
def fX9_bitsThatCount (M : vM) (x0 : Nat) (x1 : Int32) : Option (vR × vM) := if x1 = 1 then rI (1048575 &&& ((M.1 x0 3) ^^^ ((-1)))) M else rI 1048575 M
set_option maxRecDepth 20000 in
set_option maxHeartbeats 2000000 in
theorem cX9_bitsThatCount_ok {l : Launch} {D : va_G} {dA : Nat → ClassId} (M : vM) (x0 : Nat) (x1 : Int32) (f0 : v_isW x0) (hI : v_WT M.2.2) : Ct l D dA sX9_bitsThatCount false 175 1 0 0 175 [.ref x0, .int x1] M (fX9_bitsThatCount M x0 x1) := by
  refine Ct_of (lv := [(0, .ref x0), (1, .int x1)]) (by decide +kernel) rfl (Nat.le_of_ble_eq_true rfl) rfl (fun h => by cases h) ?_
  refine V_iload_n (k := 1) dX9_bitsThatCount_0 rfl rfl ?_
  refine V_iconst (v := 1) dX9_bitsThatCount_1 rfl ?_
  refine V_icmpne (tgt := 17) dX9_bitsThatCount_2 (by decide) (fun h2 => ?_) (fun h2 => ?_)
  · refine V_ldc dX9_bitsThatCount_17 gw538 ?_
    exact V_ret (fun _ => hI) (Or.inr (Or.inl ⟨rfl, _, rfl⟩)) dX9_bitsThatCount_19 (fun ty x h1 h2 => by cases h1; rfl) rfl
  · refine V_ldc dX9_bitsThatCount_5 gw538 ?_
    refine V_aload_n (k := 0) dX9_bitsThatCount_7 rfl rfl ?_
    refine V_geti dX9_bitsThatCount_8 (v_LW f0).2.1 (v_LW f0).1 vf_X9_49 (by decide) ?_
    refine V_iconst (v := (-1)) dX9_bitsThatCount_11 rfl ?_
    refine V_ixor dX9_bitsThatCount_12 ?_
    refine V_iand dX9_bitsThatCount_13 ?_
    refine V_goto (tgt := 19) dX9_bitsThatCount_14 (by decide) ?_
    exact V_ret (fun _ => hI) (Or.inr (Or.inl ⟨rfl, _, rfl⟩)) dX9_bitsThatCount_19 (fun ty x h1 h2 => by cases h1; rfl) rfl
def fX9_unlikeOnes (M : vM) (x0 : Int32) (x1 : Int32) : Option (vR × vM) := if x0 = 2 then rI x1 M else rI 1 M
set_option maxRecDepth 20000 in
set_option maxHeartbeats 2000000 in
theorem cX9_unlikeOnes_ok {l : Launch} {D : va_G} {dA : Nat → ClassId} (M : vM) (x0 : Int32) (x1 : Int32) (hI : v_WT M.2.2) : Ct l D dA sX9_unlikeOnes false 175 1 0 0 175 [.int x0, .int x1] M (fX9_unlikeOnes M x0 x1) := by
  refine Ct_of (lv := [(0, .int x0), (1, .int x1)]) (by decide +kernel) rfl (Nat.le_of_ble_eq_true rfl) rfl (fun h => by cases h) ?_
  refine V_iload_n (k := 0) dX9_unlikeOnes_0 rfl rfl ?_
  refine V_iconst (v := 2) dX9_unlikeOnes_1 rfl ?_
  refine V_icmpne (tgt := 9) dX9_unlikeOnes_2 (by decide) (fun h2 => ?_) (fun h2 => ?_)
  · refine V_iconst (v := 1) dX9_unlikeOnes_9 rfl ?_
    exact V_ret (fun _ => hI) (Or.inr (Or.inl ⟨rfl, _, rfl⟩)) dX9_unlikeOnes_10 (fun ty x h1 h2 => by cases h1; rfl) rfl
  · refine V_iload_n (k := 1) dX9_unlikeOnes_5 rfl rfl ?_
    refine V_goto (tgt := 10) dX9_unlikeOnes_6 (by decide) ?_
    exact V_ret (fun _ => hI) (Or.inr (Or.inl ⟨rfl, _, rfl⟩)) dX9_unlikeOnes_10 (fun ty x h1 h2 => by cases h1; rfl) rfl
def fX9_setSame_84 : Nat → vM → Nat → Nat → Int32 → Int32 → Int32 → Int32 → Int32 → Option (vR × vM)
  | 0, _, _, _, _, _, _, _, _ => none
  | n9 + 1, M, x0, x1, x6, x7, x8, x9, x10 => if (M.1 x0 1) ≤ x10 then rI x6 M else if (nI ((v_LAY x1).2.2)) ≤ x10 then rI x6 M else if (nI 1458) ≤ x10 then rI x6 M else if v_in x10 (v_LAY x1).2.2 = true then if (M.1 x1 (Int32.toNatClampNeg x10)) = 0 then if v_in x10 1458 = true then bi (fJ6_bitCount_0f7a4 M (((Int64.toInt32 (M.2.1 (x0 + 7) (Int32.toNatClampNeg x10))) ^^^ x9) &&& x7)) fun y23 M24 => if x8 ≤ y23 then fX9_setSame_84 n9 M24 x0 x1 x6 x7 x8 x9 (x10 + 1) else if v_in x10 (v_LAY x1).2.2 = true then fX9_setSame_84 n9 (v_si M24 x1 (Int32.toNatClampNeg x10) (v_nz 1)) x0 x1 (x6 + 1) x7 x8 x9 (x10 + 1) else none else none else fX9_setSame_84 n9 M x0 x1 x6 x7 x8 x9 (x10 + 1) else none
set_option maxRecDepth 20000 in
set_option maxHeartbeats 2000000 in
theorem vX9_setSame_84 {l : Launch} {D : va_G} {dA : Nat → ClassId} : ∀ (n9 : Nat) (M : vM) (x0 : Nat) (x1 : Nat) (x6 : Int32) (x7 : Int32) (x8 : Int32) (x9 : Int32) (x10 : Int32) (f0 : v_isW x0) (f1 : v_isA 3 x1), v_WT M.2.2 → V l D dA sX9_setSame false 175 3 0 0 84 [(0, .ref x0), (1, .ref x1), (6, .int x6), (7, .int x7), (8, .int x8), (9, .int x9), (10, .int x10)] [] 175 M (fX9_setSame_84 n9 M x0 x1 x6 x7 x8 x9 x10) := by
  intro n9
  induction n9 with
  | zero => intros; exact V_none
  | succ n9 ih =>
    intro M x0 x1 x6 x7 x8 x9 x10 f0 f1 hI
    refine V_iload (k := 6) dX9_setSame_84 rfl ?_
    refine V_aload_n (k := 0) dX9_setSame_86 rfl rfl ?_
    refine V_geti dX9_setSame_87 (v_LW f0).2.1 (v_LW f0).1 vf_X9_23 (by decide) ?_
    refine V_icmpge (tgt := 153) dX9_setSame_90 (by decide) (fun h17 => ?_) (fun h17 => ?_)
    · refine V_iload (k := 2) dX9_setSame_153 rfl ?_
      exact V_ret (fun _ => hI) (Or.inr (Or.inl ⟨rfl, _, rfl⟩)) dX9_setSame_155 (fun ty x h1 h2 => by cases h1; rfl) rfl
    · refine V_iload (k := 6) dX9_setSame_93 rfl ?_
      refine V_aload_n (k := 1) dX9_setSame_95 rfl rfl ?_
      refine V_alen dX9_setSame_96 f1.2 f1.1 (by decide) ?_
      refine V_icmpge (tgt := 153) dX9_setSame_97 (by decide) (fun h18 => ?_) (fun h18 => ?_)
      · refine V_iload (k := 2) dX9_setSame_153 rfl ?_
        exact V_ret (fun _ => hI) (Or.inr (Or.inl ⟨rfl, _, rfl⟩)) dX9_setSame_155 (fun ty x h1 h2 => by cases h1; rfl) rfl
      · refine V_iload (k := 6) dX9_setSame_100 rfl ?_
        refine V_aload_n (k := 0) dX9_setSame_102 rfl rfl ?_
        refine V_getr (k := x0 + 7) dX9_setSame_103 (v_LW f0).2.1 (v_LW f0).1 vf_X9_9 (by decide) (v_finW hI f0).1 ?_
        refine V_alen dX9_setSame_106 (v_LW f0).2.2.1 (v_LW f0).2.2.2.2.1 (by decide) ?_
        refine V_icmpge (tgt := 153) dX9_setSame_107 (by decide) (fun h19 => ?_) (fun h19 => ?_)
        · refine V_iload (k := 2) dX9_setSame_153 rfl ?_
          exact V_ret (fun _ => hI) (Or.inr (Or.inl ⟨rfl, _, rfl⟩)) dX9_setSame_155 (fun ty x h1 h2 => by cases h1; rfl) rfl
        · refine V_aload_n (k := 1) dX9_setSame_110 rfl rfl ?_
          refine V_iload (k := 6) dX9_setSame_111 rfl ?_
          refine V_zald dX9_setSame_113 f1.2 f1.1 (fun h20 => ?_)
          refine V_ifne (tgt := 147) dX9_setSame_114 (by decide) (fun h21 => ?_) (fun h21 => ?_)
          · refine V_iinc (k := 6) (v := x10 + 1) (lv' := [(10, .int (x10 + 1)), (0, .ref x0), (1, .ref x1), (6, .int x6), (7, .int x7), (8, .int x8), (9, .int x9)]) dX9_setSame_147 rfl rfl (by decide) rfl ?_
            refine V_goto (tgt := 84) dX9_setSame_150 (by decide) ?_
            refine V_sub [1, 2, 3, 4, 5, 6, 0] rfl ?_
            exact ih M x0 x1 x6 x7 x8 x9 (x10 + 1) f0 f1 hI
          · refine V_aload_n (k := 0) dX9_setSame_117 rfl rfl ?_
            refine V_getr (k := x0 + 7) dX9_setSame_118 (v_LW f0).2.1 (v_LW f0).1 vf_X9_9 (by decide) (v_finW hI f0).1 ?_
            refine V_iload (k := 6) dX9_setSame_121 rfl ?_
            refine V_lald dX9_setSame_123 (v_LW f0).2.2.1 (v_LW f0).2.2.2.2.1 (fun h22 => ?_)
            refine V_l2i dX9_setSame_124 ?_
            refine V_iload (k := 5) dX9_setSame_125 rfl ?_
            refine V_ixor dX9_setSame_127 ?_
            refine V_iload (k := 3) dX9_setSame_128 rfl ?_
            refine V_iand dX9_setSame_130 ?_
            refine V_callSi (st0 := []) (kc' := 0) (ks' := 0) dX9_setSame_131 lk_X9_110 rfl (cJ6_bitCount_0f7a4_ok M (((Int64.toInt32 (M.2.1 (x0 + 7) (Int32.toNatClampNeg x10))) ^^^ x9) &&& x7) hI) rfl rfl (by decide) (by decide) (Nat.le_of_ble_eq_true rfl) (Or.inl rfl) rfl rfl (by decide) (by decide) (fun y23 M24 e25 hI26 => ?_)
            refine V_iload (k := 4) dX9_setSame_134 rfl ?_
            refine V_icmpge (tgt := 147) dX9_setSame_136 (by decide) (fun h27 => ?_) (fun h27 => ?_)
            · refine V_iinc (k := 6) (v := x10 + 1) (lv' := [(10, .int (x10 + 1)), (0, .ref x0), (1, .ref x1), (6, .int x6), (7, .int x7), (8, .int x8), (9, .int x9)]) dX9_setSame_147 rfl rfl (by decide) rfl ?_
              refine V_goto (tgt := 84) dX9_setSame_150 (by decide) ?_
              refine V_sub [1, 2, 3, 4, 5, 6, 0] rfl ?_
              exact ih M24 x0 x1 x6 x7 x8 x9 (x10 + 1) f0 f1 hI26
            · refine V_aload_n (k := 1) dX9_setSame_139 rfl rfl ?_
              refine V_iload (k := 6) dX9_setSame_140 rfl ?_
              refine V_iconst (v := 1) dX9_setSame_142 rfl ?_
              refine V_zast dX9_setSame_143 f1.2 f1.1 (fun h28 => ?_)
              refine V_iinc (k := 2) (v := x6 + 1) (lv' := [(6, .int (x6 + 1)), (0, .ref x0), (1, .ref x1), (7, .int x7), (8, .int x8), (9, .int x9), (10, .int x10)]) dX9_setSame_144 rfl rfl (by decide) rfl ?_
              refine V_iinc (k := 6) (v := x10 + 1) (lv' := [(10, .int (x10 + 1)), (6, .int (x6 + 1)), (0, .ref x0), (1, .ref x1), (7, .int x7), (8, .int x8), (9, .int x9)]) dX9_setSame_147 rfl rfl (by decide) rfl ?_
              refine V_goto (tgt := 84) dX9_setSame_150 (by decide) ?_
              refine V_sub [2, 3, 1, 4, 5, 6, 0] rfl ?_
              exact ih (v_si M24 x1 (Int32.toNatClampNeg x10) (v_nz 1)) x0 x1 (x6 + 1) x7 x8 x9 (x10 + 1) f0 f1 hI26
def fX9_setSame_72 (M : vM) (x0 : Nat) (x1 : Nat) (x4 : Int32) (x5 : Int32) (x6 : Int32) (x7 : Int32) (x8 : Int32) : Option (vR × vM) := bi (fX9_markOf M x0 x4) fun y29 M30 => fX9_setSame_84 FU M30 x0 x1 x6 x7 x8 y29 x5
set_option maxRecDepth 20000 in
set_option maxHeartbeats 2000000 in
theorem vX9_setSame_72 {l : Launch} {D : va_G} {dA : Nat → ClassId} : ∀ (M : vM) (x0 : Nat) (x1 : Nat) (x4 : Int32) (x5 : Int32) (x6 : Int32) (x7 : Int32) (x8 : Int32) (f0 : v_isW x0) (f1 : v_isA 3 x1), v_WT M.2.2 → V l D dA sX9_setSame false 175 3 0 0 72 [(0, .ref x0), (1, .ref x1), (4, .int x4), (5, .int x5), (6, .int x6), (7, .int x7), (8, .int x8)] [] 175 M (fX9_setSame_72 M x0 x1 x4 x5 x6 x7 x8) := by
  intro M x0 x1 x4 x5 x6 x7 x8 f0 f1 hI
  refine V_aload_n (k := 0) dX9_setSame_72 rfl rfl ?_
  refine V_iload (k := 2) dX9_setSame_73 rfl ?_
  refine V_callVi (q := (RX9, TX9, 6)) (cls := 9) (st0 := []) (kc' := 0) (ks' := 0) dX9_setSame_75 lk_X9_98 rfl (v_LW f0).1 (v_LW f0).2.1 rfl rfl (cX9_markOf_ok M x0 x4 f0 hI) rfl rfl (by decide) (by decide) (Nat.le_of_ble_eq_true rfl) (Or.inl rfl) rfl rfl (by decide) (by decide) (fun y29 M30 e31 hI32 => ?_)
  refine V_istore (lv' := [(9, .int y29), (0, .ref x0), (1, .ref x1), (4, .int x4), (5, .int x5), (6, .int x6), (7, .int x7), (8, .int x8)]) dX9_setSame_78 (by decide) rfl ?_
  refine V_iload (k := 4) dX9_setSame_80 rfl ?_
  refine V_istore (lv' := [(10, .int x5), (9, .int y29), (0, .ref x0), (1, .ref x1), (4, .int x4), (5, .int x5), (6, .int x6), (7, .int x7), (8, .int x8)]) dX9_setSame_82 (by decide) rfl ?_
  refine V_sub [2, 3, 6, 7, 8, 1, 0] rfl ?_
  exact vX9_setSame_84 FU M30 x0 x1 x6 x7 x8 y29 x5 f0 f1 hI32
def fX9_setSame_35 (M : vM) (x0 : Nat) (x1 : Nat) (x2 : Int32) (x3 : Int32) (x4 : Int32) (x5 : Int32) (s0 : Int32) : Option (vR × vM) := if v_in x4 (v_LAY x1).2.2 = true then bi (fX9_bitsThatCount (v_si M x1 (Int32.toNatClampNeg x4) (v_nz 1)) x0 x2) fun y34 M35 => bi (fX9_unlikeOnes M35 x2 x3) fun y38 M39 => if y34 = 1048575 then if y38 = 1 then rI s0 M39 else fX9_setSame_72 M39 x0 x1 x4 x5 s0 y34 y38 else fX9_setSame_72 M39 x0 x1 x4 x5 s0 y34 y38 else none
set_option maxRecDepth 20000 in
set_option maxHeartbeats 2000000 in
theorem vX9_setSame_35 {l : Launch} {D : va_G} {dA : Nat → ClassId} : ∀ (M : vM) (x0 : Nat) (x1 : Nat) (x2 : Int32) (x3 : Int32) (x4 : Int32) (x5 : Int32) (s0 : Int32) (f0 : v_isW x0) (f1 : v_isA 3 x1), v_WT M.2.2 → V l D dA sX9_setSame false 175 3 0 0 35 [(0, .ref x0), (1, .ref x1), (2, .int x2), (3, .int x3), (4, .int x4), (5, .int x5)] [.int s0] 175 M (fX9_setSame_35 M x0 x1 x2 x3 x4 x5 s0) := by
  intro M x0 x1 x2 x3 x4 x5 s0 f0 f1 hI
  refine V_istore (lv' := [(6, .int s0), (0, .ref x0), (1, .ref x1), (2, .int x2), (3, .int x3), (4, .int x4), (5, .int x5)]) dX9_setSame_35 (by decide) rfl ?_
  refine V_aload_n (k := 2) dX9_setSame_37 rfl rfl ?_
  refine V_iload (k := 5) dX9_setSame_38 rfl ?_
  refine V_iconst (v := 1) dX9_setSame_40 rfl ?_
  refine V_zast dX9_setSame_41 f1.2 f1.1 (fun h33 => ?_)
  refine V_aload_n (k := 1) dX9_setSame_42 rfl rfl ?_
  refine V_iload_n (k := 3) dX9_setSame_43 rfl rfl ?_
  refine V_callVi (q := (RX9, TX9, 6)) (cls := 9) (st0 := []) (kc' := 0) (ks' := 0) dX9_setSame_44 lk_X9_107 rfl (v_LW f0).1 (v_LW f0).2.1 rfl rfl (cX9_bitsThatCount_ok (v_si M x1 (Int32.toNatClampNeg x4) (v_nz 1)) x0 x2 f0 hI) rfl rfl (by decide) (by decide) (Nat.le_of_ble_eq_true rfl) (Or.inl rfl) rfl rfl (by decide) (by decide) (fun y34 M35 e36 hI37 => ?_)
  refine V_istore (lv' := [(7, .int y34), (6, .int s0), (0, .ref x0), (1, .ref x1), (2, .int x2), (3, .int x3), (4, .int x4), (5, .int x5)]) dX9_setSame_47 (by decide) rfl ?_
  refine V_iload_n (k := 4) dX9_setSame_49 rfl rfl ?_
  refine V_iload_n (k := 5) dX9_setSame_50 rfl rfl ?_
  refine V_callSi (st0 := []) (kc' := 0) (ks' := 0) dX9_setSame_51 lk_X9_118 rfl (cX9_unlikeOnes_ok M35 x2 x3 hI37) rfl rfl (by decide) (by decide) (Nat.le_of_ble_eq_true rfl) (Or.inl rfl) rfl rfl (by decide) (by decide) (fun y38 M39 e40 hI41 => ?_)
  refine V_istore (lv' := [(8, .int y38), (7, .int y34), (6, .int s0), (0, .ref x0), (1, .ref x1), (2, .int x2), (3, .int x3), (4, .int x4), (5, .int x5)]) dX9_setSame_54 (by decide) rfl ?_
  refine V_iload (k := 1) dX9_setSame_56 rfl ?_
  refine V_ldc dX9_setSame_58 gw538 ?_
  refine V_icmpne (tgt := 72) dX9_setSame_60 (by decide) (fun h42 => ?_) (fun h42 => ?_)
  · refine V_sub [3, 4, 7, 8, 2, 1, 0] rfl ?_
    exact vX9_setSame_72 M39 x0 x1 x4 x5 s0 y34 y38 f0 f1 hI41
  · refine V_iload (k := 0) dX9_setSame_63 rfl ?_
    refine V_iconst (v := 1) dX9_setSame_65 rfl ?_
    refine V_icmpne (tgt := 72) dX9_setSame_66 (by decide) (fun h43 => ?_) (fun h43 => ?_)
    · refine V_sub [3, 4, 7, 8, 2, 1, 0] rfl ?_
      exact vX9_setSame_72 M39 x0 x1 x4 x5 s0 y34 y38 f0 f1 hI41
    · refine V_iload (k := 2) dX9_setSame_69 rfl ?_
      exact V_ret (fun _ => hI41) (Or.inr (Or.inl ⟨rfl, _, rfl⟩)) dX9_setSame_71 (fun ty x h1 h2 => by cases h1; rfl) rfl
def fX9_setSame (M : vM) (x0 : Nat) (x1 : Nat) (x2 : Int32) (x3 : Int32) (x4 : Int32) (x5 : Int32) : Option (vR × vM) := bi (fX9_has M x0 x4) fun y44 M45 => if y44 = 0 then rI 0 M45 else if (nI ((v_LAY x1).2.2)) ≤ x4 then rI 0 M45 else if 0 ≤ x5 then if v_in x4 (v_LAY x1).2.2 = true then if (M45.1 x1 (Int32.toNatClampNeg x4)) = 0 then fX9_setSame_35 M45 x0 x1 x2 x3 x4 x5 1 else fX9_setSame_35 M45 x0 x1 x2 x3 x4 x5 0 else none else rI 0 M45
set_option maxRecDepth 20000 in
set_option maxHeartbeats 2000000 in
theorem cX9_setSame_ok {l : Launch} {D : va_G} {dA : Nat → ClassId} (M : vM) (x0 : Nat) (x1 : Nat) (x2 : Int32) (x3 : Int32) (x4 : Int32) (x5 : Int32) (f0 : v_isW x0) (f1 : v_isA 3 x1) (hI : v_WT M.2.2) : Ct l D dA sX9_setSame false 175 3 0 0 175 [.ref x0, .ref x1, .int x2, .int x3, .int x4, .int x5] M (fX9_setSame M x0 x1 x2 x3 x4 x5) := by
  refine Ct_of (lv := [(0, .ref x0), (1, .ref x1), (2, .int x2), (3, .int x3), (4, .int x4), (5, .int x5)]) (by decide +kernel) rfl (Nat.le_of_ble_eq_true rfl) rfl (fun h => by cases h) ?_
  refine V_aload_n (k := 0) dX9_setSame_0 rfl rfl ?_
  refine V_iload (k := 4) dX9_setSame_1 rfl ?_
  refine V_callVi (q := (RX9, TX9, 6)) (cls := 9) (st0 := []) (kc' := 0) (ks' := 0) dX9_setSame_3 lk_X9_94 rfl (v_LW f0).1 (v_LW f0).2.1 rfl rfl (cX9_has_ok M x0 x4 f0 hI) rfl rfl (by decide) (by decide) (Nat.le_of_ble_eq_true rfl) (Or.inl rfl) rfl rfl (by decide) (by decide) (fun y44 M45 e46 hI47 => ?_)
  refine V_ifeq (tgt := 21) dX9_setSame_6 (by decide) (fun h48 => ?_) (fun h48 => ?_)
  · refine V_iconst (v := 0) dX9_setSame_21 rfl ?_
    exact V_ret (fun _ => hI47) (Or.inr (Or.inl ⟨rfl, _, rfl⟩)) dX9_setSame_22 (fun ty x h1 h2 => by cases h1; rfl) rfl
  · refine V_iload (k := 4) dX9_setSame_9 rfl ?_
    refine V_aload_n (k := 1) dX9_setSame_11 rfl rfl ?_
    refine V_alen dX9_setSame_12 f1.2 f1.1 (by decide) ?_
    refine V_icmpge (tgt := 21) dX9_setSame_13 (by decide) (fun h49 => ?_) (fun h49 => ?_)
    · refine V_iconst (v := 0) dX9_setSame_21 rfl ?_
      exact V_ret (fun _ => hI47) (Or.inr (Or.inl ⟨rfl, _, rfl⟩)) dX9_setSame_22 (fun ty x h1 h2 => by cases h1; rfl) rfl
    · refine V_iload (k := 5) dX9_setSame_16 rfl ?_
      refine V_ifge (tgt := 23) dX9_setSame_18 (by decide) (fun h50 => ?_) (fun h50 => ?_)
      · refine V_aload_n (k := 1) dX9_setSame_23 rfl rfl ?_
        refine V_iload (k := 4) dX9_setSame_24 rfl ?_
        refine V_zald dX9_setSame_26 f1.2 f1.1 (fun h51 => ?_)
        refine V_ifeq (tgt := 34) dX9_setSame_27 (by decide) (fun h52 => ?_) (fun h52 => ?_)
        · refine V_iconst (v := 1) dX9_setSame_34 rfl ?_
          refine V_sub [0, 1, 2, 3, 4, 5] rfl ?_
          exact vX9_setSame_35 M45 x0 x1 x2 x3 x4 x5 1 f0 f1 hI47
        · refine V_iconst (v := 0) dX9_setSame_30 rfl ?_
          refine V_goto (tgt := 35) dX9_setSame_31 (by decide) ?_
          refine V_sub [0, 1, 2, 3, 4, 5] rfl ?_
          exact vX9_setSame_35 M45 x0 x1 x2 x3 x4 x5 0 f0 f1 hI47
      · refine V_iconst (v := 0) dX9_setSame_21 rfl ?_
        exact V_ret (fun _ => hI47) (Or.inr (Or.inl ⟨rfl, _, rfl⟩)) dX9_setSame_22 (fun ty x h1 h2 => by cases h1; rfl) rfl
def fX7_take (M : vM) (x1 : Nat) (x2 : Int32) : Option (vR × vM) := bi (fX9_costOf M x1 x2) fun y1 M2 => bv (fX10_put M2 26 (M.1 24 3) y1) fun M5 => bi (fX9_costOf (v_si (v_si M5 24 3 ((M5.1 24 3) + 1)) 24 4 x2) x1 x2) fun y8 M9 => bi (fX9_setSame (v_si M9 24 5 (((v_si (v_si M5 24 3 ((M5.1 24 3) + 1)) 24 4 x2).1 24 5) + y8)) x1 25 ((v_si M9 24 5 (((v_si (v_si M5 24 3 ((M5.1 24 3) + 1)) 24 4 x2).1 24 5) + y8)).1 ((v_si M9 24 5 (((v_si (v_si M5 24 3 ((M5.1 24 3) + 1)) 24 4 x2).1 24 5) + y8)).2.2 x1 0 - 1) 2) ((v_si M9 24 5 (((v_si (v_si M5 24 3 ((M5.1 24 3) + 1)) 24 4 x2).1 24 5) + y8)).1 ((v_si M9 24 5 (((v_si (v_si M5 24 3 ((M5.1 24 3) + 1)) 24 4 x2).1 24 5) + y8)).2.2 x1 0 - 1) 3) x2 (x2 + 1)) fun y12 M13 => rV M13
set_option maxRecDepth 20000 in
set_option maxHeartbeats 2000000 in
theorem cX7_take_ok {l : Launch} {D : va_G} {dA : Nat → ClassId} (M : vM) (x1 : Nat) (x2 : Int32) (f1 : v_isW x1) (hI : v_WT M.2.2) : Ct l D dA sX7_take false 175 4 0 0 175 [.ref 24, .ref x1, .int x2] M (fX7_take M x1 x2) := by
  refine Ct_of (lv := [(0, .ref 24), (1, .ref x1), (2, .int x2)]) (by decide +kernel) rfl (Nat.le_of_ble_eq_true rfl) rfl (fun h => by cases h) ?_
  refine V_aload_n (k := 0) dX7_take_0 rfl rfl ?_
  refine V_getr (k := 26) dX7_take_1 rfl (by decide) vf_X7_15 (by decide) (v_fin hI 37 rfl) ?_
  refine V_aload_n (k := 0) dX7_take_4 rfl rfl ?_
  refine V_geti dX7_take_5 rfl (by decide) vf_X7_23 (by decide) ?_
  refine V_aload_n (k := 1) dX7_take_8 rfl rfl ?_
  refine V_iload_n (k := 2) dX7_take_9 rfl rfl ?_
  refine V_callVi (q := (RX9, TX9, 6)) (cls := 9) (st0 := [.int (M.1 24 3), .ref 26]) (kc' := 0) (ks' := 0) dX7_take_10 lk_X7_46 rfl (v_LW f1).1 (v_LW f1).2.1 rfl rfl (cX9_costOf_ok M x1 x2 f1 hI) rfl rfl (by decide) (by decide) (Nat.le_of_ble_eq_true rfl) (Or.inl rfl) rfl rfl (by decide) (by decide) (fun y1 M2 e3 hI4 => ?_)
  refine V_callSv (st0 := []) (kc' := 0) (ks' := 0) dX7_take_13 lk_X7_50 rfl (cX10_put_ok M2 26 (M.1 24 3) y1 (v_isA_of (by decide) rfl) hI4) rfl rfl (by decide) (by decide) (Nat.le_of_ble_eq_true rfl) (Or.inl rfl) rfl rfl (by decide) (by decide) (fun  M5 e6 hI7 => ?_)
  refine V_aload_n (k := 0) dX7_take_16 rfl rfl ?_
  refine V_dup dX7_take_17 rfl ?_
  refine V_geti dX7_take_18 rfl (by decide) vf_X7_23 (by decide) ?_
  refine V_iconst (v := 1) dX7_take_21 rfl ?_
  refine V_iadd dX7_take_22 ?_
  refine V_puti dX7_take_23 rfl (by decide) vf_X7_23 (by decide) rfl rfl ?_
  refine V_aload_n (k := 0) dX7_take_26 rfl rfl ?_
  refine V_iload_n (k := 2) dX7_take_27 rfl rfl ?_
  refine V_puti dX7_take_28 rfl (by decide) vf_X7_27 (by decide) rfl rfl ?_
  refine V_aload_n (k := 0) dX7_take_31 rfl rfl ?_
  refine V_dup dX7_take_32 rfl ?_
  refine V_geti dX7_take_33 rfl (by decide) vf_X7_30 (by decide) ?_
  refine V_aload_n (k := 1) dX7_take_36 rfl rfl ?_
  refine V_iload_n (k := 2) dX7_take_37 rfl rfl ?_
  refine V_callVi (q := (RX9, TX9, 6)) (cls := 9) (st0 := [.int ((v_si (v_si M5 24 3 ((M5.1 24 3) + 1)) 24 4 x2).1 24 5), .ref 24]) (kc' := 0) (ks' := 0) dX7_take_38 lk_X7_46 rfl (v_LW f1).1 (v_LW f1).2.1 rfl rfl (cX9_costOf_ok (v_si (v_si M5 24 3 ((M5.1 24 3) + 1)) 24 4 x2) x1 x2 f1 hI7) rfl rfl (by decide) (by decide) (Nat.le_of_ble_eq_true rfl) (Or.inl rfl) rfl rfl (by decide) (by decide) (fun y8 M9 e10 hI11 => ?_)
  refine V_iadd dX7_take_41 ?_
  refine V_puti dX7_take_42 rfl (by decide) vf_X7_30 (by decide) rfl rfl ?_
  refine V_aload_n (k := 1) dX7_take_45 rfl rfl ?_
  refine V_aload_n (k := 0) dX7_take_46 rfl rfl ?_
  refine V_getr (k := 25) dX7_take_47 rfl (by decide) vf_X7_9 (by decide) (v_fin hI11 36 rfl) ?_
  refine V_aload_n (k := 1) dX7_take_50 rfl rfl ?_
  refine V_getr (k := (v_si M9 24 5 (((v_si (v_si M5 24 3 ((M5.1 24 3) + 1)) 24 4 x2).1 24 5) + y8)).2.2 x1 0 - 1) dX7_take_51 (v_LW f1).2.1 (v_LW f1).1 vf_X7_54 (by decide) (v_pln hI11 f1) ?_
  refine V_geti dX7_take_54 (v_LP (v_plnP hI11 f1)).2.1 (v_LP (v_plnP hI11 f1)).1 vf_X7_58 (by decide) ?_
  refine V_aload_n (k := 1) dX7_take_57 rfl rfl ?_
  refine V_getr (k := (v_si M9 24 5 (((v_si (v_si M5 24 3 ((M5.1 24 3) + 1)) 24 4 x2).1 24 5) + y8)).2.2 x1 0 - 1) dX7_take_58 (v_LW f1).2.1 (v_LW f1).1 vf_X7_54 (by decide) (v_pln hI11 f1) ?_
  refine V_geti dX7_take_61 (v_LP (v_plnP hI11 f1)).2.1 (v_LP (v_plnP hI11 f1)).1 vf_X7_63 (by decide) ?_
  refine V_iload_n (k := 2) dX7_take_64 rfl rfl ?_
  refine V_iload_n (k := 2) dX7_take_65 rfl rfl ?_
  refine V_iconst (v := 1) dX7_take_66 rfl ?_
  refine V_iadd dX7_take_67 ?_
  refine V_callVi (q := (RX9, TX9, 6)) (cls := 9) (st0 := []) (kc' := 0) (ks' := 0) dX7_take_68 lk_X7_66 rfl (v_LW f1).1 (v_LW f1).2.1 rfl rfl (cX9_setSame_ok (v_si M9 24 5 (((v_si (v_si M5 24 3 ((M5.1 24 3) + 1)) 24 4 x2).1 24 5) + y8)) x1 25 ((v_si M9 24 5 (((v_si (v_si M5 24 3 ((M5.1 24 3) + 1)) 24 4 x2).1 24 5) + y8)).1 ((v_si M9 24 5 (((v_si (v_si M5 24 3 ((M5.1 24 3) + 1)) 24 4 x2).1 24 5) + y8)).2.2 x1 0 - 1) 2) ((v_si M9 24 5 (((v_si (v_si M5 24 3 ((M5.1 24 3) + 1)) 24 4 x2).1 24 5) + y8)).1 ((v_si M9 24 5 (((v_si (v_si M5 24 3 ((M5.1 24 3) + 1)) 24 4 x2).1 24 5) + y8)).2.2 x1 0 - 1) 3) x2 (x2 + 1) f1 (v_isA_of (by decide) rfl) hI11) rfl rfl (by decide) (by decide) (Nat.le_of_ble_eq_true rfl) (Or.inl rfl) rfl rfl (by decide) (by decide) (fun y12 M13 e14 hI15 => ?_)
  refine V_pop dX7_take_71 rfl ?_
  exact V_ret (fun _ => hI15) (Or.inl ⟨rfl, rfl⟩) dX7_take_72 (fun ty x h1 h2 => by cases h1) rfl
def fX7_follow_53 : Nat → vM → Nat → Int32 → Int32 → Option (vR × vM)
  | 0, _, _, _, _ => none
  | n9 + 1, M, x1, x2, x3 => if (M.1 x1 1) ≤ x3 then rV M else if (nI 1458) ≤ x3 then rV M else if x2 ≤ (M.1 24 3) then rV M else if v_in x3 1458 = true then if (M.1 25 (Int32.toNatClampNeg x3)) = 0 then bv (fX7_take M x1 x3) fun M14 => fX7_follow_53 n9 M14 x1 x2 (x3 + 1) else fX7_follow_53 n9 M x1 x2 (x3 + 1) else none
set_option maxRecDepth 20000 in
set_option maxHeartbeats 2000000 in
theorem vX7_follow_53 {l : Launch} {D : va_G} {dA : Nat → ClassId} : ∀ (n9 : Nat) (M : vM) (x1 : Nat) (x2 : Int32) (x3 : Int32) (f1 : v_isW x1), v_WT M.2.2 → V l D dA sX7_follow false 175 5 0 0 53 [(0, .ref 24), (1, .ref x1), (2, .int x2), (3, .int x3)] [] 175 M (fX7_follow_53 n9 M x1 x2 x3) := by
  intro n9
  induction n9 with
  | zero => intros; exact V_none
  | succ n9 ih =>
    intro M x1 x2 x3 f1 hI
    refine V_iload_n (k := 3) dX7_follow_53 rfl rfl ?_
    refine V_aload_n (k := 1) dX7_follow_54 rfl rfl ?_
    refine V_geti dX7_follow_55 (v_LW f1).2.1 (v_LW f1).1 vf_X7_33 (by decide) ?_
    refine V_icmpge (tgt := 99) dX7_follow_58 (by decide) (fun h9 => ?_) (fun h9 => ?_)
    · exact V_ret (fun _ => hI) (Or.inl ⟨rfl, rfl⟩) dX7_follow_99 (fun ty x h1 h2 => by cases h1) rfl
    · refine V_iload_n (k := 3) dX7_follow_61 rfl rfl ?_
      refine V_aload_n (k := 0) dX7_follow_62 rfl rfl ?_
      refine V_getr (k := 25) dX7_follow_63 rfl (by decide) vf_X7_9 (by decide) (v_fin hI 36 rfl) ?_
      refine V_alen dX7_follow_66 rfl (by decide) (by decide) ?_
      refine V_icmpge (tgt := 99) dX7_follow_67 (by decide) (fun h10 => ?_) (fun h10 => ?_)
      · exact V_ret (fun _ => hI) (Or.inl ⟨rfl, rfl⟩) dX7_follow_99 (fun ty x h1 h2 => by cases h1) rfl
      · refine V_aload_n (k := 0) dX7_follow_70 rfl rfl ?_
        refine V_geti dX7_follow_71 rfl (by decide) vf_X7_23 (by decide) ?_
        refine V_iload_n (k := 2) dX7_follow_74 rfl rfl ?_
        refine V_icmpge (tgt := 99) dX7_follow_75 (by decide) (fun h11 => ?_) (fun h11 => ?_)
        · exact V_ret (fun _ => hI) (Or.inl ⟨rfl, rfl⟩) dX7_follow_99 (fun ty x h1 h2 => by cases h1) rfl
        · refine V_aload_n (k := 0) dX7_follow_78 rfl rfl ?_
          refine V_getr (k := 25) dX7_follow_79 rfl (by decide) vf_X7_9 (by decide) (v_fin hI 36 rfl) ?_
          refine V_iload_n (k := 3) dX7_follow_82 rfl rfl ?_
          refine V_zald dX7_follow_83 rfl (by decide) (fun h12 => ?_)
          refine V_ifne (tgt := 93) dX7_follow_84 (by decide) (fun h13 => ?_) (fun h13 => ?_)
          · refine V_iinc (k := 3) (v := x3 + 1) (lv' := [(3, .int (x3 + 1)), (0, .ref 24), (1, .ref x1), (2, .int x2)]) dX7_follow_93 rfl rfl (by decide) rfl ?_
            refine V_goto (tgt := 53) dX7_follow_96 (by decide) ?_
            refine V_sub [1, 2, 3, 0] rfl ?_
            exact ih M x1 x2 (x3 + 1) f1 hI
          · refine V_aload_n (k := 0) dX7_follow_87 rfl rfl ?_
            refine V_aload_n (k := 1) dX7_follow_88 rfl rfl ?_
            refine V_iload_n (k := 3) dX7_follow_89 rfl rfl ?_
            refine V_callVv (q := (RX7, TX7, 6)) (cls := 7) (st0 := []) (kc' := 0) (ks' := 0) dX7_follow_90 lk_X7_42 rfl (by decide) rfl rfl rfl (cX7_take_ok M x1 x3 f1 hI) rfl rfl (by decide) (by decide) (Nat.le_of_ble_eq_true rfl) (Or.inl rfl) rfl rfl (by decide) (by decide) (fun  M14 e15 hI16 => ?_)
            refine V_iinc (k := 3) (v := x3 + 1) (lv' := [(3, .int (x3 + 1)), (0, .ref 24), (1, .ref x1), (2, .int x2)]) dX7_follow_93 rfl rfl (by decide) rfl ?_
            refine V_goto (tgt := 53) dX7_follow_96 (by decide) ?_
            refine V_sub [1, 2, 3, 0] rfl ?_
            exact ih M14 x1 x2 (x3 + 1) f1 hI16
def fX7_follow_17 : Nat → vM → Nat → Int32 → Int32 → Option (vR × vM)
  | 0, _, _, _, _ => none
  | n9 + 1, M, x1, x2, x3 => if (M.1 x1 1) ≤ x3 then fX7_follow_53 FU M x1 x2 0 else if (nI 1458) ≤ x3 then fX7_follow_53 FU M x1 x2 0 else bi (fX9_isSpent M x1 x3) fun y19 M20 => if v_in x3 1458 = true then fX7_follow_17 n9 (v_si M20 25 (Int32.toNatClampNeg x3) (v_nz y19)) x1 x2 (x3 + 1) else none
set_option maxRecDepth 20000 in
set_option maxHeartbeats 2000000 in
theorem vX7_follow_17 {l : Launch} {D : va_G} {dA : Nat → ClassId} : ∀ (n9 : Nat) (M : vM) (x1 : Nat) (x2 : Int32) (x3 : Int32) (f1 : v_isW x1), v_WT M.2.2 → V l D dA sX7_follow false 175 5 0 0 17 [(0, .ref 24), (1, .ref x1), (2, .int x2), (3, .int x3)] [] 175 M (fX7_follow_17 n9 M x1 x2 x3) := by
  intro n9
  induction n9 with
  | zero => intros; exact V_none
  | succ n9 ih =>
    intro M x1 x2 x3 f1 hI
    refine V_iload_n (k := 3) dX7_follow_17 rfl rfl ?_
    refine V_aload_n (k := 1) dX7_follow_18 rfl rfl ?_
    refine V_geti dX7_follow_19 (v_LW f1).2.1 (v_LW f1).1 vf_X7_33 (by decide) ?_
    refine V_icmpge (tgt := 51) dX7_follow_22 (by decide) (fun h17 => ?_) (fun h17 => ?_)
    · refine V_iconst (v := 0) dX7_follow_51 rfl ?_
      refine V_istore_n (lv' := [(3, .int 0), (0, .ref 24), (1, .ref x1), (2, .int x2)]) dX7_follow_52 rfl (by decide) rfl ?_
      refine V_sub [1, 2, 3, 0] rfl ?_
      exact vX7_follow_53 FU M x1 x2 0 f1 hI
    · refine V_iload_n (k := 3) dX7_follow_25 rfl rfl ?_
      refine V_aload_n (k := 0) dX7_follow_26 rfl rfl ?_
      refine V_getr (k := 25) dX7_follow_27 rfl (by decide) vf_X7_9 (by decide) (v_fin hI 36 rfl) ?_
      refine V_alen dX7_follow_30 rfl (by decide) (by decide) ?_
      refine V_icmpge (tgt := 51) dX7_follow_31 (by decide) (fun h18 => ?_) (fun h18 => ?_)
      · refine V_iconst (v := 0) dX7_follow_51 rfl ?_
        refine V_istore_n (lv' := [(3, .int 0), (0, .ref 24), (1, .ref x1), (2, .int x2)]) dX7_follow_52 rfl (by decide) rfl ?_
        refine V_sub [1, 2, 3, 0] rfl ?_
        exact vX7_follow_53 FU M x1 x2 0 f1 hI
      · refine V_aload_n (k := 0) dX7_follow_34 rfl rfl ?_
        refine V_getr (k := 25) dX7_follow_35 rfl (by decide) vf_X7_9 (by decide) (v_fin hI 36 rfl) ?_
        refine V_iload_n (k := 3) dX7_follow_38 rfl rfl ?_
        refine V_aload_n (k := 1) dX7_follow_39 rfl rfl ?_
        refine V_iload_n (k := 3) dX7_follow_40 rfl rfl ?_
        refine V_callVi (q := (RX9, TX9, 6)) (cls := 9) (st0 := [.int x3, .ref 25]) (kc' := 0) (ks' := 0) dX7_follow_41 lk_X7_38 rfl (v_LW f1).1 (v_LW f1).2.1 rfl rfl (cX9_isSpent_ok M x1 x3 f1 hI) rfl rfl (by decide) (by decide) (Nat.le_of_ble_eq_true rfl) (Or.inl rfl) rfl rfl (by decide) (by decide) (fun y19 M20 e21 hI22 => ?_)
        refine V_zast dX7_follow_44 rfl (by decide) (fun h23 => ?_)
        refine V_iinc (k := 3) (v := x3 + 1) (lv' := [(3, .int (x3 + 1)), (0, .ref 24), (1, .ref x1), (2, .int x2)]) dX7_follow_45 rfl rfl (by decide) rfl ?_
        refine V_goto (tgt := 17) dX7_follow_48 (by decide) ?_
        refine V_sub [1, 2, 3, 0] rfl ?_
        exact ih (v_si M20 25 (Int32.toNatClampNeg x3) (v_nz y19)) x1 x2 (x3 + 1) f1 hI22
def fX7_follow (M : vM) (x1 : Nat) (x2 : Int32) : Option (vR × vM) := fX7_follow_17 FU (v_si (v_si (v_si M 24 3 0) 24 4 ((-1))) 24 5 0) x1 x2 0
set_option maxRecDepth 20000 in
set_option maxHeartbeats 2000000 in
theorem cX7_follow_ok {l : Launch} {D : va_G} {dA : Nat → ClassId} (M : vM) (x1 : Nat) (x2 : Int32) (f1 : v_isW x1) (hI : v_WT M.2.2) : Ct l D dA sX7_follow false 175 5 0 0 175 [.ref 24, .ref x1, .int x2] M (fX7_follow M x1 x2) := by
  refine Ct_of (lv := [(0, .ref 24), (1, .ref x1), (2, .int x2)]) (by decide +kernel) rfl (Nat.le_of_ble_eq_true rfl) rfl (fun h => by cases h) ?_
  refine V_aload_n (k := 0) dX7_follow_0 rfl rfl ?_
  refine V_iconst (v := 0) dX7_follow_1 rfl ?_
  refine V_puti dX7_follow_2 rfl (by decide) vf_X7_23 (by decide) rfl rfl ?_
  refine V_aload_n (k := 0) dX7_follow_5 rfl rfl ?_
  refine V_iconst (v := (-1)) dX7_follow_6 rfl ?_
  refine V_puti dX7_follow_7 rfl (by decide) vf_X7_27 (by decide) rfl rfl ?_
  refine V_aload_n (k := 0) dX7_follow_10 rfl rfl ?_
  refine V_iconst (v := 0) dX7_follow_11 rfl ?_
  refine V_puti dX7_follow_12 rfl (by decide) vf_X7_30 (by decide) rfl rfl ?_
  refine V_iconst (v := 0) dX7_follow_15 rfl ?_
  refine V_istore_n (lv' := [(3, .int 0), (0, .ref 24), (1, .ref x1), (2, .int x2)]) dX7_follow_16 rfl (by decide) rfl ?_
  refine V_sub [1, 2, 3, 0] rfl ?_
  exact vX7_follow_17 FU (v_si (v_si (v_si M 24 3 0) 24 4 ((-1))) 24 5 0) x1 x2 0 f1 hI
def fJ7_fill_d0a16_6 : Nat → vM → Nat → Int64 → Int32 → Int32 → Option (vR × vM)
  | 0, _, _, _, _, _ => none
  | n9 + 1, M, x0, x1, x3, x4 => if x4 ≤ x3 then rV M else if v_in x3 (v_LAY x0).2.2 = true then fJ7_fill_d0a16_6 n9 (v_sl M x0 (Int32.toNatClampNeg x3) x1) x0 x1 (x3 + 1) x4 else none
set_option maxRecDepth 20000 in
set_option maxHeartbeats 2000000 in
theorem vJ7_fill_d0a16_6 {l : Launch} {D : va_G} {dA : Nat → ClassId} : ∀ (n9 : Nat) (M : vM) (x0 : Nat) (x1 : Int64) (x3 : Int32) (x4 : Int32) (f0 : v_isA 1 x0), v_WT M.2.2 → V l D dA sJ7_fill_d0a16 false 175 1 0 0 6 [(0, .ref x0), (1, .long (x1)), (3, .int x3), (4, .int x4)] [] 175 M (fJ7_fill_d0a16_6 n9 M x0 x1 x3 x4) := by
  intro n9
  induction n9 with
  | zero => intros; exact V_none
  | succ n9 ih =>
    intro M x0 x1 x3 x4 f0 hI
    refine V_iload_n (k := 2) dJ7_fill_d0a16_6 rfl rfl ?_
    refine V_iload (k := 3) dJ7_fill_d0a16_7 rfl ?_
    refine V_icmpge (tgt := 22) dJ7_fill_d0a16_9 (by decide) (fun h3 => ?_) (fun h3 => ?_)
    · exact V_ret (fun _ => hI) (Or.inl ⟨rfl, rfl⟩) dJ7_fill_d0a16_22 (fun ty x h1 h2 => by cases h1) rfl
    · refine V_aload_n (k := 0) dJ7_fill_d0a16_12 rfl rfl ?_
      refine V_iload_n (k := 2) dJ7_fill_d0a16_13 rfl rfl ?_
      refine V_lload_n (k := 1) dJ7_fill_d0a16_14 rfl rfl ?_
      refine V_last dJ7_fill_d0a16_15 f0.2 f0.1 (fun h4 => ?_)
      refine V_iinc (k := 2) (v := x3 + 1) (lv' := [(3, .int (x3 + 1)), (0, .ref x0), (1, .long (x1)), (4, .int x4)]) dJ7_fill_d0a16_16 rfl rfl (by decide) rfl ?_
      refine V_goto (tgt := 6) dJ7_fill_d0a16_19 (by decide) ?_
      refine V_sub [1, 2, 0, 3] rfl ?_
      exact ih (v_sl M x0 (Int32.toNatClampNeg x3) x1) x0 x1 (x3 + 1) x4 f0 hI
def fJ7_fill_d0a16 (M : vM) (x0 : Nat) (x1 : Int64) : Option (vR × vM) := fJ7_fill_d0a16_6 FU M x0 x1 0 (nI ((v_LAY x0).2.2))
set_option maxRecDepth 20000 in
set_option maxHeartbeats 2000000 in
theorem cJ7_fill_d0a16_ok {l : Launch} {D : va_G} {dA : Nat → ClassId} (M : vM) (x0 : Nat) (x1 : Int64) (f0 : v_isA 1 x0) (hI : v_WT M.2.2) : Ct l D dA sJ7_fill_d0a16 false 175 1 0 0 175 [.ref x0, .long (x1)] M (fJ7_fill_d0a16 M x0 x1) := by
  refine Ct_of (lv := [(0, .ref x0), (1, .long (x1))]) (by decide +kernel) rfl (Nat.le_of_ble_eq_true rfl) rfl (fun h => by cases h) ?_
  refine V_iconst (v := 0) dJ7_fill_d0a16_0 rfl ?_
  refine V_istore_n (lv' := [(3, .int 0), (0, .ref x0), (1, .long (x1))]) dJ7_fill_d0a16_1 rfl (by decide) rfl ?_
  refine V_aload_n (k := 1) dJ7_fill_d0a16_2 rfl rfl ?_
  refine V_alen dJ7_fill_d0a16_3 f0.2 f0.1 (by decide) ?_
  refine V_istore (lv' := [(4, .int (nI ((v_LAY x0).2.2))), (3, .int 0), (0, .ref x0), (1, .long (x1))]) dJ7_fill_d0a16_4 (by decide) rfl ?_
  refine V_sub [2, 3, 1, 0] rfl ?_
  exact vJ7_fill_d0a16_6 FU M x0 x1 0 (nI ((v_LAY x0).2.2)) f0 hI
def fX7_passYear_15 : Nat → vM → Int32 → Int64 → Int32 → Option (vR × vM)
  | 0, _, _, _, _ => none
  | n9 + 1, M, x1, x2, x4 => if x4 < 0 then rL x2 M else if v_in x4 101 = true then if v_in x4 101 = true then if v_in x4 101 = true then if v_in (x4 + 1) 101 = true then if v_in (x4 + 1) 101 = true then bi (fX10_at (v_sl (v_sl M 27 (Int32.toNatClampNeg x4) ((M.2.1 27 (Int32.toNatClampNeg x4)) - (((M.2.1 27 (Int32.toNatClampNeg x4)) * (Int32.toInt64 x1)) / 1000))) 27 (Int32.toNatClampNeg (x4 + 1)) (((v_sl M 27 (Int32.toNatClampNeg x4) ((M.2.1 27 (Int32.toNatClampNeg x4)) - (((M.2.1 27 (Int32.toNatClampNeg x4)) * (Int32.toInt64 x1)) / 1000))).2.1 27 (Int32.toNatClampNeg (x4 + 1))) + (((M.2.1 27 (Int32.toNatClampNeg x4)) * (Int32.toInt64 x1)) / 1000))) 26 x4) fun y13 M14 => fX7_passYear_15 n9 M14 x1 (x2 + ((((M.2.1 27 (Int32.toNatClampNeg x4)) * (Int32.toInt64 x1)) / 1000) * (Int32.toInt64 y13))) (x4 + (-1)) else none else none else none else none else none
set_option maxRecDepth 20000 in
set_option maxHeartbeats 2000000 in
theorem vX7_passYear_15 {l : Launch} {D : va_G} {dA : Nat → ClassId} : ∀ (n9 : Nat) (M : vM) (x1 : Int32) (x2 : Int64) (x4 : Int32), v_WT M.2.2 → V l D dA sX7_passYear false 175 2 0 0 15 [(0, .ref 24), (1, .int x1), (2, .long (x2)), (4, .int x4)] [] 175 M (fX7_passYear_15 n9 M x1 x2 x4) := by
  intro n9
  induction n9 with
  | zero => intros; exact V_none
  | succ n9 ih =>
    intro M x1 x2 x4 hI
    refine V_iload (k := 3) dX7_passYear_15 rfl ?_
    refine V_iflt (tgt := 84) dX7_passYear_17 (by decide) (fun h7 => ?_) (fun h7 => ?_)
    · refine V_lload_n (k := 2) dX7_passYear_84 rfl rfl ?_
      exact V_ret (fun _ => hI) (Or.inr (Or.inr (Or.inr (Or.inl ⟨rfl, _, rfl⟩)))) dX7_passYear_85 (fun ty x h1 h2 => by cases h1; cases h2) rfl
    · refine V_aload_n (k := 0) dX7_passYear_20 rfl rfl ?_
      refine V_getr (k := 27) dX7_passYear_21 rfl (by decide) vf_X7_19 (by decide) (v_fin hI 38 rfl) ?_
      refine V_iload (k := 3) dX7_passYear_24 rfl ?_
      refine V_lald dX7_passYear_26 rfl (by decide) (fun h8 => ?_)
      refine V_iload_n (k := 1) dX7_passYear_27 rfl rfl ?_
      refine V_i2l dX7_passYear_28 ?_
      refine V_lmul dX7_passYear_29 ?_
      refine V_ldc2 dX7_passYear_30 gw1127 ?_
      refine V_ldiv dX7_passYear_33 (by decide) ?_
      refine V_lstore (lv' := [(5, .long (((M.2.1 27 (Int32.toNatClampNeg x4)) * (Int32.toInt64 x1)) / 1000)), (0, .ref 24), (1, .int x1), (2, .long (x2)), (4, .int x4)]) dX7_passYear_34 (by decide) rfl ?_
      refine V_aload_n (k := 1) dX7_passYear_36 rfl rfl ?_
      refine V_getr (k := 27) dX7_passYear_37 rfl (by decide) vf_X7_19 (by decide) (v_fin hI 38 rfl) ?_
      refine V_iload (k := 4) dX7_passYear_40 rfl ?_
      refine V_dup2 dX7_passYear_42 rfl rfl ?_
      refine V_lald dX7_passYear_43 rfl (by decide) (fun h9 => ?_)
      refine V_lload (k := 0) dX7_passYear_44 rfl ?_
      refine V_lsub dX7_passYear_46 ?_
      refine V_last dX7_passYear_47 rfl (by decide) (fun h10 => ?_)
      refine V_aload_n (k := 1) dX7_passYear_48 rfl rfl ?_
      refine V_getr (k := 27) dX7_passYear_49 rfl (by decide) vf_X7_19 (by decide) (v_fin hI 38 rfl) ?_
      refine V_iload (k := 4) dX7_passYear_52 rfl ?_
      refine V_iconst (v := 1) dX7_passYear_54 rfl ?_
      refine V_iadd dX7_passYear_55 ?_
      refine V_dup2 dX7_passYear_56 rfl rfl ?_
      refine V_lald dX7_passYear_57 rfl (by decide) (fun h11 => ?_)
      refine V_lload (k := 0) dX7_passYear_58 rfl ?_
      refine V_ladd dX7_passYear_60 ?_
      refine V_last dX7_passYear_61 rfl (by decide) (fun h12 => ?_)
      refine V_lload_n (k := 3) dX7_passYear_62 rfl rfl ?_
      refine V_lload (k := 0) dX7_passYear_63 rfl ?_
      refine V_aload_n (k := 1) dX7_passYear_65 rfl rfl ?_
      refine V_getr (k := 26) dX7_passYear_66 rfl (by decide) vf_X7_15 (by decide) (v_fin hI 37 rfl) ?_
      refine V_iload (k := 4) dX7_passYear_69 rfl ?_
      refine V_callSi (st0 := [.long (((M.2.1 27 (Int32.toNatClampNeg x4)) * (Int32.toInt64 x1)) / 1000), .long (x2)]) (kc' := 0) (ks' := 0) dX7_passYear_71 lk_X7_92 rfl (cX10_at_ok (v_sl (v_sl M 27 (Int32.toNatClampNeg x4) ((M.2.1 27 (Int32.toNatClampNeg x4)) - (((M.2.1 27 (Int32.toNatClampNeg x4)) * (Int32.toInt64 x1)) / 1000))) 27 (Int32.toNatClampNeg (x4 + 1)) (((v_sl M 27 (Int32.toNatClampNeg x4) ((M.2.1 27 (Int32.toNatClampNeg x4)) - (((M.2.1 27 (Int32.toNatClampNeg x4)) * (Int32.toInt64 x1)) / 1000))).2.1 27 (Int32.toNatClampNeg (x4 + 1))) + (((M.2.1 27 (Int32.toNatClampNeg x4)) * (Int32.toInt64 x1)) / 1000))) 26 x4 (v_isA_of (by decide) rfl) hI) rfl rfl (by decide) (by decide) (Nat.le_of_ble_eq_true rfl) (Or.inl rfl) rfl rfl (by decide) (by decide) (fun y13 M14 e15 hI16 => ?_)
      refine V_i2l dX7_passYear_74 ?_
      refine V_lmul dX7_passYear_75 ?_
      refine V_ladd dX7_passYear_76 ?_
      refine V_lstore_n (lv' := [(2, .long (x2 + ((((M.2.1 27 (Int32.toNatClampNeg x4)) * (Int32.toInt64 x1)) / 1000) * (Int32.toInt64 y13)))), (5, .long (((M.2.1 27 (Int32.toNatClampNeg x4)) * (Int32.toInt64 x1)) / 1000)), (0, .ref 24), (1, .int x1), (4, .int x4)]) dX7_passYear_77 rfl (by decide) rfl ?_
      refine V_iinc (k := 4) (v := x4 + (-1)) (lv' := [(4, .int (x4 + (-1))), (2, .long (x2 + ((((M.2.1 27 (Int32.toNatClampNeg x4)) * (Int32.toInt64 x1)) / 1000) * (Int32.toInt64 y13)))), (5, .long (((M.2.1 27 (Int32.toNatClampNeg x4)) * (Int32.toInt64 x1)) / 1000)), (0, .ref 24), (1, .int x1)]) dX7_passYear_78 rfl rfl (by decide) rfl ?_
      refine V_goto (tgt := 15) dX7_passYear_81 (by decide) ?_
      refine V_sub [3, 4, 1, 0] rfl ?_
      exact ih M14 x1 (x2 + ((((M.2.1 27 (Int32.toNatClampNeg x4)) * (Int32.toInt64 x1)) / 1000) * (Int32.toInt64 y13))) (x4 + (-1)) hI16
def fX7_passYear (M : vM) (x1 : Int32) : Option (vR × vM) := fX7_passYear_15 FU M x1 0 ((if 100 < M.1 24 3 then 100 else M.1 24 3) - 1)
set_option maxRecDepth 20000 in
set_option maxHeartbeats 2000000 in
theorem cX7_passYear_ok {l : Launch} {D : va_G} {dA : Nat → ClassId} (M : vM) (x1 : Int32) (hI : v_WT M.2.2) : Ct l D dA sX7_passYear false 175 2 0 0 175 [.ref 24, .int x1] M (fX7_passYear M x1) := by
  refine Ct_of (lv := [(0, .ref 24), (1, .int x1)]) (by decide +kernel) rfl (Nat.le_of_ble_eq_true rfl) rfl (fun h => by cases h) ?_
  refine V_lconst (v := 0) dX7_passYear_0 rfl ?_
  refine V_lstore_n (lv' := [(2, .long (0)), (0, .ref 24), (1, .int x1)]) dX7_passYear_1 rfl (by decide) rfl ?_
  refine V_aload_n (k := 1) dX7_passYear_2 rfl rfl ?_
  refine V_geti dX7_passYear_3 rfl (by decide) vf_X7_23 (by decide) ?_
  refine V_bipush (v := 100) dX7_passYear_6 rfl ?_
  refine V_mmin dX7_passYear_8 gw1126 gw793 gw101 gw794 (by decide) (Nat.le_of_ble_eq_true rfl) ?_
  refine V_iconst (v := 1) dX7_passYear_11 rfl ?_
  refine V_isub dX7_passYear_12 ?_
  refine V_istore (lv' := [(4, .int ((if 100 < M.1 24 3 then 100 else M.1 24 3) - 1)), (2, .long (0)), (0, .ref 24), (1, .int x1)]) dX7_passYear_13 (by decide) rfl ?_
  refine V_sub [2, 3, 1, 0] rfl ?_
  exact vX7_passYear_15 FU M x1 0 ((if 100 < M.1 24 3 then 100 else M.1 24 3) - 1) hI
def fX7_expected_22 : Nat → vM → Int32 → Int32 → Int64 → Int32 → Option (vR × vM)
  | 0, _, _, _, _, _ => none
  | n9 + 1, M, x1, x2, x3, x5 => if x2 ≤ x5 then rI (Int64.toInt32 (x3 / 1000000)) M else bl (fX7_passYear M x1) fun y4 M5 => fX7_expected_22 n9 M5 x1 x2 (x3 + y4) (x5 + 1)
set_option maxRecDepth 20000 in
set_option maxHeartbeats 2000000 in
theorem vX7_expected_22 {l : Launch} {D : va_G} {dA : Nat → ClassId} : ∀ (n9 : Nat) (M : vM) (x1 : Int32) (x2 : Int32) (x3 : Int64) (x5 : Int32), v_WT M.2.2 → V l D dA sX7_expected false 175 3 0 0 22 [(0, .ref 24), (1, .int x1), (2, .int x2), (3, .long (x3)), (5, .int x5)] [] 175 M (fX7_expected_22 n9 M x1 x2 x3 x5) := by
  intro n9
  induction n9 with
  | zero => intros; exact V_none
  | succ n9 ih =>
    intro M x1 x2 x3 x5 hI
    refine V_iload (k := 4) dX7_expected_22 rfl ?_
    refine V_iload_n (k := 2) dX7_expected_24 rfl rfl ?_
    refine V_icmpge (tgt := 42) dX7_expected_25 (by decide) (fun h3 => ?_) (fun h3 => ?_)
    · refine V_lload_n (k := 3) dX7_expected_42 rfl rfl ?_
      refine V_ldc2 dX7_expected_43 gw1129 ?_
      refine V_ldiv dX7_expected_46 (by decide) ?_
      refine V_l2i dX7_expected_47 ?_
      exact V_ret (fun _ => hI) (Or.inr (Or.inl ⟨rfl, _, rfl⟩)) dX7_expected_48 (fun ty x h1 h2 => by cases h1; rfl) rfl
    · refine V_lload_n (k := 3) dX7_expected_28 rfl rfl ?_
      refine V_aload_n (k := 0) dX7_expected_29 rfl rfl ?_
      refine V_iload_n (k := 1) dX7_expected_30 rfl rfl ?_
      refine V_callVl (q := (RX7, TX7, 6)) (cls := 7) (st0 := [.long (x3)]) (kc' := 0) (ks' := 0) dX7_expected_31 lk_X7_78 rfl (by decide) rfl rfl rfl (cX7_passYear_ok M x1 hI) rfl rfl (by decide) (by decide) (Nat.le_of_ble_eq_true rfl) (Or.inl rfl) rfl rfl (by decide) (by decide) (fun y4 M5 e6 hI7 => ?_)
      refine V_ladd dX7_expected_34 ?_
      refine V_lstore_n (lv' := [(3, .long (x3 + y4)), (0, .ref 24), (1, .int x1), (2, .int x2), (5, .int x5)]) dX7_expected_35 rfl (by decide) rfl ?_
      refine V_iinc (k := 4) (v := x5 + 1) (lv' := [(5, .int (x5 + 1)), (3, .long (x3 + y4)), (0, .ref 24), (1, .int x1), (2, .int x2)]) dX7_expected_36 rfl rfl (by decide) rfl ?_
      refine V_goto (tgt := 22) dX7_expected_39 (by decide) ?_
      refine V_sub [2, 3, 4, 1, 0] rfl ?_
      exact ih M5 x1 x2 (x3 + y4) (x5 + 1) hI7
def fX7_expected (M : vM) (x1 : Int32) (x2 : Int32) : Option (vR × vM) := bv (fJ7_fill_d0a16 M 27 0) fun M8 => if v_in 0 101 = true then fX7_expected_22 FU (v_sl M8 27 (Int32.toNatClampNeg 0) 1000000000) x1 x2 0 0 else none
set_option maxRecDepth 20000 in
set_option maxHeartbeats 2000000 in
theorem cX7_expected_ok {l : Launch} {D : va_G} {dA : Nat → ClassId} (M : vM) (x1 : Int32) (x2 : Int32) (hI : v_WT M.2.2) : Ct l D dA sX7_expected false 175 3 0 0 175 [.ref 24, .int x1, .int x2] M (fX7_expected M x1 x2) := by
  refine Ct_of (lv := [(0, .ref 24), (1, .int x1), (2, .int x2)]) (by decide +kernel) rfl (Nat.le_of_ble_eq_true rfl) rfl (fun h => by cases h) ?_
  refine V_aload_n (k := 0) dX7_expected_0 rfl rfl ?_
  refine V_getr (k := 27) dX7_expected_1 rfl (by decide) vf_X7_19 (by decide) (v_fin hI 38 rfl) ?_
  refine V_lconst (v := 0) dX7_expected_4 rfl ?_
  refine V_callSv (st0 := []) (kc' := 0) (ks' := 0) dX7_expected_5 lk_X7_70 rfl (cJ7_fill_d0a16_ok M 27 0 (v_isA_of (by decide) rfl) hI) rfl rfl (by decide) (by decide) (Nat.le_of_ble_eq_true rfl) (Or.inl rfl) rfl rfl (by decide) (by decide) (fun  M8 e9 hI10 => ?_)
  refine V_aload_n (k := 0) dX7_expected_8 rfl rfl ?_
  refine V_getr (k := 27) dX7_expected_9 rfl (by decide) vf_X7_19 (by decide) (v_fin hI10 38 rfl) ?_
  refine V_iconst (v := 0) dX7_expected_12 rfl ?_
  refine V_ldc2 dX7_expected_13 gw1121 ?_
  refine V_last dX7_expected_16 rfl (by decide) (fun h11 => ?_)
  refine V_lconst (v := 0) dX7_expected_17 rfl ?_
  refine V_lstore_n (lv' := [(3, .long (0)), (0, .ref 24), (1, .int x1), (2, .int x2)]) dX7_expected_18 rfl (by decide) rfl ?_
  refine V_iconst (v := 0) dX7_expected_19 rfl ?_
  refine V_istore (lv' := [(5, .int 0), (3, .long (0)), (0, .ref 24), (1, .int x1), (2, .int x2)]) dX7_expected_20 (by decide) rfl ?_
  refine V_sub [2, 3, 4, 1, 0] rfl ?_
  exact vX7_expected_22 FU (v_sl M8 27 (Int32.toNatClampNeg 0) 1000000000) x1 x2 0 0 hI10
def fX10_chance (M : vM) (x1 : Int32) (x2 : Int32) (x3 : Int32) : Option (vR × vM) := br (fX10_workOf M x1) fun y1 M2 => bv (fX10_refuseUnlessWithin M2 x2 0 1000) fun M5 => bv (fX10_refuseUnlessWithin M5 x3 0 100) fun M8 => bv (fX7_follow M8 y1 100) fun M11 => bi (fX7_expected M11 x2 x3) fun y14 M15 => rI y14 M15
set_option maxRecDepth 20000 in
set_option maxHeartbeats 2000000 in
theorem cX10_chance_ok {l : Launch} {D : va_G} {dA : Nat → ClassId} (hT : l.stackTraces = false) (M : vM) (x1 : Int32) (x2 : Int32) (x3 : Int32) (hI : v_WT M.2.2) : Ct l D dA sX10_chance false 175 7 3 18 175 [.ref 0, .int x1, .int x2, .int x3] M (fX10_chance M x1 x2 x3) := by
  refine Ct_of (lv := [(0, .ref 0), (1, .int x1), (2, .int x2), (3, .int x3)]) (by decide +kernel) rfl (Nat.le_of_ble_eq_true rfl) rfl (fun h => by cases h) ?_
  refine V_aload_n (k := 0) dX10_chance_0 rfl rfl ?_
  refine V_iload_n (k := 1) dX10_chance_1 rfl rfl ?_
  refine V_callVr (q := (RX10, TX10, 15)) (cls := 10) (st0 := []) (kc' := 2) (ks' := 12) dX10_chance_2 lk_X10_158 rfl (by decide) rfl rfl rfl (cX10_workOf_ok hT M x1 hI) rfl rfl (by decide) (by decide) (Nat.le_of_ble_eq_true rfl) (Or.inl rfl) rfl rfl (by decide) (by decide) (fun y1 M2 e3 hI4 => ?_)
  have wy1 := wX10_workOf_ret e3
  refine V_astore (lv' := [(4, .ref y1), (0, .ref 0), (1, .int x1), (2, .int x2), (3, .int x3)]) dX10_chance_5 (by decide) rfl ?_
  refine V_iload_n (k := 3) dX10_chance_7 rfl rfl ?_
  refine V_iconst (v := 0) dX10_chance_8 rfl ?_
  refine V_sipush (v := 1000) dX10_chance_9 rfl ?_
  refine V_callSv (st0 := []) (kc' := 1) (ks' := 6) dX10_chance_12 lk_X10_254 rfl (cX10_refuseUnlessWithin_ok hT M2 x2 0 1000 hI4) rfl rfl (by decide) (by decide) (Nat.le_of_ble_eq_true rfl) (Or.inl rfl) rfl rfl (by decide) (by decide) (fun  M5 e6 hI7 => ?_)
  refine V_iload_n (k := 4) dX10_chance_15 rfl rfl ?_
  refine V_iconst (v := 0) dX10_chance_16 rfl ?_
  refine V_bipush (v := 100) dX10_chance_17 rfl ?_
  refine V_callSv (st0 := []) (kc' := 0) (ks' := 0) dX10_chance_19 lk_X10_254 rfl (cX10_refuseUnlessWithin_ok hT M5 x3 0 100 hI7) rfl rfl (by decide) (by decide) (Nat.le_of_ble_eq_true rfl) (Or.inl rfl) rfl rfl (by decide) (by decide) (fun  M8 e9 hI10 => ?_)
  refine V_aload_n (k := 1) dX10_chance_22 rfl rfl ?_
  refine V_getr (k := 24) dX10_chance_23 rfl (by decide) vf_X10_50 (by decide) (v_fin hI10 6 rfl) ?_
  refine V_aload (k := 0) dX10_chance_26 rfl ?_
  refine V_bipush (v := 100) dX10_chance_28 rfl ?_
  refine V_callVv (q := (RX7, TX7, 6)) (cls := 7) (st0 := []) (kc' := 0) (ks' := 0) dX10_chance_30 lk_X10_281 rfl (by decide) rfl rfl rfl (cX7_follow_ok M8 y1 100 wy1 hI10) rfl rfl (by decide) (by decide) (Nat.le_of_ble_eq_true rfl) (Or.inl rfl) rfl rfl (by decide) (by decide) (fun  M11 e12 hI13 => ?_)
  refine V_aload_n (k := 1) dX10_chance_33 rfl rfl ?_
  refine V_getr (k := 24) dX10_chance_34 rfl (by decide) vf_X10_50 (by decide) (v_fin hI13 6 rfl) ?_
  refine V_iload_n (k := 3) dX10_chance_37 rfl rfl ?_
  refine V_iload_n (k := 4) dX10_chance_38 rfl rfl ?_
  refine V_callVi (q := (RX7, TX7, 6)) (cls := 7) (st0 := []) (kc' := 0) (ks' := 0) dX10_chance_39 lk_X10_293 rfl (by decide) rfl rfl rfl (cX7_expected_ok M11 x2 x3 hI13) rfl rfl (by decide) (by decide) (Nat.le_of_ble_eq_true rfl) (Or.inl rfl) rfl rfl (by decide) (by decide) (fun y14 M15 e16 hI17 => ?_)
  exact V_ret (fun _ => hI17) (Or.inr (Or.inl ⟨rfl, _, rfl⟩)) dX10_chance_42 (fun ty x h1 h2 => by cases h1; rfl) rfl
def fX1_refused (M : vM) (x0 : Nat) (x1 : Int32) : Option (vR × vM) := bi (fX10_at M (x0 + 8) x1) fun y1 M2 => rI y1 M2
set_option maxRecDepth 20000 in
set_option maxHeartbeats 2000000 in
theorem cX1_refused_ok {l : Launch} {D : va_G} {dA : Nat → ClassId} (M : vM) (x0 : Nat) (x1 : Int32) (f0 : v_isG x0) (hI : v_WT M.2.2) : Ct l D dA sX1_refused false 175 2 0 0 175 [.ref x0, .int x1] M (fX1_refused M x0 x1) := by
  refine Ct_of (lv := [(0, .ref x0), (1, .int x1)]) (by decide +kernel) rfl (Nat.le_of_ble_eq_true rfl) rfl (fun h => by cases h) ?_
  refine V_aload_n (k := 0) dX1_refused_0 rfl rfl ?_
  refine V_getr (k := x0 + 8) dX1_refused_1 (v_LG f0).2.1 (v_LG f0).1 vf_X1_33 (by decide) (v_finG hI f0).2.2.2.2.2.2.2 ?_
  refine V_iload_n (k := 1) dX1_refused_4 rfl rfl ?_
  refine V_callSi (st0 := []) (kc' := 0) (ks' := 0) dX1_refused_5 lk_X1_52 rfl (cX10_at_ok M (x0 + 8) x1 (v_isA_of (v_LG f0).2.2.2.2.2.2.2.2.2.2 (v_LG f0).2.2.1.2.2.2.2.2.2.2) hI) rfl rfl (by decide) (by decide) (Nat.le_of_ble_eq_true rfl) (Or.inl rfl) rfl rfl (by decide) (by decide) (fun y1 M2 e3 hI4 => ?_)
  exact V_ret (fun _ => hI4) (Or.inr (Or.inl ⟨rfl, _, rfl⟩)) dX1_refused_8 (fun ty x h1 h2 => by cases h1; rfl) rfl
def fX10_count (M : vM) (x1 : Int32) : Option (vR × vM) := if x1 = 0 then rI (M.1 0 12) M else if x1 = 1 then rI (M.1 1 1) M else if x1 = 2 then rI (M.1 6 0) M else if x1 = 3 then bi (fX1_refused M 6 (x1 - 3)) fun y12 M13 => rI y12 M13 else if x1 = 4 then bi (fX1_refused M 6 (x1 - 3)) fun y17 M18 => rI y17 M18 else if x1 = 5 then bi (fX1_refused M 6 (x1 - 3)) fun y22 M23 => rI y22 M23 else if x1 = 6 then bi (fX1_refused M 6 (x1 - 3)) fun y27 M28 => rI y27 M28 else rT 1 M
set_option maxRecDepth 20000 in
set_option maxHeartbeats 2000000 in
theorem cX10_count_ok {l : Launch} {D : va_G} {dA : Nat → ClassId} (hT : l.stackTraces = false) (M : vM) (x1 : Int32) (hI : v_WT M.2.2) : Ct l D dA sX10_count false 175 6 1 6 175 [.ref 0, .int x1] M (fX10_count M x1) := by
  refine Ct_of (lv := [(0, .ref 0), (1, .int x1)]) (by decide +kernel) rfl (Nat.le_of_ble_eq_true rfl) rfl (fun h => by cases h) ?_
  refine V_iload_n (k := 1) dX10_count_0 rfl rfl ?_
  refine V_tcase (k := 0) (tgt := 44) dX10_count_1 (by decide) (by decide) rfl (by decide) (fun h8 => ?_) (fun h8 => ?_)
  · refine V_aload_n (k := 0) dX10_count_44 rfl rfl ?_
    refine V_geti dX10_count_45 rfl (by decide) vf_X10_129 (by decide) ?_
    exact V_ret (fun _ => hI) (Or.inr (Or.inl ⟨rfl, _, rfl⟩)) dX10_count_48 (fun ty x h1 h2 => by cases h1; rfl) rfl
  refine V_tcase (k := 1) (tgt := 49) dX10_count_1 (by decide) (by decide) rfl (by decide) (fun h9 => ?_) (fun h9 => ?_)
  · refine V_aload_n (k := 0) dX10_count_49 rfl rfl ?_
    refine V_getr (k := 1) dX10_count_50 rfl (by decide) vf_X10_12 (by decide) (v_fin hI 0 rfl) ?_
    refine V_geti dX10_count_53 rfl (by decide) vf_X10_94 (by decide) ?_
    exact V_ret (fun _ => hI) (Or.inr (Or.inl ⟨rfl, _, rfl⟩)) dX10_count_56 (fun ty x h1 h2 => by cases h1; rfl) rfl
  refine V_tcase (k := 2) (tgt := 57) dX10_count_1 (by decide) (by decide) rfl (by decide) (fun h10 => ?_) (fun h10 => ?_)
  · refine V_aload_n (k := 0) dX10_count_57 rfl rfl ?_
    refine V_getr (k := 6) dX10_count_58 rfl (by decide) vf_X10_40 (by decide) (v_fin hI 4 rfl) ?_
    refine V_geti dX10_count_61 rfl (by decide) vf_X10_146 (by decide) ?_
    exact V_ret (fun _ => hI) (Or.inr (Or.inl ⟨rfl, _, rfl⟩)) dX10_count_64 (fun ty x h1 h2 => by cases h1; rfl) rfl
  refine V_tcase (k := 3) (tgt := 65) dX10_count_1 (by decide) (by decide) rfl (by decide) (fun h11 => ?_) (fun h11 => ?_)
  · refine V_aload_n (k := 0) dX10_count_65 rfl rfl ?_
    refine V_getr (k := 6) dX10_count_66 rfl (by decide) vf_X10_40 (by decide) (v_fin hI 4 rfl) ?_
    refine V_iload_n (k := 1) dX10_count_69 rfl rfl ?_
    refine V_iconst (v := 3) dX10_count_70 rfl ?_
    refine V_isub dX10_count_71 ?_
    refine V_callVi (q := (RX1, TX1, 9)) (cls := 1) (st0 := []) (kc' := 1) (ks' := 6) dX10_count_72 lk_X10_149 rfl (by decide) rfl rfl rfl (cX1_refused_ok M 6 (x1 - 3) (Or.inl rfl) hI) rfl rfl (by decide) (by decide) (Nat.le_of_ble_eq_true rfl) (Or.inl rfl) rfl rfl (by decide) (by decide) (fun y12 M13 e14 hI15 => ?_)
    exact V_ret (fun _ => hI15) (Or.inr (Or.inl ⟨rfl, _, rfl⟩)) dX10_count_75 (fun ty x h1 h2 => by cases h1; rfl) rfl
  refine V_tcase (k := 4) (tgt := 65) dX10_count_1 (by decide) (by decide) rfl (by decide) (fun h16 => ?_) (fun h16 => ?_)
  · refine V_aload_n (k := 0) dX10_count_65 rfl rfl ?_
    refine V_getr (k := 6) dX10_count_66 rfl (by decide) vf_X10_40 (by decide) (v_fin hI 4 rfl) ?_
    refine V_iload_n (k := 1) dX10_count_69 rfl rfl ?_
    refine V_iconst (v := 3) dX10_count_70 rfl ?_
    refine V_isub dX10_count_71 ?_
    refine V_callVi (q := (RX1, TX1, 9)) (cls := 1) (st0 := []) (kc' := 1) (ks' := 6) dX10_count_72 lk_X10_149 rfl (by decide) rfl rfl rfl (cX1_refused_ok M 6 (x1 - 3) (Or.inl rfl) hI) rfl rfl (by decide) (by decide) (Nat.le_of_ble_eq_true rfl) (Or.inl rfl) rfl rfl (by decide) (by decide) (fun y17 M18 e19 hI20 => ?_)
    exact V_ret (fun _ => hI20) (Or.inr (Or.inl ⟨rfl, _, rfl⟩)) dX10_count_75 (fun ty x h1 h2 => by cases h1; rfl) rfl
  refine V_tcase (k := 5) (tgt := 65) dX10_count_1 (by decide) (by decide) rfl (by decide) (fun h21 => ?_) (fun h21 => ?_)
  · refine V_aload_n (k := 0) dX10_count_65 rfl rfl ?_
    refine V_getr (k := 6) dX10_count_66 rfl (by decide) vf_X10_40 (by decide) (v_fin hI 4 rfl) ?_
    refine V_iload_n (k := 1) dX10_count_69 rfl rfl ?_
    refine V_iconst (v := 3) dX10_count_70 rfl ?_
    refine V_isub dX10_count_71 ?_
    refine V_callVi (q := (RX1, TX1, 9)) (cls := 1) (st0 := []) (kc' := 1) (ks' := 6) dX10_count_72 lk_X10_149 rfl (by decide) rfl rfl rfl (cX1_refused_ok M 6 (x1 - 3) (Or.inl rfl) hI) rfl rfl (by decide) (by decide) (Nat.le_of_ble_eq_true rfl) (Or.inl rfl) rfl rfl (by decide) (by decide) (fun y22 M23 e24 hI25 => ?_)
    exact V_ret (fun _ => hI25) (Or.inr (Or.inl ⟨rfl, _, rfl⟩)) dX10_count_75 (fun ty x h1 h2 => by cases h1; rfl) rfl
  refine V_tcase (k := 6) (tgt := 65) dX10_count_1 (by decide) (by decide) rfl (by decide) (fun h26 => ?_) (fun h26 => ?_)
  · refine V_aload_n (k := 0) dX10_count_65 rfl rfl ?_
    refine V_getr (k := 6) dX10_count_66 rfl (by decide) vf_X10_40 (by decide) (v_fin hI 4 rfl) ?_
    refine V_iload_n (k := 1) dX10_count_69 rfl rfl ?_
    refine V_iconst (v := 3) dX10_count_70 rfl ?_
    refine V_isub dX10_count_71 ?_
    refine V_callVi (q := (RX1, TX1, 9)) (cls := 1) (st0 := []) (kc' := 1) (ks' := 6) dX10_count_72 lk_X10_149 rfl (by decide) rfl rfl rfl (cX1_refused_ok M 6 (x1 - 3) (Or.inl rfl) hI) rfl rfl (by decide) (by decide) (Nat.le_of_ble_eq_true rfl) (Or.inl rfl) rfl rfl (by decide) (by decide) (fun y27 M28 e29 hI30 => ?_)
    exact V_ret (fun _ => hI30) (Or.inr (Or.inl ⟨rfl, _, rfl⟩)) dX10_count_75 (fun ty x h1 h2 => by cases h1; rfl) rfl
  refine V_tdef (tgt := 76) dX10_count_1 (v_tout (m := 6) (by decide) (lt_s (lt_s (lt_s (lt_s (lt_s (lt_s (lt_s lt_0 h8) h9) h10) h11) h16) h21) h26)) (by decide) ?_
  exact V_throwN (sid := 18) (text := "no such what") (fun _ => hI) hT rfl (by decide +kernel) dX10_count_76 dX10_count_79 dX10_count_80 dX10_count_82 dX10_count_85 rfl (by decide) (by decide) (by decide) (Nat.le_of_ble_eq_true rfl)
def fX10_court_62 : Nat → vM → Int32 → Int32 → Int32 → Nat → Int32 → Int32 → Option (vR × vM)
  | 0, _, _, _, _, _, _, _ => none
  | n9 + 1, M, x1, x2, x3, x4, x5, x6 => if (M.1 6 0) ≤ x6 then rI x5 M else bi (fX1_bookWork M 6 x6) fun y7 M8 => if y7 = x1 then bi (fX1_bookWay M8 6 x6) fun y12 M13 => bi (fX9_setSame M13 x4 39 x2 x3 y12 0) fun y16 M17 => fX10_court_62 n9 M17 x1 x2 x3 x4 (x5 - y16) (x6 + 1) else fX10_court_62 n9 M8 x1 x2 x3 x4 x5 (x6 + 1)
set_option maxRecDepth 20000 in
set_option maxHeartbeats 2000000 in
theorem vX10_court_62 {l : Launch} {D : va_G} {dA : Nat → ClassId} (hT : l.stackTraces = false) : ∀ (n9 : Nat) (M : vM) (x1 : Int32) (x2 : Int32) (x3 : Int32) (x4 : Nat) (x5 : Int32) (x6 : Int32) (f4 : v_isW x4), v_WT M.2.2 → V l D dA sX10_court false 175 7 0 0 62 [(0, .ref 0), (1, .int x1), (2, .int x2), (3, .int x3), (4, .ref x4), (5, .int x5), (6, .int x6)] [] 175 M (fX10_court_62 n9 M x1 x2 x3 x4 x5 x6) := by
  intro n9
  induction n9 with
  | zero => intros; exact V_none
  | succ n9 ih =>
    intro M x1 x2 x3 x4 x5 x6 f4 hI
    refine V_iload (k := 6) dX10_court_62 rfl ?_
    refine V_aload_n (k := 0) dX10_court_64 rfl rfl ?_
    refine V_getr (k := 6) dX10_court_65 rfl (by decide) vf_X10_40 (by decide) (v_fin hI 4 rfl) ?_
    refine V_geti dX10_court_68 rfl (by decide) vf_X10_146 (by decide) ?_
    refine V_icmpge (tgt := 119) dX10_court_71 (by decide) (fun h6 => ?_) (fun h6 => ?_)
    · refine V_iload (k := 5) dX10_court_119 rfl ?_
      exact V_ret (fun _ => hI) (Or.inr (Or.inl ⟨rfl, _, rfl⟩)) dX10_court_121 (fun ty x h1 h2 => by cases h1; rfl) rfl
    · refine V_aload_n (k := 0) dX10_court_74 rfl rfl ?_
      refine V_getr (k := 6) dX10_court_75 rfl (by decide) vf_X10_40 (by decide) (v_fin hI 4 rfl) ?_
      refine V_iload (k := 6) dX10_court_78 rfl ?_
      refine V_callVi (q := (RX1, TX1, 9)) (cls := 1) (st0 := []) (kc' := 0) (ks' := 0) dX10_court_80 lk_X10_237 rfl (by decide) rfl rfl rfl (cX1_bookWork_ok M 6 x6 (Or.inl rfl) hI) rfl rfl (by decide) (by decide) (Nat.le_of_ble_eq_true rfl) (Or.inl rfl) rfl rfl (by decide) (by decide) (fun y7 M8 e9 hI10 => ?_)
      refine V_iload_n (k := 1) dX10_court_83 rfl rfl ?_
      refine V_icmpne (tgt := 113) dX10_court_84 (by decide) (fun h11 => ?_) (fun h11 => ?_)
      · refine V_iinc (k := 6) (v := x6 + 1) (lv' := [(6, .int (x6 + 1)), (0, .ref 0), (1, .int x1), (2, .int x2), (3, .int x3), (4, .ref x4), (5, .int x5)]) dX10_court_113 rfl rfl (by decide) rfl ?_
        refine V_goto (tgt := 62) dX10_court_116 (by decide) ?_
        refine V_sub [1, 2, 3, 4, 5, 6, 0] rfl ?_
        exact ih M8 x1 x2 x3 x4 x5 (x6 + 1) f4 hI10
      · refine V_iload (k := 5) dX10_court_87 rfl ?_
        refine V_aload (k := 4) dX10_court_89 rfl ?_
        refine V_aload_n (k := 0) dX10_court_91 rfl rfl ?_
        refine V_getr (k := 39) dX10_court_92 rfl (by decide) vf_X10_82 (by decide) (v_fin hI10 11 rfl) ?_
        refine V_iload_n (k := 2) dX10_court_95 rfl rfl ?_
        refine V_iload_n (k := 3) dX10_court_96 rfl rfl ?_
        refine V_aload_n (k := 0) dX10_court_97 rfl rfl ?_
        refine V_getr (k := 6) dX10_court_98 rfl (by decide) vf_X10_40 (by decide) (v_fin hI10 4 rfl) ?_
        refine V_iload (k := 6) dX10_court_101 rfl ?_
        refine V_callVi (q := (RX1, TX1, 9)) (cls := 1) (st0 := [.int x3, .int x2, .ref 39, .ref x4, .int x5]) (kc' := 0) (ks' := 0) dX10_court_103 lk_X10_240 rfl (by decide) rfl rfl rfl (cX1_bookWay_ok M8 6 x6 (Or.inl rfl) hI10) rfl rfl (by decide) (by decide) (Nat.le_of_ble_eq_true rfl) (Or.inl rfl) rfl rfl (by decide) (by decide) (fun y12 M13 e14 hI15 => ?_)
        refine V_iconst (v := 0) dX10_court_106 rfl ?_
        refine V_callVi (q := (RX9, TX9, 6)) (cls := 9) (st0 := [.int x5]) (kc' := 0) (ks' := 0) dX10_court_107 lk_X10_344 rfl (v_LW f4).1 (v_LW f4).2.1 rfl rfl (cX9_setSame_ok M13 x4 39 x2 x3 y12 0 f4 (v_isA_of (by decide) rfl) hI15) rfl rfl (by decide) (by decide) (Nat.le_of_ble_eq_true rfl) (Or.inl rfl) rfl rfl (by decide) (by decide) (fun y16 M17 e18 hI19 => ?_)
        refine V_isub dX10_court_110 ?_
        refine V_istore (lv' := [(5, .int (x5 - y16)), (0, .ref 0), (1, .int x1), (2, .int x2), (3, .int x3), (4, .ref x4), (6, .int x6)]) dX10_court_111 (by decide) rfl ?_
        refine V_iinc (k := 6) (v := x6 + 1) (lv' := [(6, .int (x6 + 1)), (5, .int (x5 - y16)), (0, .ref 0), (1, .int x1), (2, .int x2), (3, .int x3), (4, .ref x4)]) dX10_court_113 rfl rfl (by decide) rfl ?_
        refine V_goto (tgt := 62) dX10_court_116 (by decide) ?_
        refine V_sub [2, 3, 4, 5, 6, 1, 0] rfl ?_
        exact ih M17 x1 x2 x3 x4 (x5 - y16) (x6 + 1) f4 hI19
def fX10_court_28 : Nat → vM → Int32 → Int32 → Int32 → Nat → Int32 → Option (vR × vM)
  | 0, _, _, _, _, _, _ => none
  | n9 + 1, M, x1, x2, x3, x4, x5 => if (nI 1458) ≤ x5 then fX10_court_62 FU M x1 x2 x3 x4 (M.1 x4 1) 0 else if v_in x5 1458 = true then fX10_court_28 n9 (v_si M 39 (Int32.toNatClampNeg x5) (v_nz 0)) x1 x2 x3 x4 (x5 + 1) else none
set_option maxRecDepth 20000 in
set_option maxHeartbeats 2000000 in
theorem vX10_court_28 {l : Launch} {D : va_G} {dA : Nat → ClassId} (hT : l.stackTraces = false) : ∀ (n9 : Nat) (M : vM) (x1 : Int32) (x2 : Int32) (x3 : Int32) (x4 : Nat) (x5 : Int32) (f4 : v_isW x4), v_WT M.2.2 → V l D dA sX10_court false 175 7 0 0 28 [(0, .ref 0), (1, .int x1), (2, .int x2), (3, .int x3), (4, .ref x4), (5, .int x5)] [] 175 M (fX10_court_28 n9 M x1 x2 x3 x4 x5) := by
  intro n9
  induction n9 with
  | zero => intros; exact V_none
  | succ n9 ih =>
    intro M x1 x2 x3 x4 x5 f4 hI
    refine V_iload (k := 5) dX10_court_28 rfl ?_
    refine V_aload_n (k := 0) dX10_court_30 rfl rfl ?_
    refine V_getr (k := 39) dX10_court_31 rfl (by decide) vf_X10_82 (by decide) (v_fin hI 11 rfl) ?_
    refine V_alen dX10_court_34 rfl (by decide) (by decide) ?_
    refine V_icmpge (tgt := 52) dX10_court_35 (by decide) (fun h20 => ?_) (fun h20 => ?_)
    · refine V_aload (k := 4) dX10_court_52 rfl ?_
      refine V_geti dX10_court_54 (v_LW f4).2.1 (v_LW f4).1 vf_X10_165 (by decide) ?_
      refine V_istore (lv' := [(5, .int (M.1 x4 1)), (0, .ref 0), (1, .int x1), (2, .int x2), (3, .int x3), (4, .ref x4)]) dX10_court_57 (by decide) rfl ?_
      refine V_iconst (v := 0) dX10_court_59 rfl ?_
      refine V_istore (lv' := [(6, .int 0), (5, .int (M.1 x4 1)), (0, .ref 0), (1, .int x1), (2, .int x2), (3, .int x3), (4, .ref x4)]) dX10_court_60 (by decide) rfl ?_
      refine V_sub [2, 3, 4, 5, 6, 1, 0] rfl ?_
      exact vX10_court_62 hT FU M x1 x2 x3 x4 (M.1 x4 1) 0 f4 hI
    · refine V_aload_n (k := 0) dX10_court_38 rfl rfl ?_
      refine V_getr (k := 39) dX10_court_39 rfl (by decide) vf_X10_82 (by decide) (v_fin hI 11 rfl) ?_
      refine V_iload (k := 5) dX10_court_42 rfl ?_
      refine V_iconst (v := 0) dX10_court_44 rfl ?_
      refine V_zast dX10_court_45 rfl (by decide) (fun h21 => ?_)
      refine V_iinc (k := 5) (v := x5 + 1) (lv' := [(5, .int (x5 + 1)), (0, .ref 0), (1, .int x1), (2, .int x2), (3, .int x3), (4, .ref x4)]) dX10_court_46 rfl rfl (by decide) rfl ?_
      refine V_goto (tgt := 28) dX10_court_49 (by decide) ?_
      refine V_sub [1, 2, 3, 4, 5, 0] rfl ?_
      exact ih (v_si M 39 (Int32.toNatClampNeg x5) (v_nz 0)) x1 x2 x3 x4 (x5 + 1) f4 hI
def fX10_court (M : vM) (x1 : Int32) (x2 : Int32) (x3 : Int32) : Option (vR × vM) := br (fX10_workOf M x1) fun y22 M23 => bv (fX10_refuseUnlessWithin M23 x2 0 2) fun M26 => if x2 = 2 then bv (fX10_refuseUnlessWithin M26 x3 1 9) fun M30 => fX10_court_28 FU M30 x1 x2 x3 y22 0 else fX10_court_28 FU M26 x1 x2 x3 y22 0
set_option maxRecDepth 20000 in
set_option maxHeartbeats 2000000 in
theorem cX10_court_ok {l : Launch} {D : va_G} {dA : Nat → ClassId} (hT : l.stackTraces = false) (M : vM) (x1 : Int32) (x2 : Int32) (x3 : Int32) (hI : v_WT M.2.2) : Ct l D dA sX10_court false 175 7 3 18 175 [.ref 0, .int x1, .int x2, .int x3] M (fX10_court M x1 x2 x3) := by
  refine Ct_of (lv := [(0, .ref 0), (1, .int x1), (2, .int x2), (3, .int x3)]) (by decide +kernel) rfl (Nat.le_of_ble_eq_true rfl) rfl (fun h => by cases h) ?_
  refine V_aload_n (k := 0) dX10_court_0 rfl rfl ?_
  refine V_iload_n (k := 1) dX10_court_1 rfl rfl ?_
  refine V_callVr (q := (RX10, TX10, 15)) (cls := 10) (st0 := []) (kc' := 2) (ks' := 12) dX10_court_2 lk_X10_158 rfl (by decide) rfl rfl rfl (cX10_workOf_ok hT M x1 hI) rfl rfl (by decide) (by decide) (Nat.le_of_ble_eq_true rfl) (Or.inl rfl) rfl rfl (by decide) (by decide) (fun y22 M23 e24 hI25 => ?_)
  have wy22 := wX10_workOf_ret e24
  refine V_astore (lv' := [(4, .ref y22), (0, .ref 0), (1, .int x1), (2, .int x2), (3, .int x3)]) dX10_court_5 (by decide) rfl ?_
  refine V_iload_n (k := 3) dX10_court_7 rfl rfl ?_
  refine V_iconst (v := 0) dX10_court_8 rfl ?_
  refine V_iconst (v := 2) dX10_court_9 rfl ?_
  refine V_callSv (st0 := []) (kc' := 1) (ks' := 6) dX10_court_10 lk_X10_254 rfl (cX10_refuseUnlessWithin_ok hT M23 x2 0 2 hI25) rfl rfl (by decide) (by decide) (Nat.le_of_ble_eq_true rfl) (Or.inl rfl) rfl rfl (by decide) (by decide) (fun  M26 e27 hI28 => ?_)
  refine V_iload_n (k := 3) dX10_court_13 rfl rfl ?_
  refine V_iconst (v := 2) dX10_court_14 rfl ?_
  refine V_icmpne (tgt := 25) dX10_court_15 (by decide) (fun h29 => ?_) (fun h29 => ?_)
  · refine V_iconst (v := 0) dX10_court_25 rfl ?_
    refine V_istore (lv' := [(5, .int 0), (4, .ref y22), (0, .ref 0), (1, .int x1), (2, .int x2), (3, .int x3)]) dX10_court_26 (by decide) rfl ?_
    refine V_sub [2, 3, 4, 5, 1, 0] rfl ?_
    refine V_kc (kc1 := 0) (ks1 := 0) (by decide) (by decide) ?_
    exact vX10_court_28 hT FU M26 x1 x2 x3 y22 0 wy22 hI28
  · refine V_iload_n (k := 4) dX10_court_18 rfl rfl ?_
    refine V_iconst (v := 1) dX10_court_19 rfl ?_
    refine V_bipush (v := 9) dX10_court_20 rfl ?_
    refine V_callSv (st0 := []) (kc' := 0) (ks' := 0) dX10_court_22 lk_X10_254 rfl (cX10_refuseUnlessWithin_ok hT M26 x3 1 9 hI28) rfl rfl (by decide) (by decide) (Nat.le_of_ble_eq_true rfl) (Or.inl rfl) rfl rfl (by decide) (by decide) (fun  M30 e31 hI32 => ?_)
    refine V_iconst (v := 0) dX10_court_25 rfl ?_
    refine V_istore (lv' := [(5, .int 0), (4, .ref y22), (0, .ref 0), (1, .int x1), (2, .int x2), (3, .int x3)]) dX10_court_26 (by decide) rfl ?_
    refine V_sub [2, 3, 4, 5, 1, 0] rfl ?_
    exact vX10_court_28 hT FU M30 x1 x2 x3 y22 0 wy22 hI32
def fX1_bookIsFull (M : vM) (x0 : Nat) : Option (vR × vM) := if (M.1 x0 0) < 400 then rI 0 M else rI 1 M
set_option maxRecDepth 20000 in
set_option maxHeartbeats 2000000 in
theorem cX1_bookIsFull_ok {l : Launch} {D : va_G} {dA : Nat → ClassId} (M : vM) (x0 : Nat) (f0 : v_isG x0) (hI : v_WT M.2.2) : Ct l D dA sX1_bookIsFull false 175 1 0 0 175 [.ref x0] M (fX1_bookIsFull M x0) := by
  refine Ct_of (lv := [(0, .ref x0)]) (by decide +kernel) rfl (Nat.le_of_ble_eq_true rfl) rfl (fun h => by cases h) ?_
  refine V_aload_n (k := 0) dX1_bookIsFull_0 rfl rfl ?_
  refine V_geti dX1_bookIsFull_1 (v_LG f0).2.1 (v_LG f0).1 vf_X1_42 (by decide) ?_
  refine V_sipush (v := 400) dX1_bookIsFull_4 rfl ?_
  refine V_icmplt (tgt := 14) dX1_bookIsFull_7 (by decide) (fun h2 => ?_) (fun h2 => ?_)
  · refine V_iconst (v := 0) dX1_bookIsFull_14 rfl ?_
    exact V_ret (fun _ => hI) (Or.inr (Or.inr (Or.inl ⟨rfl, _, rfl⟩))) dX1_bookIsFull_15 (fun ty x h1 h2 => by cases h1; cases h2; rfl) rfl
  · refine V_iconst (v := 1) dX1_bookIsFull_10 rfl ?_
    refine V_goto (tgt := 15) dX1_bookIsFull_11 (by decide) ?_
    exact V_ret (fun _ => hI) (Or.inr (Or.inr (Or.inl ⟨rfl, _, rfl⟩))) dX1_bookIsFull_15 (fun ty x h1 h2 => by cases h1; cases h2; rfl) rfl
def fX1_enter (M : vM) (x0 : Nat) (x1 : Int32) (x2 : Int32) : Option (vR × vM) := bv (fX10_put M (x0 + 1) (M.1 x0 0) x1) fun M1 => bv (fX10_put M1 (x0 + 2) (M1.1 x0 0) x2) fun M4 => rV (v_si M4 x0 0 ((M4.1 x0 0) + 1))
set_option maxRecDepth 20000 in
set_option maxHeartbeats 2000000 in
theorem cX1_enter_ok {l : Launch} {D : va_G} {dA : Nat → ClassId} (M : vM) (x0 : Nat) (x1 : Int32) (x2 : Int32) (f0 : v_isG x0) (hI : v_WT M.2.2) : Ct l D dA sX1_enter false 175 2 0 0 175 [.ref x0, .int x1, .int x2] M (fX1_enter M x0 x1 x2) := by
  refine Ct_of (lv := [(0, .ref x0), (1, .int x1), (2, .int x2)]) (by decide +kernel) rfl (Nat.le_of_ble_eq_true rfl) rfl (fun h => by cases h) ?_
  refine V_aload_n (k := 0) dX1_enter_0 rfl rfl ?_
  refine V_getr (k := x0 + 1) dX1_enter_1 (v_LG f0).2.1 (v_LG f0).1 vf_X1_9 (by decide) (v_finG hI f0).1 ?_
  refine V_aload_n (k := 0) dX1_enter_4 rfl rfl ?_
  refine V_geti dX1_enter_5 (v_LG f0).2.1 (v_LG f0).1 vf_X1_42 (by decide) ?_
  refine V_iload_n (k := 1) dX1_enter_8 rfl rfl ?_
  refine V_callSv (st0 := []) (kc' := 0) (ks' := 0) dX1_enter_9 lk_X1_56 rfl (cX10_put_ok M (x0 + 1) (M.1 x0 0) x1 (v_isA_of (v_LG f0).2.2.2.1 (v_LG f0).2.2.1.1) hI) rfl rfl (by decide) (by decide) (Nat.le_of_ble_eq_true rfl) (Or.inl rfl) rfl rfl (by decide) (by decide) (fun  M1 e2 hI3 => ?_)
  refine V_aload_n (k := 0) dX1_enter_12 rfl rfl ?_
  refine V_getr (k := x0 + 2) dX1_enter_13 (v_LG f0).2.1 (v_LG f0).1 vf_X1_15 (by decide) (v_finG hI3 f0).2.1 ?_
  refine V_aload_n (k := 0) dX1_enter_16 rfl rfl ?_
  refine V_geti dX1_enter_17 (v_LG f0).2.1 (v_LG f0).1 vf_X1_42 (by decide) ?_
  refine V_iload_n (k := 2) dX1_enter_20 rfl rfl ?_
  refine V_callSv (st0 := []) (kc' := 0) (ks' := 0) dX1_enter_21 lk_X1_56 rfl (cX10_put_ok M1 (x0 + 2) (M1.1 x0 0) x2 (v_isA_of (v_LG f0).2.2.2.2.1 (v_LG f0).2.2.1.2.1) hI3) rfl rfl (by decide) (by decide) (Nat.le_of_ble_eq_true rfl) (Or.inl rfl) rfl rfl (by decide) (by decide) (fun  M4 e5 hI6 => ?_)
  refine V_aload_n (k := 0) dX1_enter_24 rfl rfl ?_
  refine V_dup dX1_enter_25 rfl ?_
  refine V_geti dX1_enter_26 (v_LG f0).2.1 (v_LG f0).1 vf_X1_42 (by decide) ?_
  refine V_iconst (v := 1) dX1_enter_29 rfl ?_
  refine V_iadd dX1_enter_30 ?_
  refine V_puti dX1_enter_31 (v_LG f0).2.1 (v_LG f0).1 vf_X1_42 (by decide) rfl rfl ?_
  exact V_ret (fun _ => hI6) (Or.inl ⟨rfl, rfl⟩) dX1_enter_34 (fun ty x h1 h2 => by cases h1) rfl
def fX9_spendLike (M : vM) (x0 : Nat) (x1 : Int32) : Option (vR × vM) := bi (fX9_setSame M x0 (x0 + 8) (M.1 (M.2.2 x0 0 - 1) 2) (M.1 (M.2.2 x0 0 - 1) 3) x1 0) fun y1 M2 => rV (v_si M2 x0 2 ((M.1 x0 2) - y1))
set_option maxRecDepth 20000 in
set_option maxHeartbeats 2000000 in
theorem cX9_spendLike_ok {l : Launch} {D : va_G} {dA : Nat → ClassId} (M : vM) (x0 : Nat) (x1 : Int32) (f0 : v_isW x0) (hI : v_WT M.2.2) : Ct l D dA sX9_spendLike false 175 4 0 0 175 [.ref x0, .int x1] M (fX9_spendLike M x0 x1) := by
  refine Ct_of (lv := [(0, .ref x0), (1, .int x1)]) (by decide +kernel) rfl (Nat.le_of_ble_eq_true rfl) rfl (fun h => by cases h) ?_
  refine V_aload_n (k := 0) dX9_spendLike_0 rfl rfl ?_
  refine V_dup dX9_spendLike_1 rfl ?_
  refine V_geti dX9_spendLike_2 (v_LW f0).2.1 (v_LW f0).1 vf_X9_121 (by decide) ?_
  refine V_aload_n (k := 0) dX9_spendLike_5 rfl rfl ?_
  refine V_aload_n (k := 0) dX9_spendLike_6 rfl rfl ?_
  refine V_getr (k := x0 + 8) dX9_spendLike_7 (v_LW f0).2.1 (v_LW f0).1 vf_X9_15 (by decide) (v_finW hI f0).2 ?_
  refine V_aload_n (k := 0) dX9_spendLike_10 rfl rfl ?_
  refine V_getr (k := M.2.2 x0 0 - 1) dX9_spendLike_11 (v_LW f0).2.1 (v_LW f0).1 vf_X9_19 (by decide) (v_pln hI f0) ?_
  refine V_geti dX9_spendLike_14 (v_LP (v_plnP hI f0)).2.1 (v_LP (v_plnP hI f0)).1 vf_X9_104 (by decide) ?_
  refine V_aload_n (k := 0) dX9_spendLike_17 rfl rfl ?_
  refine V_getr (k := M.2.2 x0 0 - 1) dX9_spendLike_18 (v_LW f0).2.1 (v_LW f0).1 vf_X9_19 (by decide) (v_pln hI f0) ?_
  refine V_geti dX9_spendLike_21 (v_LP (v_plnP hI f0)).2.1 (v_LP (v_plnP hI f0)).1 vf_X9_115 (by decide) ?_
  refine V_iload_n (k := 1) dX9_spendLike_24 rfl rfl ?_
  refine V_iconst (v := 0) dX9_spendLike_25 rfl ?_
  refine V_callVi (q := (RX9, TX9, 6)) (cls := 9) (st0 := [.int (M.1 x0 2), .ref x0]) (kc' := 0) (ks' := 0) dX9_spendLike_26 lk_X9_124 rfl (v_LW f0).1 (v_LW f0).2.1 rfl rfl (cX9_setSame_ok M x0 (x0 + 8) (M.1 (M.2.2 x0 0 - 1) 2) (M.1 (M.2.2 x0 0 - 1) 3) x1 0 f0 (v_isA_of (v_LW f0).2.2.2.2.2 (v_LW f0).2.2.2.1) hI) rfl rfl (by decide) (by decide) (Nat.le_of_ble_eq_true rfl) (Or.inl rfl) rfl rfl (by decide) (by decide) (fun y1 M2 e3 hI4 => ?_)
  refine V_isub dX9_spendLike_29 ?_
  refine V_puti dX9_spendLike_30 (v_LW f0).2.1 (v_LW f0).1 vf_X9_121 (by decide) rfl rfl ?_
  exact V_ret (fun _ => hI4) (Or.inl ⟨rfl, rfl⟩) dX9_spendLike_33 (fun ty x h1 h2 => by cases h1) rfl
