def fX4_advance_176 (k109 : vM → Int32 → Option (vR × vM)) (M : vM) : Option (vR × vM) := bi (fX8_byteAt M (M.1 3 2)) fun y11 M12 => bi (fX4_kindOf M12 y11) fun y15 M16 => if y15 = (M16.1 3 3) then k109 M16 1 else k109 M16 0
set_option maxRecDepth 20000 in
set_option maxHeartbeats 2000000 in
theorem vX4_advance_176 {l : Launch} {D : va_G} {dA : Nat → ClassId} {k109 : vM → Int32 → Option (vR × vM)} (hk109 : ∀ (M : vM) (x1 : Int32), v_WT M.2.2 → V l D dA sX4_advance false 175 2 0 0 109 [(0, .ref 3), (1, .int x1)] [] 175 M (k109 M x1)) : ∀ (M : vM), v_WT M.2.2 → V l D dA sX4_advance false 175 2 0 0 176 [(0, .ref 3)] [] 175 M (fX4_advance_176 k109 M) := by
  intro M hI
  refine V_aload_n (k := 0) dX4_advance_176 rfl rfl ?_
  refine V_getr (k := 1) dX4_advance_177 rfl (by decide) vf_X4_9 (by decide) (v_fin hI 13 rfl) ?_
  refine V_aload_n (k := 0) dX4_advance_180 rfl rfl ?_
  refine V_geti dX4_advance_181 rfl (by decide) vf_X4_19 (by decide) ?_
  refine V_callVi (q := (RX8, TX8, 2)) (cls := 8) (st0 := []) (kc' := 0) (ks' := 0) dX4_advance_184 lk_X4_159 rfl (by decide) rfl rfl rfl (cX8_byteAt_ok M (M.1 3 2) hI) rfl rfl (by decide) (by decide) (Nat.le_of_ble_eq_true rfl) (Or.inl rfl) rfl rfl (by decide) (by decide) (fun y11 M12 e13 hI14 => ?_)
  refine V_callSi (st0 := []) (kc' := 0) (ks' := 0) dX4_advance_187 lk_X4_172 rfl (cX4_kindOf_ok M12 y11 hI14) rfl rfl (by decide) (by decide) (Nat.le_of_ble_eq_true rfl) (Or.inl rfl) rfl rfl (by decide) (by decide) (fun y15 M16 e17 hI18 => ?_)
  refine V_aload_n (k := 0) dX4_advance_190 rfl rfl ?_
  refine V_geti dX4_advance_191 rfl (by decide) vf_X4_31 (by decide) ?_
  refine V_icmpne (tgt := 201) dX4_advance_194 (by decide) (fun h19 => ?_) (fun h19 => ?_)
  · refine V_iconst (v := 0) dX4_advance_201 rfl ?_
    refine V_istore_n (lv' := [(1, .int 0), (0, .ref 3)]) dX4_advance_202 rfl (by decide) rfl ?_
    refine V_goto (tgt := 109) dX4_advance_203 (by decide) ?_
    refine V_sub [1, 0] rfl ?_
    exact hk109 M16 0 hI18
  · refine V_iconst (v := 1) dX4_advance_197 rfl ?_
    refine V_goto (tgt := 202) dX4_advance_198 (by decide) ?_
    refine V_istore_n (lv' := [(1, .int 1), (0, .ref 3)]) dX4_advance_202 rfl (by decide) rfl ?_
    refine V_goto (tgt := 109) dX4_advance_203 (by decide) ?_
    refine V_sub [1, 0] rfl ?_
    exact hk109 M16 1 hI18
def fX4_advance_150 (k109 : vM → Int32 → Option (vR × vM)) (M : vM) : Option (vR × vM) := if ((v_si M 3 2 ((M.1 3 2) + 1)).1 3 3) = 1 then fX4_advance_176 (k109) (v_si M 3 2 ((M.1 3 2) + 1)) else if ((v_si M 3 2 ((M.1 3 2) + 1)).1 3 3) = 2 then fX4_advance_176 (k109) (v_si M 3 2 ((M.1 3 2) + 1)) else k109 (v_si M 3 2 ((M.1 3 2) + 1)) 0
set_option maxRecDepth 20000 in
set_option maxHeartbeats 2000000 in
theorem vX4_advance_150 {l : Launch} {D : va_G} {dA : Nat → ClassId} {k109 : vM → Int32 → Option (vR × vM)} (hk109 : ∀ (M : vM) (x1 : Int32), v_WT M.2.2 → V l D dA sX4_advance false 175 2 0 0 109 [(0, .ref 3), (1, .int x1)] [] 175 M (k109 M x1)) : ∀ (M : vM), v_WT M.2.2 → V l D dA sX4_advance false 175 2 0 0 150 [(0, .ref 3)] [] 175 M (fX4_advance_150 k109 M) := by
  intro M hI
  refine V_aload_n (k := 0) dX4_advance_150 rfl rfl ?_
  refine V_dup dX4_advance_151 rfl ?_
  refine V_geti dX4_advance_152 rfl (by decide) vf_X4_19 (by decide) ?_
  refine V_iconst (v := 1) dX4_advance_155 rfl ?_
  refine V_iadd dX4_advance_156 ?_
  refine V_puti dX4_advance_157 rfl (by decide) vf_X4_19 (by decide) rfl rfl ?_
  refine V_aload_n (k := 0) dX4_advance_160 rfl rfl ?_
  refine V_geti dX4_advance_161 rfl (by decide) vf_X4_31 (by decide) ?_
  refine V_iconst (v := 1) dX4_advance_164 rfl ?_
  refine V_icmpeq (tgt := 176) dX4_advance_165 (by decide) (fun h20 => ?_) (fun h20 => ?_)
  · refine V_sub [0] rfl ?_
    exact vX4_advance_176 (hk109) (v_si M 3 2 ((M.1 3 2) + 1)) hI
  · refine V_aload_n (k := 0) dX4_advance_168 rfl rfl ?_
    refine V_geti dX4_advance_169 rfl (by decide) vf_X4_31 (by decide) ?_
    refine V_iconst (v := 2) dX4_advance_172 rfl ?_
    refine V_icmpne (tgt := 201) dX4_advance_173 (by decide) (fun h21 => ?_) (fun h21 => ?_)
    · refine V_iconst (v := 0) dX4_advance_201 rfl ?_
      refine V_istore_n (lv' := [(1, .int 0), (0, .ref 3)]) dX4_advance_202 rfl (by decide) rfl ?_
      refine V_goto (tgt := 109) dX4_advance_203 (by decide) ?_
      refine V_sub [1, 0] rfl ?_
      exact hk109 (v_si M 3 2 ((M.1 3 2) + 1)) 0 hI
    · refine V_sub [0] rfl ?_
      exact vX4_advance_176 (hk109) (v_si M 3 2 ((M.1 3 2) + 1)) hI
def fX4_advance_109 : Nat → vM → Int32 → Option (vR × vM)
  | 0, _, _ => none
  | n9 + 1, M, x1 => if (M.1 3 1) ≤ (M.1 3 2) then rV M else if x1 = 0 then rV M else if (M.1 3 3) = 2 then bi (fX8_byteAt M (M.1 3 2)) fun y25 M26 => bv (fX4_addDigit M26 (y25 - 48)) fun M29 => fX4_advance_150 (fX4_advance_109 n9) M29 else fX4_advance_150 (fX4_advance_109 n9) M
set_option maxRecDepth 20000 in
set_option maxHeartbeats 2000000 in
theorem vX4_advance_109 {l : Launch} {D : va_G} {dA : Nat → ClassId} : ∀ (n9 : Nat) (M : vM) (x1 : Int32), v_WT M.2.2 → V l D dA sX4_advance false 175 2 0 0 109 [(0, .ref 3), (1, .int x1)] [] 175 M (fX4_advance_109 n9 M x1) := by
  intro n9
  induction n9 with
  | zero => intros; exact V_none
  | succ n9 ih =>
    intro M x1 hI
    refine V_aload_n (k := 0) dX4_advance_109 rfl rfl ?_
    refine V_geti dX4_advance_110 rfl (by decide) vf_X4_19 (by decide) ?_
    refine V_aload_n (k := 0) dX4_advance_113 rfl rfl ?_
    refine V_geti dX4_advance_114 rfl (by decide) vf_X4_15 (by decide) ?_
    refine V_icmpge (tgt := 206) dX4_advance_117 (by decide) (fun h22 => ?_) (fun h22 => ?_)
    · exact V_ret (fun _ => hI) (Or.inl ⟨rfl, rfl⟩) dX4_advance_206 (fun ty x h1 h2 => by cases h1) rfl
    · refine V_iload_n (k := 1) dX4_advance_120 rfl rfl ?_
      refine V_ifeq (tgt := 206) dX4_advance_121 (by decide) (fun h23 => ?_) (fun h23 => ?_)
      · exact V_ret (fun _ => hI) (Or.inl ⟨rfl, rfl⟩) dX4_advance_206 (fun ty x h1 h2 => by cases h1) rfl
      · refine V_aload_n (k := 0) dX4_advance_124 rfl rfl ?_
        refine V_geti dX4_advance_125 rfl (by decide) vf_X4_31 (by decide) ?_
        refine V_iconst (v := 2) dX4_advance_128 rfl ?_
        refine V_icmpne (tgt := 150) dX4_advance_129 (by decide) (fun h24 => ?_) (fun h24 => ?_)
        · refine V_sub [0] rfl ?_
          exact vX4_advance_150 (ih) M hI
        · refine V_aload_n (k := 0) dX4_advance_132 rfl rfl ?_
          refine V_aload_n (k := 0) dX4_advance_133 rfl rfl ?_
          refine V_getr (k := 1) dX4_advance_134 rfl (by decide) vf_X4_9 (by decide) (v_fin hI 13 rfl) ?_
          refine V_aload_n (k := 0) dX4_advance_137 rfl rfl ?_
          refine V_geti dX4_advance_138 rfl (by decide) vf_X4_19 (by decide) ?_
          refine V_callVi (q := (RX8, TX8, 2)) (cls := 8) (st0 := [.ref 3]) (kc' := 0) (ks' := 0) dX4_advance_141 lk_X4_159 rfl (by decide) rfl rfl rfl (cX8_byteAt_ok M (M.1 3 2) hI) rfl rfl (by decide) (by decide) (Nat.le_of_ble_eq_true rfl) (Or.inl rfl) rfl rfl (by decide) (by decide) (fun y25 M26 e27 hI28 => ?_)
          refine V_bipush (v := 48) dX4_advance_144 rfl ?_
          refine V_isub dX4_advance_146 ?_
          refine V_callVv (q := (RX4, TX4, 9)) (cls := 4) (st0 := []) (kc' := 0) (ks' := 0) dX4_advance_147 lk_X4_175 rfl (by decide) rfl rfl rfl (cX4_addDigit_ok M26 (y25 - 48) hI28) rfl rfl (by decide) (by decide) (Nat.le_of_ble_eq_true rfl) (Or.inl rfl) rfl rfl (by decide) (by decide) (fun  M29 e30 hI31 => ?_)
          refine V_sub [0] rfl ?_
          exact vX4_advance_150 (ih) M29 hI31
def fX4_advance_89 (M : vM) (s1 : Int32) : Option (vR × vM) := if ((v_si M 3 3 s1).1 3 1) ≤ ((v_si M 3 3 s1).1 3 2) then fX4_advance_109 FU (v_si M 3 3 s1) 0 else fX4_advance_109 FU (v_si M 3 3 s1) 1
set_option maxRecDepth 20000 in
set_option maxHeartbeats 2000000 in
theorem vX4_advance_89 {l : Launch} {D : va_G} {dA : Nat → ClassId} : ∀ (M : vM) (s1 : Int32), v_WT M.2.2 → V l D dA sX4_advance false 175 2 0 0 89 [(0, .ref 3)] [.int s1, .ref 3] 175 M (fX4_advance_89 M s1) := by
  intro M s1 hI
  refine V_puti dX4_advance_89 rfl (by decide) vf_X4_31 (by decide) rfl rfl ?_
  refine V_aload_n (k := 0) dX4_advance_92 rfl rfl ?_
  refine V_geti dX4_advance_93 rfl (by decide) vf_X4_19 (by decide) ?_
  refine V_aload_n (k := 0) dX4_advance_96 rfl rfl ?_
  refine V_geti dX4_advance_97 rfl (by decide) vf_X4_15 (by decide) ?_
  refine V_icmpge (tgt := 107) dX4_advance_100 (by decide) (fun h32 => ?_) (fun h32 => ?_)
  · refine V_iconst (v := 0) dX4_advance_107 rfl ?_
    refine V_istore_n (lv' := [(1, .int 0), (0, .ref 3)]) dX4_advance_108 rfl (by decide) rfl ?_
    refine V_sub [1, 0] rfl ?_
    exact vX4_advance_109 FU (v_si M 3 3 s1) 0 hI
  · refine V_iconst (v := 1) dX4_advance_103 rfl ?_
    refine V_goto (tgt := 108) dX4_advance_104 (by decide) ?_
    refine V_istore_n (lv' := [(1, .int 1), (0, .ref 3)]) dX4_advance_108 rfl (by decide) rfl ?_
    refine V_sub [1, 0] rfl ?_
    exact vX4_advance_109 FU (v_si M 3 3 s1) 1 hI
def fX4_advance_41 (M : vM) : Option (vR × vM) := if ((v_si (v_si (v_si M 3 4 (M.1 3 2)) 3 5 0) 3 6 0).1 3 1) ≤ ((v_si (v_si (v_si M 3 4 (M.1 3 2)) 3 5 0) 3 6 0).1 3 2) then fX4_advance_89 (v_si (v_si (v_si M 3 4 (M.1 3 2)) 3 5 0) 3 6 0) 0 else bi (fX8_byteAt (v_si (v_si (v_si M 3 4 (M.1 3 2)) 3 5 0) 3 6 0) ((v_si (v_si (v_si M 3 4 (M.1 3 2)) 3 5 0) 3 6 0).1 3 2)) fun y34 M35 => bi (fX4_kindOf M35 y34) fun y38 M39 => fX4_advance_89 M39 y38
set_option maxRecDepth 20000 in
set_option maxHeartbeats 2000000 in
theorem vX4_advance_41 {l : Launch} {D : va_G} {dA : Nat → ClassId} : ∀ (M : vM), v_WT M.2.2 → V l D dA sX4_advance false 175 2 0 0 41 [(0, .ref 3)] [] 175 M (fX4_advance_41 M) := by
  intro M hI
  refine V_aload_n (k := 0) dX4_advance_41 rfl rfl ?_
  refine V_aload_n (k := 0) dX4_advance_42 rfl rfl ?_
  refine V_geti dX4_advance_43 rfl (by decide) vf_X4_19 (by decide) ?_
  refine V_puti dX4_advance_46 rfl (by decide) vf_X4_152 (by decide) rfl rfl ?_
  refine V_aload_n (k := 0) dX4_advance_49 rfl rfl ?_
  refine V_iconst (v := 0) dX4_advance_50 rfl ?_
  refine V_puti dX4_advance_51 rfl (by decide) vf_X4_146 (by decide) rfl rfl ?_
  refine V_aload_n (k := 0) dX4_advance_54 rfl rfl ?_
  refine V_iconst (v := 0) dX4_advance_55 rfl ?_
  refine V_puti dX4_advance_56 rfl (by decide) vf_X4_149 (by decide) rfl rfl ?_
  refine V_aload_n (k := 0) dX4_advance_59 rfl rfl ?_
  refine V_aload_n (k := 0) dX4_advance_60 rfl rfl ?_
  refine V_geti dX4_advance_61 rfl (by decide) vf_X4_19 (by decide) ?_
  refine V_aload_n (k := 0) dX4_advance_64 rfl rfl ?_
  refine V_geti dX4_advance_65 rfl (by decide) vf_X4_15 (by decide) ?_
  refine V_icmpge (tgt := 88) dX4_advance_68 (by decide) (fun h33 => ?_) (fun h33 => ?_)
  · refine V_iconst (v := 0) dX4_advance_88 rfl ?_
    refine V_sub [0] rfl ?_
    exact vX4_advance_89 (v_si (v_si (v_si M 3 4 (M.1 3 2)) 3 5 0) 3 6 0) 0 hI
  · refine V_aload_n (k := 0) dX4_advance_71 rfl rfl ?_
    refine V_getr (k := 1) dX4_advance_72 rfl (by decide) vf_X4_9 (by decide) (v_fin hI 13 rfl) ?_
    refine V_aload_n (k := 0) dX4_advance_75 rfl rfl ?_
    refine V_geti dX4_advance_76 rfl (by decide) vf_X4_19 (by decide) ?_
    refine V_callVi (q := (RX8, TX8, 2)) (cls := 8) (st0 := [.ref 3]) (kc' := 0) (ks' := 0) dX4_advance_79 lk_X4_159 rfl (by decide) rfl rfl rfl (cX8_byteAt_ok (v_si (v_si (v_si M 3 4 (M.1 3 2)) 3 5 0) 3 6 0) ((v_si (v_si (v_si M 3 4 (M.1 3 2)) 3 5 0) 3 6 0).1 3 2) hI) rfl rfl (by decide) (by decide) (Nat.le_of_ble_eq_true rfl) (Or.inl rfl) rfl rfl (by decide) (by decide) (fun y34 M35 e36 hI37 => ?_)
    refine V_callSi (st0 := [.ref 3]) (kc' := 0) (ks' := 0) dX4_advance_82 lk_X4_172 rfl (cX4_kindOf_ok M35 y34 hI37) rfl rfl (by decide) (by decide) (Nat.le_of_ble_eq_true rfl) (Or.inl rfl) rfl rfl (by decide) (by decide) (fun y38 M39 e40 hI41 => ?_)
    refine V_goto (tgt := 89) dX4_advance_85 (by decide) ?_
    refine V_sub [0] rfl ?_
    exact vX4_advance_89 M39 y38 hI41
def fX4_advance_0 : Nat → vM → Option (vR × vM)
  | 0, _ => none
  | n9 + 1, M => if (M.1 3 1) ≤ (M.1 3 2) then fX4_advance_41 M else bi (fX8_byteAt M (M.1 3 2)) fun y43 M44 => bi (fX4_isBlank M44 y43) fun y47 M48 => if y47 = 0 then fX4_advance_41 M48 else fX4_advance_0 n9 (v_si M48 3 2 ((M48.1 3 2) + 1))
set_option maxRecDepth 20000 in
set_option maxHeartbeats 2000000 in
theorem vX4_advance_0 {l : Launch} {D : va_G} {dA : Nat → ClassId} : ∀ (n9 : Nat) (M : vM), v_WT M.2.2 → V l D dA sX4_advance false 175 2 0 0 0 [(0, .ref 3)] [] 175 M (fX4_advance_0 n9 M) := by
  intro n9
  induction n9 with
  | zero => intros; exact V_none
  | succ n9 ih =>
    intro M hI
    refine V_aload_n (k := 0) dX4_advance_0 rfl rfl ?_
    refine V_geti dX4_advance_1 rfl (by decide) vf_X4_19 (by decide) ?_
    refine V_aload_n (k := 0) dX4_advance_4 rfl rfl ?_
    refine V_geti dX4_advance_5 rfl (by decide) vf_X4_15 (by decide) ?_
    refine V_icmpge (tgt := 41) dX4_advance_8 (by decide) (fun h42 => ?_) (fun h42 => ?_)
    · refine V_sub [0] rfl ?_
      exact vX4_advance_41 M hI
    · refine V_aload_n (k := 0) dX4_advance_11 rfl rfl ?_
      refine V_getr (k := 1) dX4_advance_12 rfl (by decide) vf_X4_9 (by decide) (v_fin hI 13 rfl) ?_
      refine V_aload_n (k := 0) dX4_advance_15 rfl rfl ?_
      refine V_geti dX4_advance_16 rfl (by decide) vf_X4_19 (by decide) ?_
      refine V_callVi (q := (RX8, TX8, 2)) (cls := 8) (st0 := []) (kc' := 0) (ks' := 0) dX4_advance_19 lk_X4_159 rfl (by decide) rfl rfl rfl (cX8_byteAt_ok M (M.1 3 2) hI) rfl rfl (by decide) (by decide) (Nat.le_of_ble_eq_true rfl) (Or.inl rfl) rfl rfl (by decide) (by decide) (fun y43 M44 e45 hI46 => ?_)
      refine V_callSi (st0 := []) (kc' := 0) (ks' := 0) dX4_advance_22 lk_X4_169 rfl (cX4_isBlank_ok M44 y43 hI46) rfl rfl (by decide) (by decide) (Nat.le_of_ble_eq_true rfl) (Or.inl rfl) rfl rfl (by decide) (by decide) (fun y47 M48 e49 hI50 => ?_)
      refine V_ifeq (tgt := 41) dX4_advance_25 (by decide) (fun h51 => ?_) (fun h51 => ?_)
      · refine V_sub [0] rfl ?_
        exact vX4_advance_41 M48 hI50
      · refine V_aload_n (k := 0) dX4_advance_28 rfl rfl ?_
        refine V_dup dX4_advance_29 rfl ?_
        refine V_geti dX4_advance_30 rfl (by decide) vf_X4_19 (by decide) ?_
        refine V_iconst (v := 1) dX4_advance_33 rfl ?_
        refine V_iadd dX4_advance_34 ?_
        refine V_puti dX4_advance_35 rfl (by decide) vf_X4_19 (by decide) rfl rfl ?_
        refine V_goto (tgt := 0) dX4_advance_38 (by decide) ?_
        refine V_sub [0] rfl ?_
        exact ih (v_si M48 3 2 ((M48.1 3 2) + 1)) hI50
def fX4_advance (M : vM) : Option (vR × vM) := fX4_advance_0 FU M
set_option maxRecDepth 20000 in
set_option maxHeartbeats 2000000 in
theorem cX4_advance_ok {l : Launch} {D : va_G} {dA : Nat → ClassId} (M : vM) (hI : v_WT M.2.2) : Ct l D dA sX4_advance false 175 2 0 0 175 [.ref 3] M (fX4_advance M) := by
  refine Ct_of (lv := [(0, .ref 3)]) (by decide +kernel) rfl (Nat.le_of_ble_eq_true rfl) rfl (fun h => by cases h) ?_
  refine V_sub [0] rfl ?_
  exact vX4_advance_0 FU M hI
def fX4_fail (M : vM) (x1 : Int32) : Option (vR × vM) := rI 0 (v_si M 3 7 x1)
set_option maxRecDepth 20000 in
set_option maxHeartbeats 2000000 in
theorem cX4_fail_ok {l : Launch} {D : va_G} {dA : Nat → ClassId} (M : vM) (x1 : Int32) (hI : v_WT M.2.2) : Ct l D dA sX4_fail false 175 1 0 0 175 [.ref 3, .int x1] M (fX4_fail M x1) := by
  refine Ct_of (lv := [(0, .ref 3), (1, .int x1)]) (by decide +kernel) rfl (Nat.le_of_ble_eq_true rfl) rfl (fun h => by cases h) ?_
  refine V_aload_n (k := 0) dX4_fail_0 rfl rfl ?_
  refine V_iload_n (k := 1) dX4_fail_1 rfl rfl ?_
  refine V_puti dX4_fail_2 rfl (by decide) vf_X4_22 (by decide) rfl rfl ?_
  refine V_iconst (v := 0) dX4_fail_5 rfl ?_
  exact V_ret (fun _ => hI) (Or.inr (Or.inr (Or.inl ⟨rfl, _, rfl⟩))) dX4_fail_6 (fun ty x h1 h2 => by cases h1; cases h2; rfl) rfl
def fX3_begin (M : vM) (x0 : Nat) (x1 : Int32) : Option (vR × vM) := bv (fJ7_fill_53178 (v_si (v_si (v_si (v_si (v_si (v_si (v_si M x0 0 x1) x0 1 0) x0 2 0) x0 3 0) x0 4 0) x0 5 0) x0 6 0) (x0 + 4) 0) fun M1 => bv (fJ7_fill_53178 M1 (x0 + 5) 0) fun M4 => rV M4
set_option maxRecDepth 20000 in
set_option maxHeartbeats 2000000 in
theorem cX3_begin_ok {l : Launch} {D : va_G} {dA : Nat → ClassId} (M : vM) (x0 : Nat) (x1 : Int32) (f0 : v_isP x0) (hI : v_WT M.2.2) : Ct l D dA sX3_begin false 175 2 0 0 175 [.ref x0, .int x1] M (fX3_begin M x0 x1) := by
  refine Ct_of (lv := [(0, .ref x0), (1, .int x1)]) (by decide +kernel) rfl (Nat.le_of_ble_eq_true rfl) rfl (fun h => by cases h) ?_
  refine V_aload_n (k := 0) dX3_begin_0 rfl rfl ?_
  refine V_iload_n (k := 1) dX3_begin_1 rfl rfl ?_
  refine V_puti dX3_begin_2 (v_LP f0).2.1 (v_LP f0).1 vf_X3_27 (by decide) rfl rfl ?_
  refine V_aload_n (k := 0) dX3_begin_5 rfl rfl ?_
  refine V_iconst (v := 0) dX3_begin_6 rfl ?_
  refine V_puti dX3_begin_7 (v_LP f0).2.1 (v_LP f0).1 vf_X3_31 (by decide) rfl rfl ?_
  refine V_aload_n (k := 0) dX3_begin_10 rfl rfl ?_
  refine V_iconst (v := 0) dX3_begin_11 rfl ?_
  refine V_puti dX3_begin_12 (v_LP f0).2.1 (v_LP f0).1 vf_X3_34 (by decide) rfl rfl ?_
  refine V_aload_n (k := 0) dX3_begin_15 rfl rfl ?_
  refine V_iconst (v := 0) dX3_begin_16 rfl ?_
  refine V_puti dX3_begin_17 (v_LP f0).2.1 (v_LP f0).1 vf_X3_37 (by decide) rfl rfl ?_
  refine V_aload_n (k := 0) dX3_begin_20 rfl rfl ?_
  refine V_iconst (v := 0) dX3_begin_21 rfl ?_
  refine V_puti dX3_begin_22 (v_LP f0).2.1 (v_LP f0).1 vf_X3_40 (by decide) rfl rfl ?_
  refine V_aload_n (k := 0) dX3_begin_25 rfl rfl ?_
  refine V_iconst (v := 0) dX3_begin_26 rfl ?_
  refine V_puti dX3_begin_27 (v_LP f0).2.1 (v_LP f0).1 vf_X3_43 (by decide) rfl rfl ?_
  refine V_aload_n (k := 0) dX3_begin_30 rfl rfl ?_
  refine V_iconst (v := 0) dX3_begin_31 rfl ?_
  refine V_puti dX3_begin_32 (v_LP f0).2.1 (v_LP f0).1 vf_X3_46 (by decide) rfl rfl ?_
  refine V_aload_n (k := 0) dX3_begin_35 rfl rfl ?_
  refine V_getr (k := x0 + 4) dX3_begin_36 (v_LP f0).2.1 (v_LP f0).1 vf_X3_21 (by decide) (v_finP hI f0).2.2.2.1 ?_
  refine V_iconst (v := 0) dX3_begin_39 rfl ?_
  refine V_callSv (st0 := []) (kc' := 0) (ks' := 0) dX3_begin_40 lk_X3_49 rfl (cJ7_fill_53178_ok (v_si (v_si (v_si (v_si (v_si (v_si (v_si M x0 0 x1) x0 1 0) x0 2 0) x0 3 0) x0 4 0) x0 5 0) x0 6 0) (x0 + 4) 0 (v_isA_of (v_LP f0).2.2.2.2.2.2.1 (v_LP f0).2.2.1.2.2.2.1) hI) rfl rfl (by decide) (by decide) (Nat.le_of_ble_eq_true rfl) (Or.inl rfl) rfl rfl (by decide) (by decide) (fun  M1 e2 hI3 => ?_)
  refine V_aload_n (k := 0) dX3_begin_43 rfl rfl ?_
  refine V_getr (k := x0 + 5) dX3_begin_44 (v_LP f0).2.1 (v_LP f0).1 vf_X3_24 (by decide) (v_finP hI3 f0).2.2.2.2 ?_
  refine V_iconst (v := 0) dX3_begin_47 rfl ?_
  refine V_callSv (st0 := []) (kc' := 0) (ks' := 0) dX3_begin_48 lk_X3_49 rfl (cJ7_fill_53178_ok M1 (x0 + 5) 0 (v_isA_of (v_LP f0).2.2.2.2.2.2.2 (v_LP f0).2.2.1.2.2.2.2) hI3) rfl rfl (by decide) (by decide) (Nat.le_of_ble_eq_true rfl) (Or.inl rfl) rfl rfl (by decide) (by decide) (fun  M4 e5 hI6 => ?_)
  exact V_ret (fun _ => hI6) (Or.inl ⟨rfl, rfl⟩) dX3_begin_51 (fun ty x h1 h2 => by cases h1) rfl
def fX4_readNumber_41 (k47 : vM → Option (vR × vM)) (M : vM) : Option (vR × vM) := bi (fX4_fail M 2) fun y6 M7 => k47 M7
set_option maxRecDepth 20000 in
set_option maxHeartbeats 2000000 in
theorem vX4_readNumber_41 {l : Launch} {D : va_G} {dA : Nat → ClassId} {k47 : vM → Option (vR × vM)} (hk47 : ∀ (M : vM), v_WT M.2.2 → V l D dA sX4_readNumber false 175 3 0 0 47 [(0, .ref 3)] [] 175 M (k47 M)) : ∀ (M : vM), v_WT M.2.2 → V l D dA sX4_readNumber false 175 3 0 0 41 [(0, .ref 3)] [] 175 M (fX4_readNumber_41 k47 M) := by
  intro M hI
  refine V_aload_n (k := 0) dX4_readNumber_41 rfl rfl ?_
  refine V_iconst (v := 2) dX4_readNumber_42 rfl ?_
  refine V_callVi (q := (RX4, TX4, 9)) (cls := 4) (st0 := []) (kc' := 0) (ks' := 0) dX4_readNumber_43 lk_X4_52 rfl (by decide) rfl rfl rfl (cX4_fail_ok M 2 hI) rfl rfl (by decide) (by decide) (Nat.le_of_ble_eq_true rfl) (Or.inl rfl) rfl rfl (by decide) (by decide) (fun y6 M7 e8 hI9 => ?_)
  refine V_pop dX4_readNumber_46 rfl ?_
  refine V_sub [0] rfl ?_
  exact hk47 M7 hI9
def fX4_readNumber_47 (M : vM) : Option (vR × vM) := if (M.1 3 7) = 0 then bv (fX4_advance M ) fun M11 => rI (M.1 3 6) M11 else rI (M.1 3 6) M
set_option maxRecDepth 20000 in
set_option maxHeartbeats 2000000 in
theorem vX4_readNumber_47 {l : Launch} {D : va_G} {dA : Nat → ClassId} : ∀ (M : vM), v_WT M.2.2 → V l D dA sX4_readNumber false 175 3 0 0 47 [(0, .ref 3)] [] 175 M (fX4_readNumber_47 M) := by
  intro M hI
  refine V_aload_n (k := 0) dX4_readNumber_47 rfl rfl ?_
  refine V_geti dX4_readNumber_48 rfl (by decide) vf_X4_149 (by decide) ?_
  refine V_istore_n (lv' := [(3, .int (M.1 3 6)), (0, .ref 3)]) dX4_readNumber_51 rfl (by decide) rfl ?_
  refine V_aload_n (k := 1) dX4_readNumber_52 rfl rfl ?_
  refine V_geti dX4_readNumber_53 rfl (by decide) vf_X4_22 (by decide) ?_
  refine V_ifne (tgt := 63) dX4_readNumber_56 (by decide) (fun h10 => ?_) (fun h10 => ?_)
  · refine V_iload_n (k := 0) dX4_readNumber_63 rfl rfl ?_
    exact V_ret (fun _ => hI) (Or.inr (Or.inl ⟨rfl, _, rfl⟩)) dX4_readNumber_64 (fun ty x h1 h2 => by cases h1; rfl) rfl
  · refine V_aload_n (k := 1) dX4_readNumber_59 rfl rfl ?_
    refine V_callVv (q := (RX4, TX4, 9)) (cls := 4) (st0 := []) (kc' := 0) (ks' := 0) dX4_readNumber_60 lk_X4_28 rfl (by decide) rfl rfl rfl (cX4_advance_ok M  hI) rfl rfl (by decide) (by decide) (Nat.le_of_ble_eq_true rfl) (Or.inl rfl) rfl rfl (by decide) (by decide) (fun  M11 e12 hI13 => ?_)
    refine V_iload_n (k := 0) dX4_readNumber_63 rfl rfl ?_
    exact V_ret (fun _ => hI13) (Or.inr (Or.inl ⟨rfl, _, rfl⟩)) dX4_readNumber_64 (fun ty x h1 h2 => by cases h1; rfl) rfl
def fX4_readNumber (M : vM) (x1 : Int32) (x2 : Int32) : Option (vR × vM) := if (M.1 3 3) = 2 then if 4 < (M.1 3 5) then fX4_readNumber_41 (fX4_readNumber_47) M else if (M.1 3 6) < x1 then fX4_readNumber_41 (fX4_readNumber_47) M else if (M.1 3 6) ≤ x2 then fX4_readNumber_47 M else fX4_readNumber_41 (fX4_readNumber_47) M else bi (fX4_fail M 1) fun y18 M19 => fX4_readNumber_47 M19
set_option maxRecDepth 20000 in
set_option maxHeartbeats 2000000 in
theorem cX4_readNumber_ok {l : Launch} {D : va_G} {dA : Nat → ClassId} (M : vM) (x1 : Int32) (x2 : Int32) (hI : v_WT M.2.2) : Ct l D dA sX4_readNumber false 175 3 0 0 175 [.ref 3, .int x1, .int x2] M (fX4_readNumber M x1 x2) := by
  refine Ct_of (lv := [(0, .ref 3), (1, .int x1), (2, .int x2)]) (by decide +kernel) rfl (Nat.le_of_ble_eq_true rfl) rfl (fun h => by cases h) ?_
  refine V_aload_n (k := 0) dX4_readNumber_0 rfl rfl ?_
  refine V_geti dX4_readNumber_1 rfl (by decide) vf_X4_31 (by decide) ?_
  refine V_iconst (v := 2) dX4_readNumber_4 rfl ?_
  refine V_icmpeq (tgt := 17) dX4_readNumber_5 (by decide) (fun h14 => ?_) (fun h14 => ?_)
  · refine V_aload_n (k := 0) dX4_readNumber_17 rfl rfl ?_
    refine V_geti dX4_readNumber_18 rfl (by decide) vf_X4_146 (by decide) ?_
    refine V_iconst (v := 4) dX4_readNumber_21 rfl ?_
    refine V_icmpgt (tgt := 41) dX4_readNumber_22 (by decide) (fun h15 => ?_) (fun h15 => ?_)
    · refine V_sub [0] rfl ?_
      exact vX4_readNumber_41 (vX4_readNumber_47) M hI
    · refine V_aload_n (k := 0) dX4_readNumber_25 rfl rfl ?_
      refine V_geti dX4_readNumber_26 rfl (by decide) vf_X4_149 (by decide) ?_
      refine V_iload_n (k := 1) dX4_readNumber_29 rfl rfl ?_
      refine V_icmplt (tgt := 41) dX4_readNumber_30 (by decide) (fun h16 => ?_) (fun h16 => ?_)
      · refine V_sub [0] rfl ?_
        exact vX4_readNumber_41 (vX4_readNumber_47) M hI
      · refine V_aload_n (k := 0) dX4_readNumber_33 rfl rfl ?_
        refine V_geti dX4_readNumber_34 rfl (by decide) vf_X4_149 (by decide) ?_
        refine V_iload_n (k := 2) dX4_readNumber_37 rfl rfl ?_
        refine V_icmple (tgt := 47) dX4_readNumber_38 (by decide) (fun h17 => ?_) (fun h17 => ?_)
        · refine V_sub [0] rfl ?_
          exact vX4_readNumber_47 M hI
        · refine V_sub [0] rfl ?_
          exact vX4_readNumber_41 (vX4_readNumber_47) M hI
  · refine V_aload_n (k := 0) dX4_readNumber_8 rfl rfl ?_
    refine V_iconst (v := 1) dX4_readNumber_9 rfl ?_
    refine V_callVi (q := (RX4, TX4, 9)) (cls := 4) (st0 := []) (kc' := 0) (ks' := 0) dX4_readNumber_10 lk_X4_52 rfl (by decide) rfl rfl rfl (cX4_fail_ok M 1 hI) rfl rfl (by decide) (by decide) (Nat.le_of_ble_eq_true rfl) (Or.inl rfl) rfl rfl (by decide) (by decide) (fun y18 M19 e20 hI21 => ?_)
    refine V_pop dX4_readNumber_13 rfl ?_
    refine V_goto (tgt := 47) dX4_readNumber_14 (by decide) ?_
    refine V_sub [0] rfl ?_
    exact vX4_readNumber_47 M19 hI21
def fX4_readNumberOf_40 (M : vM) : Option (vR × vM) := if (M.1 3 7) = 0 then rI 1 M else rI 0 M
set_option maxRecDepth 20000 in
set_option maxHeartbeats 2000000 in
theorem vX4_readNumberOf_40 {l : Launch} {D : va_G} {dA : Nat → ClassId} : ∀ (M : vM), v_WT M.2.2 → V l D dA sX4_readNumberOf false 175 4 0 0 40 [(0, .ref 3)] [] 175 M (fX4_readNumberOf_40 M) := by
  intro M hI
  refine V_aload_n (k := 0) dX4_readNumberOf_40 rfl rfl ?_
  refine V_geti dX4_readNumberOf_41 rfl (by decide) vf_X4_22 (by decide) ?_
  refine V_ifne (tgt := 51) dX4_readNumberOf_44 (by decide) (fun h4 => ?_) (fun h4 => ?_)
  · refine V_iconst (v := 0) dX4_readNumberOf_51 rfl ?_
    exact V_ret (fun _ => hI) (Or.inr (Or.inr (Or.inl ⟨rfl, _, rfl⟩))) dX4_readNumberOf_52 (fun ty x h1 h2 => by cases h1; cases h2; rfl) rfl
  · refine V_iconst (v := 1) dX4_readNumberOf_47 rfl ?_
    refine V_goto (tgt := 52) dX4_readNumberOf_48 (by decide) ?_
    exact V_ret (fun _ => hI) (Or.inr (Or.inr (Or.inl ⟨rfl, _, rfl⟩))) dX4_readNumberOf_52 (fun ty x h1 h2 => by cases h1; cases h2; rfl) rfl
def fX4_readNumberOf (M : vM) (x1 : Nat) : Option (vR × vM) := if (M.1 x1 0) = 0 then bi (fX4_readNumber M 2 12) fun y11 M12 => fX4_readNumberOf_40 (v_si M12 x1 1 y11) else if (M.1 x1 0) = 1 then bi (fX4_readNumber M 0 12) fun y7 M8 => fX4_readNumberOf_40 (v_si M8 x1 1 y7) else fX4_readNumberOf_40 M
set_option maxRecDepth 20000 in
set_option maxHeartbeats 2000000 in
theorem cX4_readNumberOf_ok {l : Launch} {D : va_G} {dA : Nat → ClassId} (M : vM) (x1 : Nat) (f1 : v_isP x1) (hI : v_WT M.2.2) : Ct l D dA sX4_readNumberOf false 175 4 0 0 175 [.ref 3, .ref x1] M (fX4_readNumberOf M x1) := by
  refine Ct_of (lv := [(0, .ref 3), (1, .ref x1)]) (by decide +kernel) rfl (Nat.le_of_ble_eq_true rfl) rfl (fun h => by cases h) ?_
  refine V_aload_n (k := 1) dX4_readNumberOf_0 rfl rfl ?_
  refine V_geti dX4_readNumberOf_1 (v_LP f1).2.1 (v_LP f1).1 vf_X4_85 (by decide) ?_
  refine V_ifne (tgt := 21) dX4_readNumberOf_4 (by decide) (fun h5 => ?_) (fun h5 => ?_)
  · refine V_aload_n (k := 1) dX4_readNumberOf_21 rfl rfl ?_
    refine V_geti dX4_readNumberOf_22 (v_LP f1).2.1 (v_LP f1).1 vf_X4_85 (by decide) ?_
    refine V_iconst (v := 1) dX4_readNumberOf_25 rfl ?_
    refine V_icmpne (tgt := 40) dX4_readNumberOf_26 (by decide) (fun h6 => ?_) (fun h6 => ?_)
    · refine V_sub [0] rfl ?_
      exact vX4_readNumberOf_40 M hI
    · refine V_aload_n (k := 1) dX4_readNumberOf_29 rfl rfl ?_
      refine V_aload_n (k := 0) dX4_readNumberOf_30 rfl rfl ?_
      refine V_iconst (v := 0) dX4_readNumberOf_31 rfl ?_
      refine V_bipush (v := 12) dX4_readNumberOf_32 rfl ?_
      refine V_callVi (q := (RX4, TX4, 9)) (cls := 4) (st0 := [.ref x1]) (kc' := 0) (ks' := 0) dX4_readNumberOf_34 lk_X4_88 rfl (by decide) rfl rfl rfl (cX4_readNumber_ok M 0 12 hI) rfl rfl (by decide) (by decide) (Nat.le_of_ble_eq_true rfl) (Or.inl rfl) rfl rfl (by decide) (by decide) (fun y7 M8 e9 hI10 => ?_)
      refine V_puti dX4_readNumberOf_37 (v_LP f1).2.1 (v_LP f1).1 vf_X4_92 (by decide) rfl rfl ?_
      refine V_sub [0] rfl ?_
      exact vX4_readNumberOf_40 (v_si M8 x1 1 y7) hI10
  · refine V_aload_n (k := 1) dX4_readNumberOf_7 rfl rfl ?_
    refine V_aload_n (k := 0) dX4_readNumberOf_8 rfl rfl ?_
    refine V_iconst (v := 2) dX4_readNumberOf_9 rfl ?_
    refine V_bipush (v := 12) dX4_readNumberOf_10 rfl ?_
    refine V_callVi (q := (RX4, TX4, 9)) (cls := 4) (st0 := [.ref x1]) (kc' := 0) (ks' := 0) dX4_readNumberOf_12 lk_X4_88 rfl (by decide) rfl rfl rfl (cX4_readNumber_ok M 2 12 hI) rfl rfl (by decide) (by decide) (Nat.le_of_ble_eq_true rfl) (Or.inl rfl) rfl rfl (by decide) (by decide) (fun y11 M12 e13 hI14 => ?_)
    refine V_puti dX4_readNumberOf_15 (v_LP f1).2.1 (v_LP f1).1 vf_X4_92 (by decide) rfl rfl ?_
    refine V_goto (tgt := 40) dX4_readNumberOf_18 (by decide) ?_
    refine V_sub [0] rfl ?_
    exact vX4_readNumberOf_40 (v_si M12 x1 1 y11) hI14
def fX4_readSign (M : vM) : Option (vR × vM) := if (M.1 3 3) = 3 then bv (fX4_advance M ) fun M3 => rI 1 M3 else bi (fX4_fail M 1) fun y6 M7 => if v_nz y6 = y6 then rI y6 M7 else none
set_option maxRecDepth 20000 in
set_option maxHeartbeats 2000000 in
theorem cX4_readSign_ok {l : Launch} {D : va_G} {dA : Nat → ClassId} (M : vM) (hI : v_WT M.2.2) : Ct l D dA sX4_readSign false 175 3 0 0 175 [.ref 3] M (fX4_readSign M) := by
  refine Ct_of (lv := [(0, .ref 3)]) (by decide +kernel) rfl (Nat.le_of_ble_eq_true rfl) rfl (fun h => by cases h) ?_
  refine V_aload_n (k := 0) dX4_readSign_0 rfl rfl ?_
  refine V_geti dX4_readSign_1 rfl (by decide) vf_X4_31 (by decide) ?_
  refine V_iconst (v := 3) dX4_readSign_4 rfl ?_
  refine V_icmpeq (tgt := 14) dX4_readSign_5 (by decide) (fun h2 => ?_) (fun h2 => ?_)
  · refine V_aload_n (k := 0) dX4_readSign_14 rfl rfl ?_
    refine V_callVv (q := (RX4, TX4, 9)) (cls := 4) (st0 := []) (kc' := 0) (ks' := 0) dX4_readSign_15 lk_X4_28 rfl (by decide) rfl rfl rfl (cX4_advance_ok M  hI) rfl rfl (by decide) (by decide) (Nat.le_of_ble_eq_true rfl) (Or.inl rfl) rfl rfl (by decide) (by decide) (fun  M3 e4 hI5 => ?_)
    refine V_iconst (v := 1) dX4_readSign_18 rfl ?_
    exact V_ret (fun _ => hI5) (Or.inr (Or.inr (Or.inl ⟨rfl, _, rfl⟩))) dX4_readSign_19 (fun ty x h1 h2 => by cases h1; cases h2; rfl) rfl
  · refine V_aload_n (k := 0) dX4_readSign_8 rfl rfl ?_
    refine V_iconst (v := 1) dX4_readSign_9 rfl ?_
    refine V_callVi (q := (RX4, TX4, 9)) (cls := 4) (st0 := []) (kc' := 0) (ks' := 0) dX4_readSign_10 lk_X4_52 rfl (by decide) rfl rfl rfl (cX4_fail_ok M 1 hI) rfl rfl (by decide) (by decide) (Nat.le_of_ble_eq_true rfl) (Or.inl rfl) rfl rfl (by decide) (by decide) (fun y6 M7 e8 hI9 => ?_)
    exact V_retz (fun _ => hI9) rfl dX4_readSign_13
def fX3_mostItems (M : vM) (x0 : Nat) : Option (vR × vM) := if (M.1 x0 0) = 0 then rI 20 M else if (M.1 x0 0) = 1 then rI 12 M else rI 6 M
set_option maxRecDepth 20000 in
set_option maxHeartbeats 2000000 in
theorem cX3_mostItems_ok {l : Launch} {D : va_G} {dA : Nat → ClassId} (M : vM) (x0 : Nat) (f0 : v_isP x0) (hI : v_WT M.2.2) : Ct l D dA sX3_mostItems false 175 1 0 0 175 [.ref x0] M (fX3_mostItems M x0) := by
  refine Ct_of (lv := [(0, .ref x0)]) (by decide +kernel) rfl (Nat.le_of_ble_eq_true rfl) rfl (fun h => by cases h) ?_
  refine V_aload_n (k := 0) dX3_mostItems_0 rfl rfl ?_
  refine V_geti dX3_mostItems_1 (v_LP f0).2.1 (v_LP f0).1 vf_X3_27 (by decide) ?_
  refine V_ifne (tgt := 12) dX3_mostItems_4 (by decide) (fun h3 => ?_) (fun h3 => ?_)
  · refine V_aload_n (k := 0) dX3_mostItems_12 rfl rfl ?_
    refine V_geti dX3_mostItems_13 (v_LP f0).2.1 (v_LP f0).1 vf_X3_27 (by decide) ?_
    refine V_iconst (v := 1) dX3_mostItems_16 rfl ?_
    refine V_icmpne (tgt := 25) dX3_mostItems_17 (by decide) (fun h4 => ?_) (fun h4 => ?_)
    · refine V_bipush (v := 6) dX3_mostItems_25 rfl ?_
      exact V_ret (fun _ => hI) (Or.inr (Or.inl ⟨rfl, _, rfl⟩)) dX3_mostItems_27 (fun ty x h1 h2 => by cases h1; rfl) rfl
    · refine V_bipush (v := 12) dX3_mostItems_20 rfl ?_
      refine V_goto (tgt := 27) dX3_mostItems_22 (by decide) ?_
      exact V_ret (fun _ => hI) (Or.inr (Or.inl ⟨rfl, _, rfl⟩)) dX3_mostItems_27 (fun ty x h1 h2 => by cases h1; rfl) rfl
  · refine V_bipush (v := 20) dX3_mostItems_7 rfl ?_
    refine V_goto (tgt := 27) dX3_mostItems_9 (by decide) ?_
    exact V_ret (fun _ => hI) (Or.inr (Or.inl ⟨rfl, _, rfl⟩)) dX3_mostItems_27 (fun ty x h1 h2 => by cases h1; rfl) rfl
def fX4_readMember_67 (k73 : vM → Option (vR × vM)) (M : vM) : Option (vR × vM) := bi (fX4_fail M 4) fun y7 M8 => k73 M8
set_option maxRecDepth 20000 in
set_option maxHeartbeats 2000000 in
theorem vX4_readMember_67 {l : Launch} {D : va_G} {dA : Nat → ClassId} {k73 : vM → Option (vR × vM)} (hk73 : ∀ (M : vM), v_WT M.2.2 → V l D dA sX4_readMember false 175 3 0 0 73 [(0, .ref 3)] [] 175 M (k73 M)) : ∀ (M : vM), v_WT M.2.2 → V l D dA sX4_readMember false 175 3 0 0 67 [(0, .ref 3)] [] 175 M (fX4_readMember_67 k73 M) := by
  intro M hI
  refine V_aload_n (k := 0) dX4_readMember_67 rfl rfl ?_
  refine V_iconst (v := 4) dX4_readMember_68 rfl ?_
  refine V_callVi (q := (RX4, TX4, 9)) (cls := 4) (st0 := []) (kc' := 0) (ks' := 0) dX4_readMember_69 lk_X4_52 rfl (by decide) rfl rfl rfl (cX4_fail_ok M 4 hI) rfl rfl (by decide) (by decide) (Nat.le_of_ble_eq_true rfl) (Or.inl rfl) rfl rfl (by decide) (by decide) (fun y7 M8 e9 hI10 => ?_)
  refine V_pop dX4_readMember_72 rfl ?_
  refine V_sub [0] rfl ?_
  exact hk73 M8 hI10
def fX4_readMember_73 (M : vM) : Option (vR × vM) := if (M.1 3 7) = 0 then bv (fX4_advance M ) fun M12 => rI (M.1 3 6) M12 else rI (M.1 3 6) M
set_option maxRecDepth 20000 in
set_option maxHeartbeats 2000000 in
theorem vX4_readMember_73 {l : Launch} {D : va_G} {dA : Nat → ClassId} : ∀ (M : vM), v_WT M.2.2 → V l D dA sX4_readMember false 175 3 0 0 73 [(0, .ref 3)] [] 175 M (fX4_readMember_73 M) := by
  intro M hI
  refine V_aload_n (k := 0) dX4_readMember_73 rfl rfl ?_
  refine V_geti dX4_readMember_74 rfl (by decide) vf_X4_149 (by decide) ?_
  refine V_istore (lv' := [(4, .int (M.1 3 6)), (0, .ref 3)]) dX4_readMember_77 (by decide) rfl ?_
  refine V_aload_n (k := 1) dX4_readMember_79 rfl rfl ?_
  refine V_geti dX4_readMember_80 rfl (by decide) vf_X4_22 (by decide) ?_
  refine V_ifne (tgt := 90) dX4_readMember_83 (by decide) (fun h11 => ?_) (fun h11 => ?_)
  · refine V_iload (k := 0) dX4_readMember_90 rfl ?_
    exact V_ret (fun _ => hI) (Or.inr (Or.inl ⟨rfl, _, rfl⟩)) dX4_readMember_92 (fun ty x h1 h2 => by cases h1; rfl) rfl
  · refine V_aload_n (k := 1) dX4_readMember_86 rfl rfl ?_
    refine V_callVv (q := (RX4, TX4, 9)) (cls := 4) (st0 := []) (kc' := 0) (ks' := 0) dX4_readMember_87 lk_X4_28 rfl (by decide) rfl rfl rfl (cX4_advance_ok M  hI) rfl rfl (by decide) (by decide) (Nat.le_of_ble_eq_true rfl) (Or.inl rfl) rfl rfl (by decide) (by decide) (fun  M12 e13 hI14 => ?_)
    refine V_iload (k := 0) dX4_readMember_90 rfl ?_
    exact V_ret (fun _ => hI14) (Or.inr (Or.inl ⟨rfl, _, rfl⟩)) dX4_readMember_92 (fun ty x h1 h2 => by cases h1; rfl) rfl
def fX4_readMember (M : vM) (x1 : Int32) (x2 : Int32) (x3 : Int32) : Option (vR × vM) := if (M.1 3 3) = 2 then if (M.1 3 5) ≤ 4 then if (M.1 3 6) < x1 then if (M.1 3 6) ≤ x2 then fX4_readMember_67 (fX4_readMember_73) M else if (M.1 3 6) = x3 then fX4_readMember_67 (fX4_readMember_73) M else fX4_readMember_73 M else bi (fX4_fail M 3) fun y20 M21 => fX4_readMember_73 M21 else bi (fX4_fail M 2) fun y24 M25 => fX4_readMember_73 M25 else bi (fX4_fail M 1) fun y28 M29 => fX4_readMember_73 M29
set_option maxRecDepth 20000 in
set_option maxHeartbeats 2000000 in
theorem cX4_readMember_ok {l : Launch} {D : va_G} {dA : Nat → ClassId} (M : vM) (x1 : Int32) (x2 : Int32) (x3 : Int32) (hI : v_WT M.2.2) : Ct l D dA sX4_readMember false 175 3 0 0 175 [.ref 3, .int x1, .int x2, .int x3] M (fX4_readMember M x1 x2 x3) := by
  refine Ct_of (lv := [(0, .ref 3), (1, .int x1), (2, .int x2), (3, .int x3)]) (by decide +kernel) rfl (Nat.le_of_ble_eq_true rfl) rfl (fun h => by cases h) ?_
  refine V_aload_n (k := 0) dX4_readMember_0 rfl rfl ?_
  refine V_geti dX4_readMember_1 rfl (by decide) vf_X4_31 (by decide) ?_
  refine V_iconst (v := 2) dX4_readMember_4 rfl ?_
  refine V_icmpeq (tgt := 17) dX4_readMember_5 (by decide) (fun h15 => ?_) (fun h15 => ?_)
  · refine V_aload_n (k := 0) dX4_readMember_17 rfl rfl ?_
    refine V_geti dX4_readMember_18 rfl (by decide) vf_X4_146 (by decide) ?_
    refine V_iconst (v := 4) dX4_readMember_21 rfl ?_
    refine V_icmple (tgt := 34) dX4_readMember_22 (by decide) (fun h16 => ?_) (fun h16 => ?_)
    · refine V_aload_n (k := 0) dX4_readMember_34 rfl rfl ?_
      refine V_geti dX4_readMember_35 rfl (by decide) vf_X4_149 (by decide) ?_
      refine V_iload_n (k := 1) dX4_readMember_38 rfl rfl ?_
      refine V_icmplt (tgt := 51) dX4_readMember_39 (by decide) (fun h17 => ?_) (fun h17 => ?_)
      · refine V_aload_n (k := 0) dX4_readMember_51 rfl rfl ?_
        refine V_geti dX4_readMember_52 rfl (by decide) vf_X4_149 (by decide) ?_
        refine V_iload_n (k := 2) dX4_readMember_55 rfl rfl ?_
        refine V_icmple (tgt := 67) dX4_readMember_56 (by decide) (fun h18 => ?_) (fun h18 => ?_)
        · refine V_sub [0] rfl ?_
          exact vX4_readMember_67 (vX4_readMember_73) M hI
        · refine V_aload_n (k := 0) dX4_readMember_59 rfl rfl ?_
          refine V_geti dX4_readMember_60 rfl (by decide) vf_X4_149 (by decide) ?_
          refine V_iload_n (k := 3) dX4_readMember_63 rfl rfl ?_
          refine V_icmpne (tgt := 73) dX4_readMember_64 (by decide) (fun h19 => ?_) (fun h19 => ?_)
          · refine V_sub [0] rfl ?_
            exact vX4_readMember_73 M hI
          · refine V_sub [0] rfl ?_
            exact vX4_readMember_67 (vX4_readMember_73) M hI
      · refine V_aload_n (k := 0) dX4_readMember_42 rfl rfl ?_
        refine V_iconst (v := 3) dX4_readMember_43 rfl ?_
        refine V_callVi (q := (RX4, TX4, 9)) (cls := 4) (st0 := []) (kc' := 0) (ks' := 0) dX4_readMember_44 lk_X4_52 rfl (by decide) rfl rfl rfl (cX4_fail_ok M 3 hI) rfl rfl (by decide) (by decide) (Nat.le_of_ble_eq_true rfl) (Or.inl rfl) rfl rfl (by decide) (by decide) (fun y20 M21 e22 hI23 => ?_)
        refine V_pop dX4_readMember_47 rfl ?_
        refine V_goto (tgt := 73) dX4_readMember_48 (by decide) ?_
        refine V_sub [0] rfl ?_
        exact vX4_readMember_73 M21 hI23
    · refine V_aload_n (k := 0) dX4_readMember_25 rfl rfl ?_
      refine V_iconst (v := 2) dX4_readMember_26 rfl ?_
      refine V_callVi (q := (RX4, TX4, 9)) (cls := 4) (st0 := []) (kc' := 0) (ks' := 0) dX4_readMember_27 lk_X4_52 rfl (by decide) rfl rfl rfl (cX4_fail_ok M 2 hI) rfl rfl (by decide) (by decide) (Nat.le_of_ble_eq_true rfl) (Or.inl rfl) rfl rfl (by decide) (by decide) (fun y24 M25 e26 hI27 => ?_)
      refine V_pop dX4_readMember_30 rfl ?_
      refine V_goto (tgt := 73) dX4_readMember_31 (by decide) ?_
      refine V_sub [0] rfl ?_
      exact vX4_readMember_73 M25 hI27
  · refine V_aload_n (k := 0) dX4_readMember_8 rfl rfl ?_
    refine V_iconst (v := 1) dX4_readMember_9 rfl ?_
    refine V_callVi (q := (RX4, TX4, 9)) (cls := 4) (st0 := []) (kc' := 0) (ks' := 0) dX4_readMember_10 lk_X4_52 rfl (by decide) rfl rfl rfl (cX4_fail_ok M 1 hI) rfl rfl (by decide) (by decide) (Nat.le_of_ble_eq_true rfl) (Or.inl rfl) rfl rfl (by decide) (by decide) (fun y28 M29 e30 hI31 => ?_)
    refine V_pop dX4_readMember_13 rfl ?_
    refine V_goto (tgt := 73) dX4_readMember_14 (by decide) ?_
    refine V_sub [0] rfl ?_
    exact vX4_readMember_73 M29 hI31
def fX3_addItem (M : vM) (x0 : Nat) (x1 : Int32) (x2 : Int32) (x3 : Int32) (x4 : Int32) : Option (vR × vM) := bv (fX10_put M (x0 + 2) (M.1 x0 4) x1) fun M2 => bv (fX10_put M2 (x0 + 3) (M2.1 x0 4) x2) fun M5 => bv (fX10_put M5 (x0 + 1) (M5.1 x0 4) x3) fun M8 => if x4 = 0 then rV (v_si M8 x0 4 ((M8.1 x0 4) + 1)) else rV (v_si (v_si M8 x0 6 ((M8.1 x0 6) ||| (1 <<< ((M8.1 x0 4) &&& (31 : Int32))))) x0 4 (((v_si M8 x0 6 ((M8.1 x0 6) ||| (1 <<< ((M8.1 x0 4) &&& (31 : Int32))))).1 x0 4) + 1))
set_option maxRecDepth 20000 in
set_option maxHeartbeats 2000000 in
theorem cX3_addItem_ok {l : Launch} {D : va_G} {dA : Nat → ClassId} (M : vM) (x0 : Nat) (x1 : Int32) (x2 : Int32) (x3 : Int32) (x4 : Int32) (f0 : v_isP x0) (hI : v_WT M.2.2) : Ct l D dA sX3_addItem false 175 2 0 0 175 [.ref x0, .int x1, .int x2, .int x3, .int x4] M (fX3_addItem M x0 x1 x2 x3 x4) := by
  refine Ct_of (lv := [(0, .ref x0), (1, .int x1), (2, .int x2), (3, .int x3), (4, .int x4)]) (by decide +kernel) rfl (Nat.le_of_ble_eq_true rfl) rfl (fun h => by cases h) ?_
  refine V_aload_n (k := 0) dX3_addItem_0 rfl rfl ?_
  refine V_getr (k := x0 + 2) dX3_addItem_1 (v_LP f0).2.1 (v_LP f0).1 vf_X3_15 (by decide) (v_finP hI f0).2.1 ?_
  refine V_aload_n (k := 0) dX3_addItem_4 rfl rfl ?_
  refine V_geti dX3_addItem_5 (v_LP f0).2.1 (v_LP f0).1 vf_X3_40 (by decide) ?_
  refine V_iload_n (k := 1) dX3_addItem_8 rfl rfl ?_
  refine V_callSv (st0 := []) (kc' := 0) (ks' := 0) dX3_addItem_9 lk_X3_55 rfl (cX10_put_ok M (x0 + 2) (M.1 x0 4) x1 (v_isA_of (v_LP f0).2.2.2.2.1 (v_LP f0).2.2.1.2.1) hI) rfl rfl (by decide) (by decide) (Nat.le_of_ble_eq_true rfl) (Or.inl rfl) rfl rfl (by decide) (by decide) (fun  M2 e3 hI4 => ?_)
  refine V_aload_n (k := 0) dX3_addItem_12 rfl rfl ?_
  refine V_getr (k := x0 + 3) dX3_addItem_13 (v_LP f0).2.1 (v_LP f0).1 vf_X3_18 (by decide) (v_finP hI4 f0).2.2.1 ?_
  refine V_aload_n (k := 0) dX3_addItem_16 rfl rfl ?_
  refine V_geti dX3_addItem_17 (v_LP f0).2.1 (v_LP f0).1 vf_X3_40 (by decide) ?_
  refine V_iload_n (k := 2) dX3_addItem_20 rfl rfl ?_
  refine V_callSv (st0 := []) (kc' := 0) (ks' := 0) dX3_addItem_21 lk_X3_55 rfl (cX10_put_ok M2 (x0 + 3) (M2.1 x0 4) x2 (v_isA_of (v_LP f0).2.2.2.2.2.1 (v_LP f0).2.2.1.2.2.1) hI4) rfl rfl (by decide) (by decide) (Nat.le_of_ble_eq_true rfl) (Or.inl rfl) rfl rfl (by decide) (by decide) (fun  M5 e6 hI7 => ?_)
  refine V_aload_n (k := 0) dX3_addItem_24 rfl rfl ?_
  refine V_getr (k := x0 + 1) dX3_addItem_25 (v_LP f0).2.1 (v_LP f0).1 vf_X3_9 (by decide) (v_finP hI7 f0).1 ?_
  refine V_aload_n (k := 0) dX3_addItem_28 rfl rfl ?_
  refine V_geti dX3_addItem_29 (v_LP f0).2.1 (v_LP f0).1 vf_X3_40 (by decide) ?_
  refine V_iload_n (k := 3) dX3_addItem_32 rfl rfl ?_
  refine V_callSv (st0 := []) (kc' := 0) (ks' := 0) dX3_addItem_33 lk_X3_55 rfl (cX10_put_ok M5 (x0 + 1) (M5.1 x0 4) x3 (v_isA_of (v_LP f0).2.2.2.1 (v_LP f0).2.2.1.1) hI7) rfl rfl (by decide) (by decide) (Nat.le_of_ble_eq_true rfl) (Or.inl rfl) rfl rfl (by decide) (by decide) (fun  M8 e9 hI10 => ?_)
  refine V_iload (k := 4) dX3_addItem_36 rfl ?_
  refine V_ifeq (tgt := 56) dX3_addItem_38 (by decide) (fun h11 => ?_) (fun h11 => ?_)
  · refine V_aload_n (k := 0) dX3_addItem_56 rfl rfl ?_
    refine V_dup dX3_addItem_57 rfl ?_
    refine V_geti dX3_addItem_58 (v_LP f0).2.1 (v_LP f0).1 vf_X3_40 (by decide) ?_
    refine V_iconst (v := 1) dX3_addItem_61 rfl ?_
    refine V_iadd dX3_addItem_62 ?_
    refine V_puti dX3_addItem_63 (v_LP f0).2.1 (v_LP f0).1 vf_X3_40 (by decide) rfl rfl ?_
    exact V_ret (fun _ => hI10) (Or.inl ⟨rfl, rfl⟩) dX3_addItem_66 (fun ty x h1 h2 => by cases h1) rfl
  · refine V_aload_n (k := 0) dX3_addItem_41 rfl rfl ?_
    refine V_dup dX3_addItem_42 rfl ?_
    refine V_geti dX3_addItem_43 (v_LP f0).2.1 (v_LP f0).1 vf_X3_46 (by decide) ?_
    refine V_iconst (v := 1) dX3_addItem_46 rfl ?_
    refine V_aload_n (k := 0) dX3_addItem_47 rfl rfl ?_
    refine V_geti dX3_addItem_48 (v_LP f0).2.1 (v_LP f0).1 vf_X3_40 (by decide) ?_
    refine V_ishl dX3_addItem_51 ?_
    refine V_ior dX3_addItem_52 ?_
    refine V_puti dX3_addItem_53 (v_LP f0).2.1 (v_LP f0).1 vf_X3_46 (by decide) rfl rfl ?_
    refine V_aload_n (k := 0) dX3_addItem_56 rfl rfl ?_
    refine V_dup dX3_addItem_57 rfl ?_
    refine V_geti dX3_addItem_58 (v_LP f0).2.1 (v_LP f0).1 vf_X3_40 (by decide) ?_
    refine V_iconst (v := 1) dX3_addItem_61 rfl ?_
    refine V_iadd dX3_addItem_62 ?_
    refine V_puti dX3_addItem_63 (v_LP f0).2.1 (v_LP f0).1 vf_X3_40 (by decide) rfl rfl ?_
    exact V_ret (fun _ => hI10) (Or.inl ⟨rfl, rfl⟩) dX3_addItem_66 (fun ty x h1 h2 => by cases h1) rfl
def fX3_bar (M : vM) (x0 : Nat) (x1 : Int32) (x2 : Int32) : Option (vR × vM) := bi (fX10_at M (x0 + 5) x1) fun y1 M2 => bv (fX10_put M2 (x0 + 5) x1 (y1 ||| (1 <<< (x2 &&& (31 : Int32))))) fun M5 => rV M5
set_option maxRecDepth 20000 in
set_option maxHeartbeats 2000000 in
theorem cX3_bar_ok {l : Launch} {D : va_G} {dA : Nat → ClassId} (M : vM) (x0 : Nat) (x1 : Int32) (x2 : Int32) (f0 : v_isP x0) (hI : v_WT M.2.2) : Ct l D dA sX3_bar false 175 2 0 0 175 [.ref x0, .int x1, .int x2] M (fX3_bar M x0 x1 x2) := by
  refine Ct_of (lv := [(0, .ref x0), (1, .int x1), (2, .int x2)]) (by decide +kernel) rfl (Nat.le_of_ble_eq_true rfl) rfl (fun h => by cases h) ?_
  refine V_aload_n (k := 0) dX3_bar_0 rfl rfl ?_
  refine V_getr (k := x0 + 5) dX3_bar_1 (v_LP f0).2.1 (v_LP f0).1 vf_X3_24 (by decide) (v_finP hI f0).2.2.2.2 ?_
  refine V_iload_n (k := 1) dX3_bar_4 rfl rfl ?_
  refine V_aload_n (k := 0) dX3_bar_5 rfl rfl ?_
  refine V_getr (k := x0 + 5) dX3_bar_6 (v_LP f0).2.1 (v_LP f0).1 vf_X3_24 (by decide) (v_finP hI f0).2.2.2.2 ?_
  refine V_iload_n (k := 1) dX3_bar_9 rfl rfl ?_
  refine V_callSi (st0 := [.int x1, .ref (x0 + 5)]) (kc' := 0) (ks' := 0) dX3_bar_10 lk_X3_59 rfl (cX10_at_ok M (x0 + 5) x1 (v_isA_of (v_LP f0).2.2.2.2.2.2.2 (v_LP f0).2.2.1.2.2.2.2) hI) rfl rfl (by decide) (by decide) (Nat.le_of_ble_eq_true rfl) (Or.inl rfl) rfl rfl (by decide) (by decide) (fun y1 M2 e3 hI4 => ?_)
  refine V_iconst (v := 1) dX3_bar_13 rfl ?_
  refine V_iload_n (k := 2) dX3_bar_14 rfl rfl ?_
  refine V_ishl dX3_bar_15 ?_
  refine V_ior dX3_bar_16 ?_
  refine V_callSv (st0 := []) (kc' := 0) (ks' := 0) dX3_bar_17 lk_X3_55 rfl (cX10_put_ok M2 (x0 + 5) x1 (y1 ||| (1 <<< (x2 &&& (31 : Int32)))) (v_isA_of (v_LP f0).2.2.2.2.2.2.2 (v_LP f0).2.2.1.2.2.2.2) hI4) rfl rfl (by decide) (by decide) (Nat.le_of_ble_eq_true rfl) (Or.inl rfl) rfl rfl (by decide) (by decide) (fun  M5 e6 hI7 => ?_)
  exact V_ret (fun _ => hI7) (Or.inl ⟨rfl, rfl⟩) dX3_bar_20 (fun ty x h1 h2 => by cases h1) rfl
def fX3_need (M : vM) (x0 : Nat) (x1 : Int32) (x2 : Int32) : Option (vR × vM) := bi (fX10_at M (x0 + 4) x1) fun y1 M2 => bv (fX10_put M2 (x0 + 4) x1 (y1 ||| (1 <<< (x2 &&& (31 : Int32))))) fun M5 => rV M5
set_option maxRecDepth 20000 in
set_option maxHeartbeats 2000000 in
theorem cX3_need_ok {l : Launch} {D : va_G} {dA : Nat → ClassId} (M : vM) (x0 : Nat) (x1 : Int32) (x2 : Int32) (f0 : v_isP x0) (hI : v_WT M.2.2) : Ct l D dA sX3_need false 175 2 0 0 175 [.ref x0, .int x1, .int x2] M (fX3_need M x0 x1 x2) := by
  refine Ct_of (lv := [(0, .ref x0), (1, .int x1), (2, .int x2)]) (by decide +kernel) rfl (Nat.le_of_ble_eq_true rfl) rfl (fun h => by cases h) ?_
  refine V_aload_n (k := 0) dX3_need_0 rfl rfl ?_
  refine V_getr (k := x0 + 4) dX3_need_1 (v_LP f0).2.1 (v_LP f0).1 vf_X3_21 (by decide) (v_finP hI f0).2.2.2.1 ?_
  refine V_iload_n (k := 1) dX3_need_4 rfl rfl ?_
  refine V_aload_n (k := 0) dX3_need_5 rfl rfl ?_
  refine V_getr (k := x0 + 4) dX3_need_6 (v_LP f0).2.1 (v_LP f0).1 vf_X3_21 (by decide) (v_finP hI f0).2.2.2.1 ?_
  refine V_iload_n (k := 1) dX3_need_9 rfl rfl ?_
  refine V_callSi (st0 := [.int x1, .ref (x0 + 4)]) (kc' := 0) (ks' := 0) dX3_need_10 lk_X3_59 rfl (cX10_at_ok M (x0 + 4) x1 (v_isA_of (v_LP f0).2.2.2.2.2.2.1 (v_LP f0).2.2.1.2.2.2.1) hI) rfl rfl (by decide) (by decide) (Nat.le_of_ble_eq_true rfl) (Or.inl rfl) rfl rfl (by decide) (by decide) (fun y1 M2 e3 hI4 => ?_)
  refine V_iconst (v := 1) dX3_need_13 rfl ?_
  refine V_iload_n (k := 2) dX3_need_14 rfl rfl ?_
  refine V_ishl dX3_need_15 ?_
  refine V_ior dX3_need_16 ?_
  refine V_callSv (st0 := []) (kc' := 0) (ks' := 0) dX3_need_17 lk_X3_55 rfl (cX10_put_ok M2 (x0 + 4) x1 (y1 ||| (1 <<< (x2 &&& (31 : Int32)))) (v_isA_of (v_LP f0).2.2.2.2.2.2.1 (v_LP f0).2.2.1.2.2.2.1) hI4) rfl rfl (by decide) (by decide) (Nat.le_of_ble_eq_true rfl) (Or.inl rfl) rfl rfl (by decide) (by decide) (fun  M5 e6 hI7 => ?_)
  exact V_ret (fun _ => hI7) (Or.inl ⟨rfl, rfl⟩) dX3_need_20 (fun ty x h1 h2 => by cases h1) rfl
def fX9_rankOf_14 : Nat → vM → Nat → Int32 → Int32 → Int32 → Option (vR × vM)
  | 0, _, _, _, _, _ => none
  | n9 + 1, M, x0, x1, x2, x3 => if x1 ≤ x3 then rI x2 M else bi (fX9_isSpent M x0 x3) fun y5 M6 => if y5 = 0 then fX9_rankOf_14 n9 M6 x0 x1 (x2 + 1) (x3 + 1) else fX9_rankOf_14 n9 M6 x0 x1 x2 (x3 + 1)
set_option maxRecDepth 20000 in
set_option maxHeartbeats 2000000 in
theorem vX9_rankOf_14 {l : Launch} {D : va_G} {dA : Nat → ClassId} : ∀ (n9 : Nat) (M : vM) (x0 : Nat) (x1 : Int32) (x2 : Int32) (x3 : Int32) (f0 : v_isW x0), v_WT M.2.2 → V l D dA sX9_rankOf false 175 3 0 0 14 [(0, .ref x0), (1, .int x1), (2, .int x2), (3, .int x3)] [] 175 M (fX9_rankOf_14 n9 M x0 x1 x2 x3) := by
  intro n9
  induction n9 with
  | zero => intros; exact V_none
  | succ n9 ih =>
    intro M x0 x1 x2 x3 f0 hI
    refine V_iload_n (k := 3) dX9_rankOf_14 rfl rfl ?_
    refine V_iload_n (k := 1) dX9_rankOf_15 rfl rfl ?_
    refine V_icmpge (tgt := 36) dX9_rankOf_16 (by decide) (fun h4 => ?_) (fun h4 => ?_)
    · refine V_iload_n (k := 2) dX9_rankOf_36 rfl rfl ?_
      exact V_ret (fun _ => hI) (Or.inr (Or.inl ⟨rfl, _, rfl⟩)) dX9_rankOf_37 (fun ty x h1 h2 => by cases h1; rfl) rfl
    · refine V_aload_n (k := 0) dX9_rankOf_19 rfl rfl ?_
      refine V_iload_n (k := 3) dX9_rankOf_20 rfl rfl ?_
      refine V_callVi (q := (RX9, TX9, 6)) (cls := 9) (st0 := []) (kc' := 0) (ks' := 0) dX9_rankOf_21 lk_X9_101 rfl (v_LW f0).1 (v_LW f0).2.1 rfl rfl (cX9_isSpent_ok M x0 x3 f0 hI) rfl rfl (by decide) (by decide) (Nat.le_of_ble_eq_true rfl) (Or.inl rfl) rfl rfl (by decide) (by decide) (fun y5 M6 e7 hI8 => ?_)
      refine V_ifne (tgt := 30) dX9_rankOf_24 (by decide) (fun h9 => ?_) (fun h9 => ?_)
      · refine V_iinc (k := 3) (v := x3 + 1) (lv' := [(3, .int (x3 + 1)), (0, .ref x0), (1, .int x1), (2, .int x2)]) dX9_rankOf_30 rfl rfl (by decide) rfl ?_
        refine V_goto (tgt := 14) dX9_rankOf_33 (by decide) ?_
        refine V_sub [1, 2, 3, 0] rfl ?_
        exact ih M6 x0 x1 x2 (x3 + 1) f0 hI8
      · refine V_iinc (k := 2) (v := x2 + 1) (lv' := [(2, .int (x2 + 1)), (0, .ref x0), (1, .int x1), (3, .int x3)]) dX9_rankOf_27 rfl rfl (by decide) rfl ?_
        refine V_iinc (k := 3) (v := x3 + 1) (lv' := [(3, .int (x3 + 1)), (2, .int (x2 + 1)), (0, .ref x0), (1, .int x1)]) dX9_rankOf_30 rfl rfl (by decide) rfl ?_
        refine V_goto (tgt := 14) dX9_rankOf_33 (by decide) ?_
        refine V_sub [2, 3, 1, 0] rfl ?_
        exact ih M6 x0 x1 (x2 + 1) (x3 + 1) f0 hI8
def fX9_rankOf (M : vM) (x0 : Nat) (x1 : Int32) : Option (vR × vM) := bi (fX9_isSpent M x0 x1) fun y10 M11 => if y10 = 0 then fX9_rankOf_14 FU M11 x0 x1 0 0 else rI ((-1)) M11
set_option maxRecDepth 20000 in
set_option maxHeartbeats 2000000 in
theorem cX9_rankOf_ok {l : Launch} {D : va_G} {dA : Nat → ClassId} (M : vM) (x0 : Nat) (x1 : Int32) (f0 : v_isW x0) (hI : v_WT M.2.2) : Ct l D dA sX9_rankOf false 175 3 0 0 175 [.ref x0, .int x1] M (fX9_rankOf M x0 x1) := by
  refine Ct_of (lv := [(0, .ref x0), (1, .int x1)]) (by decide +kernel) rfl (Nat.le_of_ble_eq_true rfl) rfl (fun h => by cases h) ?_
  refine V_aload_n (k := 0) dX9_rankOf_0 rfl rfl ?_
  refine V_iload_n (k := 1) dX9_rankOf_1 rfl rfl ?_
  refine V_callVi (q := (RX9, TX9, 6)) (cls := 9) (st0 := []) (kc' := 0) (ks' := 0) dX9_rankOf_2 lk_X9_101 rfl (v_LW f0).1 (v_LW f0).2.1 rfl rfl (cX9_isSpent_ok M x0 x1 f0 hI) rfl rfl (by decide) (by decide) (Nat.le_of_ble_eq_true rfl) (Or.inl rfl) rfl rfl (by decide) (by decide) (fun y10 M11 e12 hI13 => ?_)
  refine V_ifeq (tgt := 10) dX9_rankOf_5 (by decide) (fun h14 => ?_) (fun h14 => ?_)
  · refine V_iconst (v := 0) dX9_rankOf_10 rfl ?_
    refine V_istore_n (lv' := [(2, .int 0), (0, .ref x0), (1, .int x1)]) dX9_rankOf_11 rfl (by decide) rfl ?_
    refine V_iconst (v := 0) dX9_rankOf_12 rfl ?_
    refine V_istore_n (lv' := [(3, .int 0), (2, .int 0), (0, .ref x0), (1, .int x1)]) dX9_rankOf_13 rfl (by decide) rfl ?_
    refine V_sub [2, 3, 1, 0] rfl ?_
    exact vX9_rankOf_14 FU M11 x0 x1 0 0 f0 hI13
  · refine V_iconst (v := (-1)) dX9_rankOf_8 rfl ?_
    exact V_ret (fun _ => hI13) (Or.inr (Or.inl ⟨rfl, _, rfl⟩)) dX9_rankOf_9 (fun ty x h1 h2 => by cases h1; rfl) rfl
def fX10_way (M : vM) (x1 : Int32) (x2 : Int32) (x3 : Int32) : Option (vR × vM) := br (fX10_workOf M x1) fun y6 M7 => bv (fX10_refuseUnlessWay M7 y6 x2) fun M10 => if x3 = 0 then bi (fX9_costOf M10 y6 x2) fun y14 M15 => rI y14 M15 else if x3 = 1 then bi (fX9_markOf M10 y6 x2) fun y19 M20 => rI y19 M20 else if x3 = 2 then bi (fX9_isSpent M10 y6 x2) fun y24 M25 => if y24 = 0 then rI 0 M25 else rI 1 M25 else if x3 = 3 then bi (fX9_rankOf M10 y6 x2) fun y30 M31 => rI y30 M31 else rT 1 M10
set_option maxRecDepth 20000 in
set_option maxHeartbeats 2000000 in
theorem cX10_way_ok {l : Launch} {D : va_G} {dA : Nat → ClassId} (hT : l.stackTraces = false) (M : vM) (x1 : Int32) (x2 : Int32) (x3 : Int32) (hI : v_WT M.2.2) : Ct l D dA sX10_way false 175 7 3 18 175 [.ref 0, .int x1, .int x2, .int x3] M (fX10_way M x1 x2 x3) := by
  refine Ct_of (lv := [(0, .ref 0), (1, .int x1), (2, .int x2), (3, .int x3)]) (by decide +kernel) rfl (Nat.le_of_ble_eq_true rfl) rfl (fun h => by cases h) ?_
  refine V_aload_n (k := 0) dX10_way_0 rfl rfl ?_
  refine V_iload_n (k := 1) dX10_way_1 rfl rfl ?_
  refine V_callVr (q := (RX10, TX10, 15)) (cls := 10) (st0 := []) (kc' := 2) (ks' := 12) dX10_way_2 lk_X10_158 rfl (by decide) rfl rfl rfl (cX10_workOf_ok hT M x1 hI) rfl rfl (by decide) (by decide) (Nat.le_of_ble_eq_true rfl) (Or.inl rfl) rfl rfl (by decide) (by decide) (fun y6 M7 e8 hI9 => ?_)
  have wy6 := wX10_workOf_ret e8
  refine V_astore (lv' := [(4, .ref y6), (0, .ref 0), (1, .int x1), (2, .int x2), (3, .int x3)]) dX10_way_5 (by decide) rfl ?_
  refine V_aload (k := 0) dX10_way_7 rfl ?_
  refine V_iload_n (k := 3) dX10_way_9 rfl rfl ?_
  refine V_callSv (st0 := []) (kc' := 1) (ks' := 6) dX10_way_10 lk_X10_192 rfl (cX10_refuseUnlessWay_ok hT M7 y6 x2 wy6 hI9) rfl rfl (by decide) (by decide) (Nat.le_of_ble_eq_true rfl) (Or.inl rfl) rfl rfl (by decide) (by decide) (fun  M10 e11 hI12 => ?_)
  refine V_iload_n (k := 4) dX10_way_13 rfl rfl ?_
  refine V_tcase (k := 0) (tgt := 44) dX10_way_14 (by decide) (by decide) rfl (by decide) (fun h13 => ?_) (fun h13 => ?_)
  · refine V_aload (k := 0) dX10_way_44 rfl ?_
    refine V_iload_n (k := 3) dX10_way_46 rfl rfl ?_
    refine V_callVi (q := (RX9, TX9, 6)) (cls := 9) (st0 := []) (kc' := 1) (ks' := 6) dX10_way_47 lk_X10_196 rfl (v_LW wy6).1 (v_LW wy6).2.1 rfl rfl (cX9_costOf_ok M10 y6 x2 wy6 hI12) rfl rfl (by decide) (by decide) (Nat.le_of_ble_eq_true rfl) (Or.inl rfl) rfl rfl (by decide) (by decide) (fun y14 M15 e16 hI17 => ?_)
    exact V_ret (fun _ => hI17) (Or.inr (Or.inl ⟨rfl, _, rfl⟩)) dX10_way_50 (fun ty x h1 h2 => by cases h1; rfl) rfl
  refine V_tcase (k := 1) (tgt := 51) dX10_way_14 (by decide) (by decide) rfl (by decide) (fun h18 => ?_) (fun h18 => ?_)
  · refine V_aload (k := 0) dX10_way_51 rfl ?_
    refine V_iload_n (k := 3) dX10_way_53 rfl rfl ?_
    refine V_callVi (q := (RX9, TX9, 6)) (cls := 9) (st0 := []) (kc' := 1) (ks' := 6) dX10_way_54 lk_X10_199 rfl (v_LW wy6).1 (v_LW wy6).2.1 rfl rfl (cX9_markOf_ok M10 y6 x2 wy6 hI12) rfl rfl (by decide) (by decide) (Nat.le_of_ble_eq_true rfl) (Or.inl rfl) rfl rfl (by decide) (by decide) (fun y19 M20 e21 hI22 => ?_)
    exact V_ret (fun _ => hI22) (Or.inr (Or.inl ⟨rfl, _, rfl⟩)) dX10_way_57 (fun ty x h1 h2 => by cases h1; rfl) rfl
  refine V_tcase (k := 2) (tgt := 58) dX10_way_14 (by decide) (by decide) rfl (by decide) (fun h23 => ?_) (fun h23 => ?_)
  · refine V_aload (k := 0) dX10_way_58 rfl ?_
    refine V_iload_n (k := 3) dX10_way_60 rfl rfl ?_
    refine V_callVi (q := (RX9, TX9, 6)) (cls := 9) (st0 := []) (kc' := 1) (ks' := 6) dX10_way_61 lk_X10_202 rfl (v_LW wy6).1 (v_LW wy6).2.1 rfl rfl (cX9_isSpent_ok M10 y6 x2 wy6 hI12) rfl rfl (by decide) (by decide) (Nat.le_of_ble_eq_true rfl) (Or.inl rfl) rfl rfl (by decide) (by decide) (fun y24 M25 e26 hI27 => ?_)
    refine V_ifeq (tgt := 71) dX10_way_64 (by decide) (fun h28 => ?_) (fun h28 => ?_)
    · refine V_iconst (v := 0) dX10_way_71 rfl ?_
      exact V_ret (fun _ => hI27) (Or.inr (Or.inl ⟨rfl, _, rfl⟩)) dX10_way_72 (fun ty x h1 h2 => by cases h1; rfl) rfl
    · refine V_iconst (v := 1) dX10_way_67 rfl ?_
      refine V_goto (tgt := 72) dX10_way_68 (by decide) ?_
      exact V_ret (fun _ => hI27) (Or.inr (Or.inl ⟨rfl, _, rfl⟩)) dX10_way_72 (fun ty x h1 h2 => by cases h1; rfl) rfl
  refine V_tcase (k := 3) (tgt := 73) dX10_way_14 (by decide) (by decide) rfl (by decide) (fun h29 => ?_) (fun h29 => ?_)
  · refine V_aload (k := 0) dX10_way_73 rfl ?_
    refine V_iload_n (k := 3) dX10_way_75 rfl rfl ?_
    refine V_callVi (q := (RX9, TX9, 6)) (cls := 9) (st0 := []) (kc' := 1) (ks' := 6) dX10_way_76 lk_X10_206 rfl (v_LW wy6).1 (v_LW wy6).2.1 rfl rfl (cX9_rankOf_ok M10 y6 x2 wy6 hI12) rfl rfl (by decide) (by decide) (Nat.le_of_ble_eq_true rfl) (Or.inl rfl) rfl rfl (by decide) (by decide) (fun y30 M31 e32 hI33 => ?_)
    exact V_ret (fun _ => hI33) (Or.inr (Or.inl ⟨rfl, _, rfl⟩)) dX10_way_79 (fun ty x h1 h2 => by cases h1; rfl) rfl
  refine V_tdef (tgt := 80) dX10_way_14 (v_tout (m := 3) (by decide) (lt_s (lt_s (lt_s (lt_s lt_0 h13) h18) h23) h29)) (by decide) ?_
  exact V_throwN (sid := 18) (text := "no such what") (fun _ => hI12) hT rfl (by decide +kernel) dX10_way_80 dX10_way_83 dX10_way_84 dX10_way_86 dX10_way_89 rfl (by decide) (by decide) (by decide) (Nat.le_of_ble_eq_true rfl)
def fX1_setWeight (M : vM) (x0 : Nat) (x1 : Int32) (x2 : Int32) : Option (vR × vM) := bv (fX10_put M (x0 + 7) x1 x2) fun M1 => rV M1
set_option maxRecDepth 20000 in
set_option maxHeartbeats 2000000 in
theorem cX1_setWeight_ok {l : Launch} {D : va_G} {dA : Nat → ClassId} (M : vM) (x0 : Nat) (x1 : Int32) (x2 : Int32) (f0 : v_isG x0) (hI : v_WT M.2.2) : Ct l D dA sX1_setWeight false 175 2 0 0 175 [.ref x0, .int x1, .int x2] M (fX1_setWeight M x0 x1 x2) := by
  refine Ct_of (lv := [(0, .ref x0), (1, .int x1), (2, .int x2)]) (by decide +kernel) rfl (Nat.le_of_ble_eq_true rfl) rfl (fun h => by cases h) ?_
  refine V_aload_n (k := 0) dX1_setWeight_0 rfl rfl ?_
  refine V_getr (k := x0 + 7) dX1_setWeight_1 (v_LG f0).2.1 (v_LG f0).1 vf_X1_30 (by decide) (v_finG hI f0).2.2.2.2.2.2.1 ?_
  refine V_iload_n (k := 1) dX1_setWeight_4 rfl rfl ?_
  refine V_iload_n (k := 2) dX1_setWeight_5 rfl rfl ?_
  refine V_callSv (st0 := []) (kc' := 0) (ks' := 0) dX1_setWeight_6 lk_X1_56 rfl (cX10_put_ok M (x0 + 7) x1 x2 (v_isA_of (v_LG f0).2.2.2.2.2.2.2.2.2.1 (v_LG f0).2.2.1.2.2.2.2.2.2.1) hI) rfl rfl (by decide) (by decide) (Nat.le_of_ble_eq_true rfl) (Or.inl rfl) rfl rfl (by decide) (by decide) (fun  M1 e2 hI3 => ?_)
  exact V_ret (fun _ => hI3) (Or.inl ⟨rfl, rfl⟩) dX1_setWeight_9 (fun ty x h1 h2 => by cases h1) rfl
def fX10_weight (M : vM) (x1 : Int32) (x2 : Int32) : Option (vR × vM) := if x1 < 0 then rI 0 M else if 100 ≤ x1 then rI 0 M else if x2 < 0 then rI 0 M else if x2 ≤ 99 then bv (fX1_setWeight M 6 x1 x2) fun M9 => rI 1 M9 else rI 0 M
set_option maxRecDepth 20000 in
set_option maxHeartbeats 2000000 in
theorem cX10_weight_ok {l : Launch} {D : va_G} {dA : Nat → ClassId} (M : vM) (x1 : Int32) (x2 : Int32) (hI : v_WT M.2.2) : Ct l D dA sX10_weight false 175 3 0 0 175 [.ref 0, .int x1, .int x2] M (fX10_weight M x1 x2) := by
  refine Ct_of (lv := [(0, .ref 0), (1, .int x1), (2, .int x2)]) (by decide +kernel) rfl (Nat.le_of_ble_eq_true rfl) rfl (fun h => by cases h) ?_
  refine V_iload_n (k := 1) dX10_weight_0 rfl rfl ?_
  refine V_iflt (tgt := 20) dX10_weight_1 (by decide) (fun h5 => ?_) (fun h5 => ?_)
  · refine V_iconst (v := 0) dX10_weight_20 rfl ?_
    exact V_ret (fun _ => hI) (Or.inr (Or.inr (Or.inl ⟨rfl, _, rfl⟩))) dX10_weight_21 (fun ty x h1 h2 => by cases h1; cases h2; rfl) rfl
  · refine V_iload_n (k := 1) dX10_weight_4 rfl rfl ?_
    refine V_bipush (v := 100) dX10_weight_5 rfl ?_
    refine V_icmpge (tgt := 20) dX10_weight_7 (by decide) (fun h6 => ?_) (fun h6 => ?_)
    · refine V_iconst (v := 0) dX10_weight_20 rfl ?_
      exact V_ret (fun _ => hI) (Or.inr (Or.inr (Or.inl ⟨rfl, _, rfl⟩))) dX10_weight_21 (fun ty x h1 h2 => by cases h1; cases h2; rfl) rfl
    · refine V_iload_n (k := 2) dX10_weight_10 rfl rfl ?_
      refine V_iflt (tgt := 20) dX10_weight_11 (by decide) (fun h7 => ?_) (fun h7 => ?_)
      · refine V_iconst (v := 0) dX10_weight_20 rfl ?_
        exact V_ret (fun _ => hI) (Or.inr (Or.inr (Or.inl ⟨rfl, _, rfl⟩))) dX10_weight_21 (fun ty x h1 h2 => by cases h1; cases h2; rfl) rfl
      · refine V_iload_n (k := 2) dX10_weight_14 rfl rfl ?_
        refine V_bipush (v := 99) dX10_weight_15 rfl ?_
        refine V_icmple (tgt := 22) dX10_weight_17 (by decide) (fun h8 => ?_) (fun h8 => ?_)
        · refine V_aload_n (k := 0) dX10_weight_22 rfl rfl ?_
          refine V_getr (k := 6) dX10_weight_23 rfl (by decide) vf_X10_40 (by decide) (v_fin hI 4 rfl) ?_
          refine V_iload_n (k := 1) dX10_weight_26 rfl rfl ?_
          refine V_iload_n (k := 2) dX10_weight_27 rfl rfl ?_
          refine V_callVv (q := (RX1, TX1, 9)) (cls := 1) (st0 := []) (kc' := 0) (ks' := 0) dX10_weight_28 lk_X10_270 rfl (by decide) rfl rfl rfl (cX1_setWeight_ok M 6 x1 x2 (Or.inl rfl) hI) rfl rfl (by decide) (by decide) (Nat.le_of_ble_eq_true rfl) (Or.inl rfl) rfl rfl (by decide) (by decide) (fun  M9 e10 hI11 => ?_)
          refine V_iconst (v := 1) dX10_weight_31 rfl ?_
          exact V_ret (fun _ => hI11) (Or.inr (Or.inr (Or.inl ⟨rfl, _, rfl⟩))) dX10_weight_32 (fun ty x h1 h2 => by cases h1; cases h2; rfl) rfl
        · refine V_iconst (v := 0) dX10_weight_20 rfl ?_
          exact V_ret (fun _ => hI) (Or.inr (Or.inr (Or.inl ⟨rfl, _, rfl⟩))) dX10_weight_21 (fun ty x h1 h2 => by cases h1; cases h2; rfl) rfl
def fX1_bookedOf_4 : Nat → vM → Nat → Int32 → Int32 → Int32 → Option (vR × vM)
  | 0, _, _, _, _, _ => none
  | n9 + 1, M, x0, x1, x2, x3 => if (M.1 x0 0) ≤ x3 then rI x2 M else bi (fX1_bookWork M x0 x3) fun y4 M5 => if y4 = x1 then fX1_bookedOf_4 n9 M5 x0 x1 (x2 + 1) (x3 + 1) else fX1_bookedOf_4 n9 M5 x0 x1 x2 (x3 + 1)
set_option maxRecDepth 20000 in
set_option maxHeartbeats 2000000 in
theorem vX1_bookedOf_4 {l : Launch} {D : va_G} {dA : Nat → ClassId} : ∀ (n9 : Nat) (M : vM) (x0 : Nat) (x1 : Int32) (x2 : Int32) (x3 : Int32) (f0 : v_isG x0), v_WT M.2.2 → V l D dA sX1_bookedOf false 175 3 0 0 4 [(0, .ref x0), (1, .int x1), (2, .int x2), (3, .int x3)] [] 175 M (fX1_bookedOf_4 n9 M x0 x1 x2 x3) := by
  intro n9
  induction n9 with
  | zero => intros; exact V_none
  | succ n9 ih =>
    intro M x0 x1 x2 x3 f0 hI
    refine V_iload_n (k := 3) dX1_bookedOf_4 rfl rfl ?_
    refine V_aload_n (k := 0) dX1_bookedOf_5 rfl rfl ?_
    refine V_geti dX1_bookedOf_6 (v_LG f0).2.1 (v_LG f0).1 vf_X1_42 (by decide) ?_
    refine V_icmpge (tgt := 30) dX1_bookedOf_9 (by decide) (fun h3 => ?_) (fun h3 => ?_)
    · refine V_iload_n (k := 2) dX1_bookedOf_30 rfl rfl ?_
      exact V_ret (fun _ => hI) (Or.inr (Or.inl ⟨rfl, _, rfl⟩)) dX1_bookedOf_31 (fun ty x h1 h2 => by cases h1; rfl) rfl
    · refine V_aload_n (k := 0) dX1_bookedOf_12 rfl rfl ?_
      refine V_iload_n (k := 3) dX1_bookedOf_13 rfl rfl ?_
      refine V_callVi (q := (RX1, TX1, 9)) (cls := 1) (st0 := []) (kc' := 0) (ks' := 0) dX1_bookedOf_14 lk_X1_60 rfl (v_LG f0).1 (v_LG f0).2.1 rfl rfl (cX1_bookWork_ok M x0 x3 f0 hI) rfl rfl (by decide) (by decide) (Nat.le_of_ble_eq_true rfl) (Or.inl rfl) rfl rfl (by decide) (by decide) (fun y4 M5 e6 hI7 => ?_)
      refine V_iload_n (k := 1) dX1_bookedOf_17 rfl rfl ?_
      refine V_icmpne (tgt := 24) dX1_bookedOf_18 (by decide) (fun h8 => ?_) (fun h8 => ?_)
      · refine V_iinc (k := 3) (v := x3 + 1) (lv' := [(3, .int (x3 + 1)), (0, .ref x0), (1, .int x1), (2, .int x2)]) dX1_bookedOf_24 rfl rfl (by decide) rfl ?_
        refine V_goto (tgt := 4) dX1_bookedOf_27 (by decide) ?_
        refine V_sub [1, 2, 3, 0] rfl ?_
        exact ih M5 x0 x1 x2 (x3 + 1) f0 hI7
      · refine V_iinc (k := 2) (v := x2 + 1) (lv' := [(2, .int (x2 + 1)), (0, .ref x0), (1, .int x1), (3, .int x3)]) dX1_bookedOf_21 rfl rfl (by decide) rfl ?_
        refine V_iinc (k := 3) (v := x3 + 1) (lv' := [(3, .int (x3 + 1)), (2, .int (x2 + 1)), (0, .ref x0), (1, .int x1)]) dX1_bookedOf_24 rfl rfl (by decide) rfl ?_
        refine V_goto (tgt := 4) dX1_bookedOf_27 (by decide) ?_
        refine V_sub [2, 3, 1, 0] rfl ?_
        exact ih M5 x0 x1 (x2 + 1) (x3 + 1) f0 hI7
def fX1_bookedOf (M : vM) (x0 : Nat) (x1 : Int32) : Option (vR × vM) := fX1_bookedOf_4 FU M x0 x1 0 0
set_option maxRecDepth 20000 in
set_option maxHeartbeats 2000000 in
theorem cX1_bookedOf_ok {l : Launch} {D : va_G} {dA : Nat → ClassId} (M : vM) (x0 : Nat) (x1 : Int32) (f0 : v_isG x0) (hI : v_WT M.2.2) : Ct l D dA sX1_bookedOf false 175 3 0 0 175 [.ref x0, .int x1] M (fX1_bookedOf M x0 x1) := by
  refine Ct_of (lv := [(0, .ref x0), (1, .int x1)]) (by decide +kernel) rfl (Nat.le_of_ble_eq_true rfl) rfl (fun h => by cases h) ?_
  refine V_iconst (v := 0) dX1_bookedOf_0 rfl ?_
  refine V_istore_n (lv' := [(2, .int 0), (0, .ref x0), (1, .int x1)]) dX1_bookedOf_1 rfl (by decide) rfl ?_
  refine V_iconst (v := 0) dX1_bookedOf_2 rfl ?_
  refine V_istore_n (lv' := [(3, .int 0), (2, .int 0), (0, .ref x0), (1, .int x1)]) dX1_bookedOf_3 rfl (by decide) rfl ?_
  refine V_sub [2, 3, 1, 0] rfl ?_
  exact vX1_bookedOf_4 FU M x0 x1 0 0 f0 hI
def fX10_work (M : vM) (x1 : Int32) (x2 : Int32) : Option (vR × vM) := br (fX10_workOf M x1) fun y11 M12 => if x2 = 0 then rI (M12.1 (M12.2.2 y11 0 - 1) 0) M12 else if x2 = 1 then rI (M12.1 y11 1) M12 else if x2 = 2 then rI (M12.1 (M12.2.2 y11 0 - 1) 2) M12 else if x2 = 3 then rI (M12.1 (M12.2.2 y11 0 - 1) 3) M12 else if x2 = 4 then rI (M12.1 (M12.2.2 y11 0 - 1) 4) M12 else if x2 = 5 then rI (M12.1 y11 2) M12 else if x2 = 6 then bi (fX1_bookedOf M12 6 x1) fun y22 M23 => rI y22 M23 else if x2 = 7 then rI (M12.1 (M12.2.2 y11 0 - 1) 6) M12 else if x2 = 8 then bi (fX1_toldOf M12 6 x1) fun y28 M29 => rI y28 M29 else if x2 = 9 then bi (fX1_peopleOf M12 6 x1) fun y33 M34 => rI y33 M34 else rT 1 M12
set_option maxRecDepth 20000 in
set_option maxHeartbeats 2000000 in
theorem cX10_work_ok {l : Launch} {D : va_G} {dA : Nat → ClassId} (hT : l.stackTraces = false) (M : vM) (x1 : Int32) (x2 : Int32) (hI : v_WT M.2.2) : Ct l D dA sX10_work false 175 7 2 12 175 [.ref 0, .int x1, .int x2] M (fX10_work M x1 x2) := by
  refine Ct_of (lv := [(0, .ref 0), (1, .int x1), (2, .int x2)]) (by decide +kernel) rfl (Nat.le_of_ble_eq_true rfl) rfl (fun h => by cases h) ?_
  refine V_aload_n (k := 0) dX10_work_0 rfl rfl ?_
  refine V_iload_n (k := 1) dX10_work_1 rfl rfl ?_
  refine V_callVr (q := (RX10, TX10, 15)) (cls := 10) (st0 := []) (kc' := 1) (ks' := 6) dX10_work_2 lk_X10_158 rfl (by decide) rfl rfl rfl (cX10_workOf_ok hT M x1 hI) rfl rfl (by decide) (by decide) (Nat.le_of_ble_eq_true rfl) (Or.inl rfl) rfl rfl (by decide) (by decide) (fun y11 M12 e13 hI14 => ?_)
  have wy11 := wX10_workOf_ret e13
  refine V_astore_n (lv' := [(3, .ref y11), (0, .ref 0), (1, .int x1), (2, .int x2)]) dX10_work_5 rfl (by decide) rfl ?_
  refine V_iload_n (k := 3) dX10_work_6 rfl rfl ?_
  refine V_tcase (k := 0) (tgt := 60) dX10_work_7 (by decide) (by decide) rfl (by decide) (fun h15 => ?_) (fun h15 => ?_)
  · refine V_aload_n (k := 0) dX10_work_60 rfl rfl ?_
    refine V_getr (k := M12.2.2 y11 0 - 1) dX10_work_61 (v_LW wy11).2.1 (v_LW wy11).1 vf_X10_132 (by decide) (v_pln hI14 wy11) ?_
    refine V_geti dX10_work_64 (v_LP (v_plnP hI14 wy11)).2.1 (v_LP (v_plnP hI14 wy11)).1 vf_X10_162 (by decide) ?_
    exact V_ret (fun _ => hI14) (Or.inr (Or.inl ⟨rfl, _, rfl⟩)) dX10_work_67 (fun ty x h1 h2 => by cases h1; rfl) rfl
  refine V_tcase (k := 1) (tgt := 68) dX10_work_7 (by decide) (by decide) rfl (by decide) (fun h16 => ?_) (fun h16 => ?_)
  · refine V_aload_n (k := 0) dX10_work_68 rfl rfl ?_
    refine V_geti dX10_work_69 (v_LW wy11).2.1 (v_LW wy11).1 vf_X10_165 (by decide) ?_
    exact V_ret (fun _ => hI14) (Or.inr (Or.inl ⟨rfl, _, rfl⟩)) dX10_work_72 (fun ty x h1 h2 => by cases h1; rfl) rfl
  refine V_tcase (k := 2) (tgt := 73) dX10_work_7 (by decide) (by decide) rfl (by decide) (fun h17 => ?_) (fun h17 => ?_)
  · refine V_aload_n (k := 0) dX10_work_73 rfl rfl ?_
    refine V_getr (k := M12.2.2 y11 0 - 1) dX10_work_74 (v_LW wy11).2.1 (v_LW wy11).1 vf_X10_132 (by decide) (v_pln hI14 wy11) ?_
    refine V_geti dX10_work_77 (v_LP (v_plnP hI14 wy11)).2.1 (v_LP (v_plnP hI14 wy11)).1 vf_X10_168 (by decide) ?_
    exact V_ret (fun _ => hI14) (Or.inr (Or.inl ⟨rfl, _, rfl⟩)) dX10_work_80 (fun ty x h1 h2 => by cases h1; rfl) rfl
  refine V_tcase (k := 3) (tgt := 81) dX10_work_7 (by decide) (by decide) rfl (by decide) (fun h18 => ?_) (fun h18 => ?_)
  · refine V_aload_n (k := 0) dX10_work_81 rfl rfl ?_
    refine V_getr (k := M12.2.2 y11 0 - 1) dX10_work_82 (v_LW wy11).2.1 (v_LW wy11).1 vf_X10_132 (by decide) (v_pln hI14 wy11) ?_
    refine V_geti dX10_work_85 (v_LP (v_plnP hI14 wy11)).2.1 (v_LP (v_plnP hI14 wy11)).1 vf_X10_171 (by decide) ?_
    exact V_ret (fun _ => hI14) (Or.inr (Or.inl ⟨rfl, _, rfl⟩)) dX10_work_88 (fun ty x h1 h2 => by cases h1; rfl) rfl
  refine V_tcase (k := 4) (tgt := 89) dX10_work_7 (by decide) (by decide) rfl (by decide) (fun h19 => ?_) (fun h19 => ?_)
  · refine V_aload_n (k := 0) dX10_work_89 rfl rfl ?_
    refine V_getr (k := M12.2.2 y11 0 - 1) dX10_work_90 (v_LW wy11).2.1 (v_LW wy11).1 vf_X10_132 (by decide) (v_pln hI14 wy11) ?_
    refine V_geti dX10_work_93 (v_LP (v_plnP hI14 wy11)).2.1 (v_LP (v_plnP hI14 wy11)).1 vf_X10_174 (by decide) ?_
    exact V_ret (fun _ => hI14) (Or.inr (Or.inl ⟨rfl, _, rfl⟩)) dX10_work_96 (fun ty x h1 h2 => by cases h1; rfl) rfl
  refine V_tcase (k := 5) (tgt := 97) dX10_work_7 (by decide) (by decide) rfl (by decide) (fun h20 => ?_) (fun h20 => ?_)
  · refine V_aload_n (k := 0) dX10_work_97 rfl rfl ?_
    refine V_geti dX10_work_98 (v_LW wy11).2.1 (v_LW wy11).1 vf_X10_177 (by decide) ?_
    exact V_ret (fun _ => hI14) (Or.inr (Or.inl ⟨rfl, _, rfl⟩)) dX10_work_101 (fun ty x h1 h2 => by cases h1; rfl) rfl
  refine V_tcase (k := 6) (tgt := 102) dX10_work_7 (by decide) (by decide) rfl (by decide) (fun h21 => ?_) (fun h21 => ?_)
  · refine V_aload_n (k := 1) dX10_work_102 rfl rfl ?_
    refine V_getr (k := 6) dX10_work_103 rfl (by decide) vf_X10_40 (by decide) (v_fin hI14 4 rfl) ?_
    refine V_iload_n (k := 2) dX10_work_106 rfl rfl ?_
    refine V_callVi (q := (RX1, TX1, 9)) (cls := 1) (st0 := []) (kc' := 1) (ks' := 6) dX10_work_107 lk_X10_180 rfl (by decide) rfl rfl rfl (cX1_bookedOf_ok M12 6 x1 (Or.inl rfl) hI14) rfl rfl (by decide) (by decide) (Nat.le_of_ble_eq_true rfl) (Or.inl rfl) rfl rfl (by decide) (by decide) (fun y22 M23 e24 hI25 => ?_)
    exact V_ret (fun _ => hI25) (Or.inr (Or.inl ⟨rfl, _, rfl⟩)) dX10_work_110 (fun ty x h1 h2 => by cases h1; rfl) rfl
  refine V_tcase (k := 7) (tgt := 111) dX10_work_7 (by decide) (by decide) rfl (by decide) (fun h26 => ?_) (fun h26 => ?_)
  · refine V_aload_n (k := 0) dX10_work_111 rfl rfl ?_
    refine V_getr (k := M12.2.2 y11 0 - 1) dX10_work_112 (v_LW wy11).2.1 (v_LW wy11).1 vf_X10_132 (by decide) (v_pln hI14 wy11) ?_
    refine V_geti dX10_work_115 (v_LP (v_plnP hI14 wy11)).2.1 (v_LP (v_plnP hI14 wy11)).1 vf_X10_183 (by decide) ?_
    exact V_ret (fun _ => hI14) (Or.inr (Or.inl ⟨rfl, _, rfl⟩)) dX10_work_118 (fun ty x h1 h2 => by cases h1; rfl) rfl
  refine V_tcase (k := 8) (tgt := 119) dX10_work_7 (by decide) (by decide) rfl (by decide) (fun h27 => ?_) (fun h27 => ?_)
  · refine V_aload_n (k := 1) dX10_work_119 rfl rfl ?_
    refine V_getr (k := 6) dX10_work_120 rfl (by decide) vf_X10_40 (by decide) (v_fin hI14 4 rfl) ?_
    refine V_iload_n (k := 2) dX10_work_123 rfl rfl ?_
    refine V_callVi (q := (RX1, TX1, 9)) (cls := 1) (st0 := []) (kc' := 1) (ks' := 6) dX10_work_124 lk_X10_186 rfl (by decide) rfl rfl rfl (cX1_toldOf_ok M12 6 x1 (Or.inl rfl) hI14) rfl rfl (by decide) (by decide) (Nat.le_of_ble_eq_true rfl) (Or.inl rfl) rfl rfl (by decide) (by decide) (fun y28 M29 e30 hI31 => ?_)
    exact V_ret (fun _ => hI31) (Or.inr (Or.inl ⟨rfl, _, rfl⟩)) dX10_work_127 (fun ty x h1 h2 => by cases h1; rfl) rfl
  refine V_tcase (k := 9) (tgt := 128) dX10_work_7 (by decide) (by decide) rfl (by decide) (fun h32 => ?_) (fun h32 => ?_)
  · refine V_aload_n (k := 1) dX10_work_128 rfl rfl ?_
    refine V_getr (k := 6) dX10_work_129 rfl (by decide) vf_X10_40 (by decide) (v_fin hI14 4 rfl) ?_
    refine V_iload_n (k := 2) dX10_work_132 rfl rfl ?_
    refine V_callVi (q := (RX1, TX1, 9)) (cls := 1) (st0 := []) (kc' := 1) (ks' := 6) dX10_work_133 lk_X10_189 rfl (by decide) rfl rfl rfl (cX1_peopleOf_ok M12 6 x1 (Or.inl rfl) hI14) rfl rfl (by decide) (by decide) (Nat.le_of_ble_eq_true rfl) (Or.inl rfl) rfl rfl (by decide) (by decide) (fun y33 M34 e35 hI36 => ?_)
    exact V_ret (fun _ => hI36) (Or.inr (Or.inl ⟨rfl, _, rfl⟩)) dX10_work_136 (fun ty x h1 h2 => by cases h1; rfl) rfl
  refine V_tdef (tgt := 137) dX10_work_7 (v_tout (m := 9) (by decide) (lt_s (lt_s (lt_s (lt_s (lt_s (lt_s (lt_s (lt_s (lt_s (lt_s lt_0 h15) h16) h17) h18) h19) h20) h21) h26) h27) h32)) (by decide) ?_
  exact V_throwN (sid := 18) (text := "no such what") (fun _ => hI14) hT rfl (by decide +kernel) dX10_work_137 dX10_work_140 dX10_work_141 dX10_work_143 dX10_work_146 rfl (by decide) (by decide) (by decide) (Nat.le_of_ble_eq_true rfl)
def fX1_weightOf (M : vM) (x0 : Nat) (x1 : Int32) : Option (vR × vM) := bi (fX10_at M (x0 + 7) x1) fun y1 M2 => rI y1 M2
set_option maxRecDepth 20000 in
set_option maxHeartbeats 2000000 in
theorem cX1_weightOf_ok {l : Launch} {D : va_G} {dA : Nat → ClassId} (M : vM) (x0 : Nat) (x1 : Int32) (f0 : v_isG x0) (hI : v_WT M.2.2) : Ct l D dA sX1_weightOf false 175 2 0 0 175 [.ref x0, .int x1] M (fX1_weightOf M x0 x1) := by
  refine Ct_of (lv := [(0, .ref x0), (1, .int x1)]) (by decide +kernel) rfl (Nat.le_of_ble_eq_true rfl) rfl (fun h => by cases h) ?_
  refine V_aload_n (k := 0) dX1_weightOf_0 rfl rfl ?_
  refine V_getr (k := x0 + 7) dX1_weightOf_1 (v_LG f0).2.1 (v_LG f0).1 vf_X1_30 (by decide) (v_finG hI f0).2.2.2.2.2.2.1 ?_
  refine V_iload_n (k := 1) dX1_weightOf_4 rfl rfl ?_
  refine V_callSi (st0 := []) (kc' := 0) (ks' := 0) dX1_weightOf_5 lk_X1_52 rfl (cX10_at_ok M (x0 + 7) x1 (v_isA_of (v_LG f0).2.2.2.2.2.2.2.2.2.1 (v_LG f0).2.2.1.2.2.2.2.2.2.1) hI) rfl rfl (by decide) (by decide) (Nat.le_of_ble_eq_true rfl) (Or.inl rfl) rfl rfl (by decide) (by decide) (fun y1 M2 e3 hI4 => ?_)
  exact V_ret (fun _ => hI4) (Or.inr (Or.inl ⟨rfl, _, rfl⟩)) dX1_weightOf_8 (fun ty x h1 h2 => by cases h1; rfl) rfl
def fX0_countWeights_10 : Nat → vM → Nat → Int32 → Int32 → Option (vR × vM)
  | 0, _, _, _, _ => none
  | n9 + 1, M, x1, x2, x3 => if x2 ≤ x3 then rV M else bi (fX1_weightOf M x1 x3) fun y3 M4 => bi (fX10_at M4 33 y3) fun y7 M8 => bv (fX10_put M8 33 y3 (y7 + 1)) fun M11 => fX0_countWeights_10 n9 M11 x1 x2 (x3 + 1)
set_option maxRecDepth 20000 in
set_option maxHeartbeats 2000000 in
theorem vX0_countWeights_10 {l : Launch} {D : va_G} {dA : Nat → ClassId} : ∀ (n9 : Nat) (M : vM) (x1 : Nat) (x2 : Int32) (x3 : Int32) (f1 : v_isG x1), v_WT M.2.2 → V l D dA sX0_countWeights false 175 3 0 0 10 [(0, .ref 32), (1, .ref x1), (2, .int x2), (3, .int x3)] [] 175 M (fX0_countWeights_10 n9 M x1 x2 x3) := by
  intro n9
  induction n9 with
  | zero => intros; exact V_none
  | succ n9 ih =>
    intro M x1 x2 x3 f1 hI
    refine V_iload_n (k := 3) dX0_countWeights_10 rfl rfl ?_
    refine V_iload_n (k := 2) dX0_countWeights_11 rfl rfl ?_
    refine V_icmpge (tgt := 48) dX0_countWeights_12 (by decide) (fun h2 => ?_) (fun h2 => ?_)
    · exact V_ret (fun _ => hI) (Or.inl ⟨rfl, rfl⟩) dX0_countWeights_48 (fun ty x h1 h2 => by cases h1) rfl
    · refine V_aload_n (k := 1) dX0_countWeights_15 rfl rfl ?_
      refine V_iload_n (k := 3) dX0_countWeights_16 rfl rfl ?_
      refine V_callVi (q := (RX1, TX1, 9)) (cls := 1) (st0 := []) (kc' := 0) (ks' := 0) dX0_countWeights_17 lk_X0_21 rfl (v_LG f1).1 (v_LG f1).2.1 rfl rfl (cX1_weightOf_ok M x1 x3 f1 hI) rfl rfl (by decide) (by decide) (Nat.le_of_ble_eq_true rfl) (Or.inl rfl) rfl rfl (by decide) (by decide) (fun y3 M4 e5 hI6 => ?_)
      refine V_istore (lv' := [(4, .int y3), (0, .ref 32), (1, .ref x1), (2, .int x2), (3, .int x3)]) dX0_countWeights_20 (by decide) rfl ?_
      refine V_aload_n (k := 1) dX0_countWeights_22 rfl rfl ?_
      refine V_getr (k := 33) dX0_countWeights_23 rfl (by decide) vf_X0_9 (by decide) (v_fin hI6 42 rfl) ?_
      refine V_iload (k := 0) dX0_countWeights_26 rfl ?_
      refine V_aload_n (k := 1) dX0_countWeights_28 rfl rfl ?_
      refine V_getr (k := 33) dX0_countWeights_29 rfl (by decide) vf_X0_9 (by decide) (v_fin hI6 42 rfl) ?_
      refine V_iload (k := 0) dX0_countWeights_32 rfl ?_
      refine V_callSi (st0 := [.int y3, .ref 33]) (kc' := 0) (ks' := 0) dX0_countWeights_34 lk_X0_27 rfl (cX10_at_ok M4 33 y3 (v_isA_of (by decide) rfl) hI6) rfl rfl (by decide) (by decide) (Nat.le_of_ble_eq_true rfl) (Or.inl rfl) rfl rfl (by decide) (by decide) (fun y7 M8 e9 hI10 => ?_)
      refine V_iconst (v := 1) dX0_countWeights_37 rfl ?_
      refine V_iadd dX0_countWeights_38 ?_
      refine V_callSv (st0 := []) (kc' := 0) (ks' := 0) dX0_countWeights_39 lk_X0_31 rfl (cX10_put_ok M8 33 y3 (y7 + 1) (v_isA_of (by decide) rfl) hI10) rfl rfl (by decide) (by decide) (Nat.le_of_ble_eq_true rfl) (Or.inl rfl) rfl rfl (by decide) (by decide) (fun  M11 e12 hI13 => ?_)
      refine V_iinc (k := 4) (v := x3 + 1) (lv' := [(3, .int (x3 + 1)), (4, .int y3), (0, .ref 32), (1, .ref x1), (2, .int x2)]) dX0_countWeights_42 rfl rfl (by decide) rfl ?_
      refine V_goto (tgt := 10) dX0_countWeights_45 (by decide) ?_
      refine V_sub [2, 3, 4, 0] rfl ?_
      exact ih M11 x1 x2 (x3 + 1) f1 hI13
def fX0_countWeights (M : vM) (x1 : Nat) (x2 : Int32) : Option (vR × vM) := bv (fJ7_fill_53178 M 33 0) fun M14 => fX0_countWeights_10 FU M14 x1 x2 0
set_option maxRecDepth 20000 in
set_option maxHeartbeats 2000000 in
theorem cX0_countWeights_ok {l : Launch} {D : va_G} {dA : Nat → ClassId} (M : vM) (x1 : Nat) (x2 : Int32) (f1 : v_isG x1) (hI : v_WT M.2.2) : Ct l D dA sX0_countWeights false 175 3 0 0 175 [.ref 32, .ref x1, .int x2] M (fX0_countWeights M x1 x2) := by
  refine Ct_of (lv := [(0, .ref 32), (1, .ref x1), (2, .int x2)]) (by decide +kernel) rfl (Nat.le_of_ble_eq_true rfl) rfl (fun h => by cases h) ?_
  refine V_aload_n (k := 0) dX0_countWeights_0 rfl rfl ?_
  refine V_getr (k := 33) dX0_countWeights_1 rfl (by decide) vf_X0_9 (by decide) (v_fin hI 42 rfl) ?_
  refine V_iconst (v := 0) dX0_countWeights_4 rfl ?_
  refine V_callSv (st0 := []) (kc' := 0) (ks' := 0) dX0_countWeights_5 lk_X0_15 rfl (cJ7_fill_53178_ok M 33 0 (v_isA_of (by decide) rfl) hI) rfl rfl (by decide) (by decide) (Nat.le_of_ble_eq_true rfl) (Or.inl rfl) rfl rfl (by decide) (by decide) (fun  M14 e15 hI16 => ?_)
  refine V_iconst (v := 0) dX0_countWeights_8 rfl ?_
  refine V_istore_n (lv' := [(3, .int 0), (0, .ref 32), (1, .ref x1), (2, .int x2)]) dX0_countWeights_9 rfl (by decide) rfl ?_
  refine V_sub [1, 2, 3, 0] rfl ?_
  exact vX0_countWeights_10 FU M14 x1 x2 0 f1 hI16
def fX0_leastCost_29 (k13 : vM → Nat → Int32 → Int32 → Int32 → Option (vR × vM)) : Nat → vM → Nat → Int32 → Int32 → Int32 → Int32 → Option (vR × vM)
  | 0, _, _, _, _, _, _ => none
  | n9 + 1, M, x1, x3, x4, x5, x6 => if x6 ≤ 0 then k13 M x1 x3 x4 (x5 + (-1)) else if x4 = ((-1)) then k13 M x1 x3 x4 (x5 + (-1)) else bi (fX9_costOf M x1 x4) fun y6 M7 => bi (fX9_nextUnspent M7 x1 (x4 + 1)) fun y10 M11 => fX0_leastCost_29 k13 n9 M11 x1 (x3 + (x5 * y6)) y10 x5 (x6 + (-1))
set_option maxRecDepth 20000 in
set_option maxHeartbeats 2000000 in
theorem vX0_leastCost_29 {l : Launch} {D : va_G} {dA : Nat → ClassId} {k13 : vM → Nat → Int32 → Int32 → Int32 → Option (vR × vM)} (hk13 : ∀ (M : vM) (x1 : Nat) (x3 : Int32) (x4 : Int32) (x5 : Int32) (f1 : v_isW x1), v_WT M.2.2 → V l D dA sX0_leastCost false 175 4 0 0 13 [(0, .ref 32), (1, .ref x1), (3, .int x3), (4, .int x4), (5, .int x5)] [] 175 M (k13 M x1 x3 x4 x5)) : ∀ (n9 : Nat) (M : vM) (x1 : Nat) (x3 : Int32) (x4 : Int32) (x5 : Int32) (x6 : Int32) (f1 : v_isW x1), v_WT M.2.2 → V l D dA sX0_leastCost false 175 4 0 0 29 [(0, .ref 32), (1, .ref x1), (3, .int x3), (4, .int x4), (5, .int x5), (6, .int x6)] [] 175 M (fX0_leastCost_29 k13 n9 M x1 x3 x4 x5 x6) := by
  intro n9
  induction n9 with
  | zero => intros; exact V_none
  | succ n9 ih =>
    intro M x1 x3 x4 x5 x6 f1 hI
    refine V_iload (k := 5) dX0_leastCost_29 rfl ?_
    refine V_ifle (tgt := 68) dX0_leastCost_31 (by decide) (fun h4 => ?_) (fun h4 => ?_)
    · refine V_iinc (k := 4) (v := x5 + (-1)) (lv' := [(5, .int (x5 + (-1))), (0, .ref 32), (1, .ref x1), (3, .int x3), (4, .int x4), (6, .int x6)]) dX0_leastCost_68 rfl rfl (by decide) rfl ?_
      refine V_goto (tgt := 13) dX0_leastCost_71 (by decide) ?_
      refine V_sub [1, 2, 3, 4, 0] rfl ?_
      exact hk13 M x1 x3 x4 (x5 + (-1)) f1 hI
    · refine V_iload (k := 3) dX0_leastCost_34 rfl ?_
      refine V_iconst (v := (-1)) dX0_leastCost_36 rfl ?_
      refine V_icmpeq (tgt := 68) dX0_leastCost_37 (by decide) (fun h5 => ?_) (fun h5 => ?_)
      · refine V_iinc (k := 4) (v := x5 + (-1)) (lv' := [(5, .int (x5 + (-1))), (0, .ref 32), (1, .ref x1), (3, .int x3), (4, .int x4), (6, .int x6)]) dX0_leastCost_68 rfl rfl (by decide) rfl ?_
        refine V_goto (tgt := 13) dX0_leastCost_71 (by decide) ?_
        refine V_sub [1, 2, 3, 4, 0] rfl ?_
        exact hk13 M x1 x3 x4 (x5 + (-1)) f1 hI
      · refine V_iload_n (k := 2) dX0_leastCost_40 rfl rfl ?_
        refine V_iload (k := 4) dX0_leastCost_41 rfl ?_
        refine V_aload_n (k := 1) dX0_leastCost_43 rfl rfl ?_
        refine V_iload (k := 3) dX0_leastCost_44 rfl ?_
        refine V_callVi (q := (RX9, TX9, 6)) (cls := 9) (st0 := [.int x5, .int x3]) (kc' := 0) (ks' := 0) dX0_leastCost_46 lk_X0_40 rfl (v_LW f1).1 (v_LW f1).2.1 rfl rfl (cX9_costOf_ok M x1 x4 f1 hI) rfl rfl (by decide) (by decide) (Nat.le_of_ble_eq_true rfl) (Or.inl rfl) rfl rfl (by decide) (by decide) (fun y6 M7 e8 hI9 => ?_)
        refine V_imul dX0_leastCost_49 ?_
        refine V_iadd dX0_leastCost_50 ?_
        refine V_istore_n (lv' := [(3, .int (x3 + (x5 * y6))), (0, .ref 32), (1, .ref x1), (4, .int x4), (5, .int x5), (6, .int x6)]) dX0_leastCost_51 rfl (by decide) rfl ?_
        refine V_aload_n (k := 2) dX0_leastCost_52 rfl rfl ?_
        refine V_iload (k := 3) dX0_leastCost_53 rfl ?_
        refine V_iconst (v := 1) dX0_leastCost_55 rfl ?_
        refine V_iadd dX0_leastCost_56 ?_
        refine V_callVi (q := (RX9, TX9, 6)) (cls := 9) (st0 := []) (kc' := 0) (ks' := 0) dX0_leastCost_57 lk_X0_43 rfl (v_LW f1).1 (v_LW f1).2.1 rfl rfl (cX9_nextUnspent_ok M7 x1 (x4 + 1) f1 hI9) rfl rfl (by decide) (by decide) (Nat.le_of_ble_eq_true rfl) (Or.inl rfl) rfl rfl (by decide) (by decide) (fun y10 M11 e12 hI13 => ?_)
        refine V_istore (lv' := [(4, .int y10), (3, .int (x3 + (x5 * y6))), (0, .ref 32), (1, .ref x1), (5, .int x5), (6, .int x6)]) dX0_leastCost_60 (by decide) rfl ?_
        refine V_iinc (k := 5) (v := x6 + (-1)) (lv' := [(6, .int (x6 + (-1))), (4, .int y10), (3, .int (x3 + (x5 * y6))), (0, .ref 32), (1, .ref x1), (5, .int x5)]) dX0_leastCost_62 rfl rfl (by decide) rfl ?_
        refine V_goto (tgt := 29) dX0_leastCost_65 (by decide) ?_
        refine V_sub [3, 4, 2, 1, 5, 0] rfl ?_
        exact ih M11 x1 (x3 + (x5 * y6)) y10 x5 (x6 + (-1)) f1 hI13
def fX0_leastCost_13 : Nat → vM → Nat → Int32 → Int32 → Int32 → Option (vR × vM)
  | 0, _, _, _, _, _ => none
  | n9 + 1, M, x1, x3, x4, x5 => if x5 < 0 then rI x3 M else bi (fX10_at M 33 x5) fun y15 M16 => fX0_leastCost_29 (fX0_leastCost_13 n9) FU M16 x1 x3 x4 x5 y15
set_option maxRecDepth 20000 in
set_option maxHeartbeats 2000000 in
theorem vX0_leastCost_13 {l : Launch} {D : va_G} {dA : Nat → ClassId} : ∀ (n9 : Nat) (M : vM) (x1 : Nat) (x3 : Int32) (x4 : Int32) (x5 : Int32) (f1 : v_isW x1), v_WT M.2.2 → V l D dA sX0_leastCost false 175 4 0 0 13 [(0, .ref 32), (1, .ref x1), (3, .int x3), (4, .int x4), (5, .int x5)] [] 175 M (fX0_leastCost_13 n9 M x1 x3 x4 x5) := by
  intro n9
  induction n9 with
  | zero => intros; exact V_none
  | succ n9 ih =>
    intro M x1 x3 x4 x5 f1 hI
    refine V_iload (k := 4) dX0_leastCost_13 rfl ?_
    refine V_iflt (tgt := 74) dX0_leastCost_15 (by decide) (fun h14 => ?_) (fun h14 => ?_)
    · refine V_iload_n (k := 2) dX0_leastCost_74 rfl rfl ?_
      exact V_ret (fun _ => hI) (Or.inr (Or.inl ⟨rfl, _, rfl⟩)) dX0_leastCost_75 (fun ty x h1 h2 => by cases h1; rfl) rfl
    · refine V_aload_n (k := 0) dX0_leastCost_18 rfl rfl ?_
      refine V_getr (k := 33) dX0_leastCost_19 rfl (by decide) vf_X0_9 (by decide) (v_fin hI 42 rfl) ?_
      refine V_iload (k := 4) dX0_leastCost_22 rfl ?_
      refine V_callSi (st0 := []) (kc' := 0) (ks' := 0) dX0_leastCost_24 lk_X0_27 rfl (cX10_at_ok M 33 x5 (v_isA_of (by decide) rfl) hI) rfl rfl (by decide) (by decide) (Nat.le_of_ble_eq_true rfl) (Or.inl rfl) rfl rfl (by decide) (by decide) (fun y15 M16 e17 hI18 => ?_)
      refine V_istore (lv' := [(6, .int y15), (0, .ref 32), (1, .ref x1), (3, .int x3), (4, .int x4), (5, .int x5)]) dX0_leastCost_27 (by decide) rfl ?_
      refine V_sub [1, 2, 3, 4, 5, 0] rfl ?_
      exact vX0_leastCost_29 (ih) FU M16 x1 x3 x4 x5 y15 f1 hI18
def fX0_leastCost (M : vM) (x1 : Nat) (x2 : Int32) : Option (vR × vM) := bi (fX9_unspentAt M x1 x2) fun y19 M20 => fX0_leastCost_13 FU M20 x1 0 y19 99
set_option maxRecDepth 20000 in
set_option maxHeartbeats 2000000 in
theorem cX0_leastCost_ok {l : Launch} {D : va_G} {dA : Nat → ClassId} (M : vM) (x1 : Nat) (x2 : Int32) (f1 : v_isW x1) (hI : v_WT M.2.2) : Ct l D dA sX0_leastCost false 175 4 0 0 175 [.ref 32, .ref x1, .int x2] M (fX0_leastCost M x1 x2) := by
  refine Ct_of (lv := [(0, .ref 32), (1, .ref x1), (2, .int x2)]) (by decide +kernel) rfl (Nat.le_of_ble_eq_true rfl) rfl (fun h => by cases h) ?_
  refine V_iconst (v := 0) dX0_leastCost_0 rfl ?_
  refine V_istore_n (lv' := [(3, .int 0), (0, .ref 32), (1, .ref x1), (2, .int x2)]) dX0_leastCost_1 rfl (by decide) rfl ?_
  refine V_aload_n (k := 2) dX0_leastCost_2 rfl rfl ?_
  refine V_iload_n (k := 3) dX0_leastCost_3 rfl rfl ?_
  refine V_callVi (q := (RX9, TX9, 6)) (cls := 9) (st0 := []) (kc' := 0) (ks' := 0) dX0_leastCost_4 lk_X0_35 rfl (v_LW f1).1 (v_LW f1).2.1 rfl rfl (cX9_unspentAt_ok M x1 x2 f1 hI) rfl rfl (by decide) (by decide) (Nat.le_of_ble_eq_true rfl) (Or.inl rfl) rfl rfl (by decide) (by decide) (fun y19 M20 e21 hI22 => ?_)
  refine V_istore (lv' := [(4, .int y19), (3, .int 0), (0, .ref 32), (1, .ref x1), (2, .int x2)]) dX0_leastCost_7 (by decide) rfl ?_
  refine V_bipush (v := 99) dX0_leastCost_9 rfl ?_
  refine V_istore (lv' := [(5, .int 99), (4, .int y19), (3, .int 0), (0, .ref 32), (1, .ref x1), (2, .int x2)]) dX0_leastCost_11 (by decide) rfl ?_
  refine V_sub [3, 4, 2, 1, 0] rfl ?_
  exact vX0_leastCost_13 FU M20 x1 0 y19 99 f1 hI22
def fX10_years_28 (M : vM) (x2 : Int32) (x3 : Int32) (x4 : Nat) (s0 : Int32) : Option (vR × vM) := if x2 ≤ ((M.1 x4 2) - s0) then bv (fX0_countWeights M 6 x2) fun M5 => bi (fX0_leastCost M5 x4 0) fun y8 M9 => if x3 = 0 then rI y8 M9 else bi (fX0_leastCost M9 x4 s0) fun y13 M14 => rI (y13 - y8) M14 else rI ((-1)) M
set_option maxRecDepth 20000 in
set_option maxHeartbeats 2000000 in
theorem vX10_years_28 {l : Launch} {D : va_G} {dA : Nat → ClassId} (hT : l.stackTraces = false) : ∀ (M : vM) (x2 : Int32) (x3 : Int32) (x4 : Nat) (s0 : Int32) (f4 : v_isW x4), v_WT M.2.2 → V l D dA sX10_years false 175 7 0 0 28 [(0, .ref 0), (2, .int x2), (3, .int x3), (4, .ref x4)] [.int s0] 175 M (fX10_years_28 M x2 x3 x4 s0) := by
  intro M x2 x3 x4 s0 f4 hI
  refine V_istore (lv' := [(5, .int s0), (0, .ref 0), (2, .int x2), (3, .int x3), (4, .ref x4)]) dX10_years_28 (by decide) rfl ?_
  refine V_aload (k := 4) dX10_years_30 rfl ?_
  refine V_geti dX10_years_32 (v_LW f4).2.1 (v_LW f4).1 vf_X10_177 (by decide) ?_
  refine V_iload (k := 0) dX10_years_35 rfl ?_
  refine V_isub dX10_years_37 ?_
  refine V_iload_n (k := 2) dX10_years_38 rfl rfl ?_
  refine V_icmpge (tgt := 44) dX10_years_39 (by decide) (fun h4 => ?_) (fun h4 => ?_)
  · refine V_aload_n (k := 1) dX10_years_44 rfl rfl ?_
    refine V_getr (k := 32) dX10_years_45 rfl (by decide) vf_X10_64 (by decide) (v_fin hI 8 rfl) ?_
    refine V_aload_n (k := 1) dX10_years_48 rfl rfl ?_
    refine V_getr (k := 6) dX10_years_49 rfl (by decide) vf_X10_40 (by decide) (v_fin hI 4 rfl) ?_
    refine V_iload_n (k := 2) dX10_years_52 rfl rfl ?_
    refine V_callVv (q := (RX0, TX0, 1)) (cls := 0) (st0 := []) (kc' := 0) (ks' := 0) dX10_years_53 lk_X10_273 rfl (by decide) rfl rfl rfl (cX0_countWeights_ok M 6 x2 (Or.inl rfl) hI) rfl rfl (by decide) (by decide) (Nat.le_of_ble_eq_true rfl) (Or.inl rfl) rfl rfl (by decide) (by decide) (fun  M5 e6 hI7 => ?_)
    refine V_aload_n (k := 1) dX10_years_56 rfl rfl ?_
    refine V_getr (k := 32) dX10_years_57 rfl (by decide) vf_X10_64 (by decide) (v_fin hI7 8 rfl) ?_
    refine V_aload (k := 4) dX10_years_60 rfl ?_
    refine V_iconst (v := 0) dX10_years_62 rfl ?_
    refine V_callVi (q := (RX0, TX0, 1)) (cls := 0) (st0 := []) (kc' := 0) (ks' := 0) dX10_years_63 lk_X10_277 rfl (by decide) rfl rfl rfl (cX0_leastCost_ok M5 x4 0 f4 hI7) rfl rfl (by decide) (by decide) (Nat.le_of_ble_eq_true rfl) (Or.inl rfl) rfl rfl (by decide) (by decide) (fun y8 M9 e10 hI11 => ?_)
    refine V_istore (lv' := [(6, .int y8), (5, .int s0), (0, .ref 0), (2, .int x2), (3, .int x3), (4, .ref x4)]) dX10_years_66 (by decide) rfl ?_
    refine V_iload_n (k := 4) dX10_years_68 rfl rfl ?_
    refine V_ifne (tgt := 77) dX10_years_69 (by decide) (fun h12 => ?_) (fun h12 => ?_)
    · refine V_aload_n (k := 2) dX10_years_77 rfl rfl ?_
      refine V_getr (k := 32) dX10_years_78 rfl (by decide) vf_X10_64 (by decide) (v_fin hI11 8 rfl) ?_
      refine V_aload (k := 5) dX10_years_81 rfl ?_
      refine V_iload (k := 1) dX10_years_83 rfl ?_
      refine V_callVi (q := (RX0, TX0, 1)) (cls := 0) (st0 := []) (kc' := 0) (ks' := 0) dX10_years_85 lk_X10_277 rfl (by decide) rfl rfl rfl (cX0_leastCost_ok M9 x4 s0 f4 hI11) rfl rfl (by decide) (by decide) (Nat.le_of_ble_eq_true rfl) (Or.inl rfl) rfl rfl (by decide) (by decide) (fun y13 M14 e15 hI16 => ?_)
      refine V_iload (k := 0) dX10_years_88 rfl ?_
      refine V_isub dX10_years_90 ?_
      exact V_ret (fun _ => hI16) (Or.inr (Or.inl ⟨rfl, _, rfl⟩)) dX10_years_91 (fun ty x h1 h2 => by cases h1; rfl) rfl
    · refine V_iload (k := 0) dX10_years_72 rfl ?_
      refine V_goto (tgt := 91) dX10_years_74 (by decide) ?_
      exact V_ret (fun _ => hI11) (Or.inr (Or.inl ⟨rfl, _, rfl⟩)) dX10_years_91 (fun ty x h1 h2 => by cases h1; rfl) rfl
  · refine V_iconst (v := (-1)) dX10_years_42 rfl ?_
    exact V_ret (fun _ => hI) (Or.inr (Or.inl ⟨rfl, _, rfl⟩)) dX10_years_43 (fun ty x h1 h2 => by cases h1; rfl) rfl
def fX10_years (M : vM) (x1 : Int32) (x2 : Int32) (x3 : Int32) : Option (vR × vM) := br (fX10_workOf M x1) fun y17 M18 => bv (fX10_refuseUnlessWhat M18 x3 2) fun M21 => bv (fX10_refuseUnlessWithin M21 x2 1 100) fun M24 => if x3 = 0 then fX10_years_28 M24 x2 x3 y17 0 else fX10_years_28 M24 x2 x3 y17 1
set_option maxRecDepth 20000 in
set_option maxHeartbeats 2000000 in
theorem cX10_years_ok {l : Launch} {D : va_G} {dA : Nat → ClassId} (hT : l.stackTraces = false) (M : vM) (x1 : Int32) (x2 : Int32) (x3 : Int32) (hI : v_WT M.2.2) : Ct l D dA sX10_years false 175 7 3 18 175 [.ref 0, .int x1, .int x2, .int x3] M (fX10_years M x1 x2 x3) := by
  refine Ct_of (lv := [(0, .ref 0), (1, .int x1), (2, .int x2), (3, .int x3)]) (by decide +kernel) rfl (Nat.le_of_ble_eq_true rfl) rfl (fun h => by cases h) ?_
  refine V_aload_n (k := 0) dX10_years_0 rfl rfl ?_
  refine V_iload_n (k := 1) dX10_years_1 rfl rfl ?_
  refine V_callVr (q := (RX10, TX10, 15)) (cls := 10) (st0 := []) (kc' := 2) (ks' := 12) dX10_years_2 lk_X10_158 rfl (by decide) rfl rfl rfl (cX10_workOf_ok hT M x1 hI) rfl rfl (by decide) (by decide) (Nat.le_of_ble_eq_true rfl) (Or.inl rfl) rfl rfl (by decide) (by decide) (fun y17 M18 e19 hI20 => ?_)
  have wy17 := wX10_workOf_ret e19
  refine V_astore (lv' := [(4, .ref y17), (0, .ref 0), (1, .int x1), (2, .int x2), (3, .int x3)]) dX10_years_5 (by decide) rfl ?_
  refine V_iload_n (k := 4) dX10_years_7 rfl rfl ?_
  refine V_iconst (v := 2) dX10_years_8 rfl ?_
  refine V_callSv (st0 := []) (kc' := 1) (ks' := 6) dX10_years_9 lk_X10_212 rfl (cX10_refuseUnlessWhat_ok hT M18 x3 2 hI20) rfl rfl (by decide) (by decide) (Nat.le_of_ble_eq_true rfl) (Or.inl rfl) rfl rfl (by decide) (by decide) (fun  M21 e22 hI23 => ?_)
  refine V_iload_n (k := 3) dX10_years_12 rfl rfl ?_
  refine V_iconst (v := 1) dX10_years_13 rfl ?_
  refine V_bipush (v := 100) dX10_years_14 rfl ?_
  refine V_callSv (st0 := []) (kc' := 0) (ks' := 0) dX10_years_16 lk_X10_254 rfl (cX10_refuseUnlessWithin_ok hT M21 x2 1 100 hI23) rfl rfl (by decide) (by decide) (Nat.le_of_ble_eq_true rfl) (Or.inl rfl) rfl rfl (by decide) (by decide) (fun  M24 e25 hI26 => ?_)
  refine V_iload_n (k := 4) dX10_years_19 rfl rfl ?_
  refine V_ifne (tgt := 27) dX10_years_20 (by decide) (fun h27 => ?_) (fun h27 => ?_)
  · refine V_iconst (v := 1) dX10_years_27 rfl ?_
    refine V_sub [1, 3, 4, 0] rfl ?_
    exact vX10_years_28 hT M24 x2 x3 y17 1 wy17 hI26
  · refine V_iconst (v := 0) dX10_years_23 rfl ?_
    refine V_goto (tgt := 28) dX10_years_24 (by decide) ?_
    refine V_sub [1, 3, 4, 0] rfl ?_
    exact vX10_years_28 hT M24 x2 x3 y17 0 wy17 hI26
def fX11_addWay (M : vM) (x1 : Int32) (x2 : Int32) (x3 : Int32) : Option (vR × vM) := if v_in x1 6 = true then if v_in ((2000 * x1) + (M.1 145 (Int32.toNatClampNeg x1))) 12000 = true then if v_in x1 6 = true then if v_in ((2000 * x1) + ((v_si M 146 (Int32.toNatClampNeg ((2000 * x1) + (M.1 145 (Int32.toNatClampNeg x1)))) x2).1 145 (Int32.toNatClampNeg x1))) 12000 = true then if v_in x1 6 = true then if v_in x1 6 = true then rV (v_si (v_si (v_si M 146 (Int32.toNatClampNeg ((2000 * x1) + (M.1 145 (Int32.toNatClampNeg x1)))) x2) 147 (Int32.toNatClampNeg ((2000 * x1) + ((v_si M 146 (Int32.toNatClampNeg ((2000 * x1) + (M.1 145 (Int32.toNatClampNeg x1)))) x2).1 145 (Int32.toNatClampNeg x1)))) x3) 145 (Int32.toNatClampNeg x1) (((v_si (v_si M 146 (Int32.toNatClampNeg ((2000 * x1) + (M.1 145 (Int32.toNatClampNeg x1)))) x2) 147 (Int32.toNatClampNeg ((2000 * x1) + ((v_si M 146 (Int32.toNatClampNeg ((2000 * x1) + (M.1 145 (Int32.toNatClampNeg x1)))) x2).1 145 (Int32.toNatClampNeg x1)))) x3).1 145 (Int32.toNatClampNeg x1)) + 1)) else none else none else none else none else none else none
set_option maxRecDepth 20000 in
set_option maxHeartbeats 2000000 in
theorem cX11_addWay_ok {l : Launch} {D : va_G} {dA : Nat → ClassId} (M : vM) (x1 : Int32) (x2 : Int32) (x3 : Int32) (hI : v_WT M.2.2) : Ct l D dA sX11_addWay false 175 1 0 0 175 [.ref 130, .int x1, .int x2, .int x3] M (fX11_addWay M x1 x2 x3) := by
  refine Ct_of (lv := [(0, .ref 130), (1, .int x1), (2, .int x2), (3, .int x3)]) (by decide +kernel) rfl (Nat.le_of_ble_eq_true rfl) rfl (fun h => by cases h) ?_
  refine V_aload_n (k := 0) dX11_addWay_0 rfl rfl ?_
  refine V_getr (k := 146) dX11_addWay_1 rfl (by decide) vf_X11_64 (by decide) (v_fin hI 133 rfl) ?_
  refine V_sipush (v := 2000) dX11_addWay_4 rfl ?_
  refine V_iload_n (k := 1) dX11_addWay_7 rfl rfl ?_
  refine V_imul dX11_addWay_8 ?_
  refine V_aload_n (k := 0) dX11_addWay_9 rfl rfl ?_
  refine V_getr (k := 145) dX11_addWay_10 rfl (by decide) vf_X11_61 (by decide) (v_fin hI 132 rfl) ?_
  refine V_iload_n (k := 1) dX11_addWay_13 rfl rfl ?_
  refine V_iald dX11_addWay_14 rfl (by decide) (fun h7 => ?_)
  refine V_iadd dX11_addWay_15 ?_
  refine V_iload_n (k := 2) dX11_addWay_16 rfl rfl ?_
  refine V_iast dX11_addWay_17 rfl (by decide) (fun h8 => ?_)
  refine V_aload_n (k := 0) dX11_addWay_18 rfl rfl ?_
  refine V_getr (k := 147) dX11_addWay_19 rfl (by decide) vf_X11_67 (by decide) (v_fin hI 134 rfl) ?_
  refine V_sipush (v := 2000) dX11_addWay_22 rfl ?_
  refine V_iload_n (k := 1) dX11_addWay_25 rfl rfl ?_
  refine V_imul dX11_addWay_26 ?_
  refine V_aload_n (k := 0) dX11_addWay_27 rfl rfl ?_
  refine V_getr (k := 145) dX11_addWay_28 rfl (by decide) vf_X11_61 (by decide) (v_fin hI 132 rfl) ?_
  refine V_iload_n (k := 1) dX11_addWay_31 rfl rfl ?_
  refine V_iald dX11_addWay_32 rfl (by decide) (fun h9 => ?_)
  refine V_iadd dX11_addWay_33 ?_
  refine V_iload_n (k := 3) dX11_addWay_34 rfl rfl ?_
  refine V_iast dX11_addWay_35 rfl (by decide) (fun h10 => ?_)
  refine V_aload_n (k := 0) dX11_addWay_36 rfl rfl ?_
  refine V_getr (k := 145) dX11_addWay_37 rfl (by decide) vf_X11_61 (by decide) (v_fin hI 132 rfl) ?_
  refine V_iload_n (k := 1) dX11_addWay_40 rfl rfl ?_
  refine V_dup2 dX11_addWay_41 rfl rfl ?_
  refine V_iald dX11_addWay_42 rfl (by decide) (fun h11 => ?_)
  refine V_iconst (v := 1) dX11_addWay_43 rfl ?_
  refine V_iadd dX11_addWay_44 ?_
  refine V_iast dX11_addWay_45 rfl (by decide) (fun h12 => ?_)
  exact V_ret (fun _ => hI) (Or.inl ⟨rfl, rfl⟩) dX11_addWay_46 (fun ty x h1 h2 => by cases h1) rfl
def fX11_couple (M : vM) (x0 : Int32) (x1 : Int32) : Option (vR × vM) := rI (((x1 * (x1 - 1)) / 2) + x0) M
set_option maxRecDepth 20000 in
set_option maxHeartbeats 2000000 in
theorem cX11_couple_ok {l : Launch} {D : va_G} {dA : Nat → ClassId} (M : vM) (x0 : Int32) (x1 : Int32) (hI : v_WT M.2.2) : Ct l D dA sX11_couple false 175 1 0 0 175 [.int x0, .int x1] M (fX11_couple M x0 x1) := by
  refine Ct_of (lv := [(0, .int x0), (1, .int x1)]) (by decide +kernel) rfl (Nat.le_of_ble_eq_true rfl) rfl (fun h => by cases h) ?_
  refine V_iload_n (k := 1) dX11_couple_0 rfl rfl ?_
  refine V_iload_n (k := 1) dX11_couple_1 rfl rfl ?_
  refine V_iconst (v := 1) dX11_couple_2 rfl ?_
  refine V_isub dX11_couple_3 ?_
  refine V_imul dX11_couple_4 ?_
  refine V_iconst (v := 2) dX11_couple_5 rfl ?_
  refine V_idiv dX11_couple_6 (by decide) ?_
  refine V_iload_n (k := 0) dX11_couple_7 rfl rfl ?_
  refine V_iadd dX11_couple_8 ?_
  exact V_ret (fun _ => hI) (Or.inr (Or.inl ⟨rfl, _, rfl⟩)) dX11_couple_9 (fun ty x h1 h2 => by cases h1; rfl) rfl
def fX11_freeBits_34 (k21 : vM → Int32 → Int32 → Int32 → Option (vR × vM)) : Nat → vM → Int32 → Int32 → Int32 → Int32 → Option (vR × vM)
  | 0, _, _, _, _, _ => none
  | n9 + 1, M, x1, x2, x3, x4 => if x3 ≤ x4 then k21 M x1 x2 (x3 + 1) else if v_in x1 12 = true then if v_in x1 12 = true then if ((((M.1 137 (Int32.toNatClampNeg x1)) >>> (x4 &&& (31 : Int32))) &&& 1) + (((M.1 137 (Int32.toNatClampNeg x1)) >>> (x3 &&& (31 : Int32))) &&& 1)) ≤ 0 then fX11_freeBits_34 k21 n9 M x1 x2 x3 (x4 + 1) else bi (fX11_couple M x4 x3) fun y14 M15 => fX11_freeBits_34 k21 n9 M15 x1 (x2 ||| (1 <<< (y14 &&& (31 : Int32)))) x3 (x4 + 1) else none else none
set_option maxRecDepth 20000 in
set_option maxHeartbeats 2000000 in
theorem vX11_freeBits_34 {l : Launch} {D : va_G} {dA : Nat → ClassId} {k21 : vM → Int32 → Int32 → Int32 → Option (vR × vM)} (hk21 : ∀ (M : vM) (x1 : Int32) (x2 : Int32) (x3 : Int32), v_WT M.2.2 → V l D dA sX11_freeBits false 175 2 0 0 21 [(0, .ref 130), (1, .int x1), (2, .int x2), (3, .int x3)] [] 175 M (k21 M x1 x2 x3)) : ∀ (n9 : Nat) (M : vM) (x1 : Int32) (x2 : Int32) (x3 : Int32) (x4 : Int32), v_WT M.2.2 → V l D dA sX11_freeBits false 175 2 0 0 34 [(0, .ref 130), (1, .int x1), (2, .int x2), (3, .int x3), (4, .int x4)] [] 175 M (fX11_freeBits_34 k21 n9 M x1 x2 x3 x4) := by
  intro n9
  induction n9 with
  | zero => intros; exact V_none
  | succ n9 ih =>
    intro M x1 x2 x3 x4 hI
    refine V_iload (k := 4) dX11_freeBits_34 rfl ?_
    refine V_iload_n (k := 3) dX11_freeBits_36 rfl rfl ?_
    refine V_icmpge (tgt := 82) dX11_freeBits_37 (by decide) (fun h10 => ?_) (fun h10 => ?_)
    · refine V_iinc (k := 3) (v := x3 + 1) (lv' := [(3, .int (x3 + 1)), (0, .ref 130), (1, .int x1), (2, .int x2), (4, .int x4)]) dX11_freeBits_82 rfl rfl (by decide) rfl ?_
      refine V_goto (tgt := 21) dX11_freeBits_85 (by decide) ?_
      refine V_sub [1, 2, 3, 0] rfl ?_
      exact hk21 M x1 x2 (x3 + 1) hI
    · refine V_aload_n (k := 0) dX11_freeBits_40 rfl rfl ?_
      refine V_getr (k := 137) dX11_freeBits_41 rfl (by decide) vf_X11_37 (by decide) (v_fin hI 124 rfl) ?_
      refine V_iload_n (k := 1) dX11_freeBits_44 rfl rfl ?_
      refine V_iald dX11_freeBits_45 rfl (by decide) (fun h11 => ?_)
      refine V_iload (k := 4) dX11_freeBits_46 rfl ?_
      refine V_ishr dX11_freeBits_48 ?_
      refine V_iconst (v := 1) dX11_freeBits_49 rfl ?_
      refine V_iand dX11_freeBits_50 ?_
      refine V_aload_n (k := 0) dX11_freeBits_51 rfl rfl ?_
      refine V_getr (k := 137) dX11_freeBits_52 rfl (by decide) vf_X11_37 (by decide) (v_fin hI 124 rfl) ?_
      refine V_iload_n (k := 1) dX11_freeBits_55 rfl rfl ?_
      refine V_iald dX11_freeBits_56 rfl (by decide) (fun h12 => ?_)
      refine V_iload_n (k := 3) dX11_freeBits_57 rfl rfl ?_
      refine V_ishr dX11_freeBits_58 ?_
      refine V_iconst (v := 1) dX11_freeBits_59 rfl ?_
      refine V_iand dX11_freeBits_60 ?_
      refine V_iadd dX11_freeBits_61 ?_
      refine V_ifle (tgt := 76) dX11_freeBits_62 (by decide) (fun h13 => ?_) (fun h13 => ?_)
      · refine V_iinc (k := 4) (v := x4 + 1) (lv' := [(4, .int (x4 + 1)), (0, .ref 130), (1, .int x1), (2, .int x2), (3, .int x3)]) dX11_freeBits_76 rfl rfl (by decide) rfl ?_
        refine V_goto (tgt := 34) dX11_freeBits_79 (by decide) ?_
        refine V_sub [1, 2, 3, 4, 0] rfl ?_
        exact ih M x1 x2 x3 (x4 + 1) hI
      · refine V_iload_n (k := 2) dX11_freeBits_65 rfl rfl ?_
        refine V_iconst (v := 1) dX11_freeBits_66 rfl ?_
        refine V_iload (k := 4) dX11_freeBits_67 rfl ?_
        refine V_iload_n (k := 3) dX11_freeBits_69 rfl rfl ?_
        refine V_callSi (st0 := [.int 1, .int x2]) (kc' := 0) (ks' := 0) dX11_freeBits_70 lk_X11_330 rfl (cX11_couple_ok M x4 x3 hI) rfl rfl (by decide) (by decide) (Nat.le_of_ble_eq_true rfl) (Or.inl rfl) rfl rfl (by decide) (by decide) (fun y14 M15 e16 hI17 => ?_)
        refine V_ishl dX11_freeBits_73 ?_
        refine V_ior dX11_freeBits_74 ?_
        refine V_istore_n (lv' := [(2, .int (x2 ||| (1 <<< (y14 &&& (31 : Int32))))), (0, .ref 130), (1, .int x1), (3, .int x3), (4, .int x4)]) dX11_freeBits_75 rfl (by decide) rfl ?_
        refine V_iinc (k := 4) (v := x4 + 1) (lv' := [(4, .int (x4 + 1)), (2, .int (x2 ||| (1 <<< (y14 &&& (31 : Int32))))), (0, .ref 130), (1, .int x1), (3, .int x3)]) dX11_freeBits_76 rfl rfl (by decide) rfl ?_
        refine V_goto (tgt := 34) dX11_freeBits_79 (by decide) ?_
        refine V_sub [2, 3, 1, 4, 0] rfl ?_
        exact ih M15 x1 (x2 ||| (1 <<< (y14 &&& (31 : Int32)))) x3 (x4 + 1) hI17
def fX11_freeBits_21 : Nat → vM → Int32 → Int32 → Int32 → Option (vR × vM)
  | 0, _, _, _, _ => none
  | n9 + 1, M, x1, x2, x3 => if v_in x1 12 = true then if (M.1 136 (Int32.toNatClampNeg x1)) ≤ x3 then rI x2 M else fX11_freeBits_34 (fX11_freeBits_21 n9) FU M x1 x2 x3 0 else none
set_option maxRecDepth 20000 in
set_option maxHeartbeats 2000000 in
theorem vX11_freeBits_21 {l : Launch} {D : va_G} {dA : Nat → ClassId} : ∀ (n9 : Nat) (M : vM) (x1 : Int32) (x2 : Int32) (x3 : Int32), v_WT M.2.2 → V l D dA sX11_freeBits false 175 2 0 0 21 [(0, .ref 130), (1, .int x1), (2, .int x2), (3, .int x3)] [] 175 M (fX11_freeBits_21 n9 M x1 x2 x3) := by
  intro n9
  induction n9 with
  | zero => intros; exact V_none
  | succ n9 ih =>
    intro M x1 x2 x3 hI
    refine V_iload_n (k := 3) dX11_freeBits_21 rfl rfl ?_
    refine V_aload_n (k := 0) dX11_freeBits_22 rfl rfl ?_
    refine V_getr (k := 136) dX11_freeBits_23 rfl (by decide) vf_X11_34 (by decide) (v_fin hI 123 rfl) ?_
    refine V_iload_n (k := 1) dX11_freeBits_26 rfl rfl ?_
    refine V_iald dX11_freeBits_27 rfl (by decide) (fun h18 => ?_)
    refine V_icmpge (tgt := 88) dX11_freeBits_28 (by decide) (fun h19 => ?_) (fun h19 => ?_)
    · refine V_iload_n (k := 2) dX11_freeBits_88 rfl rfl ?_
      exact V_ret (fun _ => hI) (Or.inr (Or.inl ⟨rfl, _, rfl⟩)) dX11_freeBits_89 (fun ty x h1 h2 => by cases h1; rfl) rfl
    · refine V_iconst (v := 0) dX11_freeBits_31 rfl ?_
      refine V_istore (lv' := [(4, .int 0), (0, .ref 130), (1, .int x1), (2, .int x2), (3, .int x3)]) dX11_freeBits_32 (by decide) rfl ?_
      refine V_sub [1, 2, 3, 4, 0] rfl ?_
      exact vX11_freeBits_34 (ih) FU M x1 x2 x3 0 hI
def fX11_freeBits (M : vM) (x1 : Int32) : Option (vR × vM) := if v_in x1 12 = true then if (M.1 132 (Int32.toNatClampNeg x1)) = 2 then fX11_freeBits_21 FU M x1 0 0 else if v_in x1 12 = true then rI (M.1 137 (Int32.toNatClampNeg x1)) M else none else none
set_option maxRecDepth 20000 in
set_option maxHeartbeats 2000000 in
theorem cX11_freeBits_ok {l : Launch} {D : va_G} {dA : Nat → ClassId} (M : vM) (x1 : Int32) (hI : v_WT M.2.2) : Ct l D dA sX11_freeBits false 175 2 0 0 175 [.ref 130, .int x1] M (fX11_freeBits M x1) := by
  refine Ct_of (lv := [(0, .ref 130), (1, .int x1)]) (by decide +kernel) rfl (Nat.le_of_ble_eq_true rfl) rfl (fun h => by cases h) ?_
  refine V_aload_n (k := 0) dX11_freeBits_0 rfl rfl ?_
  refine V_getr (k := 132) dX11_freeBits_1 rfl (by decide) vf_X11_21 (by decide) (v_fin hI 119 rfl) ?_
  refine V_iload_n (k := 1) dX11_freeBits_4 rfl rfl ?_
  refine V_iald dX11_freeBits_5 rfl (by decide) (fun h20 => ?_)
  refine V_iconst (v := 2) dX11_freeBits_6 rfl ?_
  refine V_icmpeq (tgt := 17) dX11_freeBits_7 (by decide) (fun h21 => ?_) (fun h21 => ?_)
  · refine V_iconst (v := 0) dX11_freeBits_17 rfl ?_
    refine V_istore_n (lv' := [(2, .int 0), (0, .ref 130), (1, .int x1)]) dX11_freeBits_18 rfl (by decide) rfl ?_
    refine V_iconst (v := 0) dX11_freeBits_19 rfl ?_
    refine V_istore_n (lv' := [(3, .int 0), (2, .int 0), (0, .ref 130), (1, .int x1)]) dX11_freeBits_20 rfl (by decide) rfl ?_
    refine V_sub [2, 3, 1, 0] rfl ?_
    exact vX11_freeBits_21 FU M x1 0 0 hI
  · refine V_aload_n (k := 0) dX11_freeBits_10 rfl rfl ?_
    refine V_getr (k := 137) dX11_freeBits_11 rfl (by decide) vf_X11_37 (by decide) (v_fin hI 124 rfl) ?_
    refine V_iload_n (k := 1) dX11_freeBits_14 rfl rfl ?_
    refine V_iald dX11_freeBits_15 rfl (by decide) (fun h22 => ?_)
    exact V_ret (fun _ => hI) (Or.inr (Or.inl ⟨rfl, _, rfl⟩)) dX11_freeBits_16 (fun ty x h1 h2 => by cases h1; rfl) rfl
def fX11_bitsOf_4 : Nat → vM → Int32 → Int32 → Option (vR × vM)
  | 0, _, _, _ => none
  | n9 + 1, M, x1, x2 => if x2 = 0 then rI x1 M else fX11_bitsOf_4 n9 M (x1 + 1) (x2 &&& (x2 - 1))
set_option maxRecDepth 20000 in
set_option maxHeartbeats 2000000 in
theorem vX11_bitsOf_4 {l : Launch} {D : va_G} {dA : Nat → ClassId} : ∀ (n9 : Nat) (M : vM) (x1 : Int32) (x2 : Int32), v_WT M.2.2 → V l D dA sX11_bitsOf false 175 1 0 0 4 [(1, .int x1), (2, .int x2)] [] 175 M (fX11_bitsOf_4 n9 M x1 x2) := by
  intro n9
  induction n9 with
  | zero => intros; exact V_none
  | succ n9 ih =>
    intro M x1 x2 hI
    refine V_iload_n (k := 1) dX11_bitsOf_4 rfl rfl ?_
    refine V_ifeq (tgt := 20) dX11_bitsOf_5 (by decide) (fun h2 => ?_) (fun h2 => ?_)
    · refine V_iload_n (k := 0) dX11_bitsOf_20 rfl rfl ?_
      exact V_ret (fun _ => hI) (Or.inr (Or.inl ⟨rfl, _, rfl⟩)) dX11_bitsOf_21 (fun ty x h1 h2 => by cases h1; rfl) rfl
    · refine V_iinc (k := 0) (v := x1 + 1) (lv' := [(1, .int (x1 + 1)), (2, .int x2)]) dX11_bitsOf_8 rfl rfl (by decide) rfl ?_
      refine V_iload_n (k := 1) dX11_bitsOf_11 rfl rfl ?_
      refine V_iload_n (k := 1) dX11_bitsOf_12 rfl rfl ?_
      refine V_iconst (v := 1) dX11_bitsOf_13 rfl ?_
      refine V_isub dX11_bitsOf_14 ?_
      refine V_iand dX11_bitsOf_15 ?_
      refine V_istore_n (lv' := [(2, .int (x2 &&& (x2 - 1))), (1, .int (x1 + 1))]) dX11_bitsOf_16 rfl (by decide) rfl ?_
      refine V_goto (tgt := 4) dX11_bitsOf_17 (by decide) ?_
      refine V_sub [1, 0] rfl ?_
      exact ih M (x1 + 1) (x2 &&& (x2 - 1)) hI
def fX11_bitsOf (M : vM) (x0 : Int32) : Option (vR × vM) := fX11_bitsOf_4 FU M 0 x0
set_option maxRecDepth 20000 in
set_option maxHeartbeats 2000000 in
theorem cX11_bitsOf_ok {l : Launch} {D : va_G} {dA : Nat → ClassId} (M : vM) (x0 : Int32) (hI : v_WT M.2.2) : Ct l D dA sX11_bitsOf false 175 1 0 0 175 [.int x0] M (fX11_bitsOf M x0) := by
  refine Ct_of (lv := [(0, .int x0)]) (by decide +kernel) rfl (Nat.le_of_ble_eq_true rfl) rfl (fun h => by cases h) ?_
  refine V_iconst (v := 0) dX11_bitsOf_0 rfl ?_
  refine V_istore_n (lv' := [(1, .int 0), (0, .int x0)]) dX11_bitsOf_1 rfl (by decide) rfl ?_
  refine V_iload_n (k := 1) dX11_bitsOf_2 rfl rfl ?_
  refine V_istore_n (lv' := [(2, .int x0), (1, .int 0), (0, .int x0)]) dX11_bitsOf_3 rfl (by decide) rfl ?_
  refine V_sub [1, 0] rfl ?_
  exact vX11_bitsOf_4 FU M 0 x0 hI
def fX11_areSame (M : vM) (x0 : Int32) (x1 : Int32) (x2 : Int32) (x3 : Int32) (x4 : Int32) : Option (vR × vM) := if x2 = 0 then if (x0 ^^^ x1) = 0 then rI 1 M else rI 0 M else if x2 = 1 then if ((x0 ^^^ x1) &&& (x3 ^^^ ((-1)))) = 0 then rI 1 M else rI 0 M else bi (fX11_bitsOf M (x0 ^^^ x1)) fun y8 M9 => if x4 ≤ y8 then rI 0 M9 else rI 1 M9
set_option maxRecDepth 20000 in
set_option maxHeartbeats 2000000 in
theorem cX11_areSame_ok {l : Launch} {D : va_G} {dA : Nat → ClassId} (M : vM) (x0 : Int32) (x1 : Int32) (x2 : Int32) (x3 : Int32) (x4 : Int32) (hI : v_WT M.2.2) : Ct l D dA sX11_areSame false 175 2 0 0 175 [.int x0, .int x1, .int x2, .int x3, .int x4] M (fX11_areSame M x0 x1 x2 x3 x4) := by
  refine Ct_of (lv := [(0, .int x0), (1, .int x1), (2, .int x2), (3, .int x3), (4, .int x4)]) (by decide +kernel) rfl (Nat.le_of_ble_eq_true rfl) rfl (fun h => by cases h) ?_
  refine V_iload_n (k := 0) dX11_areSame_0 rfl rfl ?_
  refine V_iload_n (k := 1) dX11_areSame_1 rfl rfl ?_
  refine V_ixor dX11_areSame_2 ?_
  refine V_istore (lv' := [(5, .int (x0 ^^^ x1)), (0, .int x0), (1, .int x1), (2, .int x2), (3, .int x3), (4, .int x4)]) dX11_areSame_3 (by decide) rfl ?_
  refine V_iload_n (k := 3) dX11_areSame_5 rfl rfl ?_
  refine V_ifne (tgt := 22) dX11_areSame_6 (by decide) (fun h6 => ?_) (fun h6 => ?_)
  · refine V_iload_n (k := 3) dX11_areSame_22 rfl rfl ?_
    refine V_iconst (v := 1) dX11_areSame_23 rfl ?_
    refine V_icmpne (tgt := 44) dX11_areSame_24 (by decide) (fun h7 => ?_) (fun h7 => ?_)
    · refine V_iload (k := 0) dX11_areSame_44 rfl ?_
      refine V_callSi (st0 := []) (kc' := 0) (ks' := 0) dX11_areSame_46 lk_X11_324 rfl (cX11_bitsOf_ok M (x0 ^^^ x1) hI) rfl rfl (by decide) (by decide) (Nat.le_of_ble_eq_true rfl) (Or.inl rfl) rfl rfl (by decide) (by decide) (fun y8 M9 e10 hI11 => ?_)
      refine V_iload (k := 5) dX11_areSame_49 rfl ?_
      refine V_icmpge (tgt := 58) dX11_areSame_51 (by decide) (fun h12 => ?_) (fun h12 => ?_)
      · refine V_iconst (v := 0) dX11_areSame_58 rfl ?_
        exact V_ret (fun _ => hI11) (Or.inr (Or.inr (Or.inl ⟨rfl, _, rfl⟩))) dX11_areSame_59 (fun ty x h1 h2 => by cases h1; cases h2; rfl) rfl
      · refine V_iconst (v := 1) dX11_areSame_54 rfl ?_
        refine V_goto (tgt := 59) dX11_areSame_55 (by decide) ?_
        exact V_ret (fun _ => hI11) (Or.inr (Or.inr (Or.inl ⟨rfl, _, rfl⟩))) dX11_areSame_59 (fun ty x h1 h2 => by cases h1; cases h2; rfl) rfl
    · refine V_iload (k := 0) dX11_areSame_27 rfl ?_
      refine V_iload_n (k := 4) dX11_areSame_29 rfl rfl ?_
      refine V_iconst (v := (-1)) dX11_areSame_30 rfl ?_
      refine V_ixor dX11_areSame_31 ?_
      refine V_iand dX11_areSame_32 ?_
      refine V_ifne (tgt := 40) dX11_areSame_33 (by decide) (fun h13 => ?_) (fun h13 => ?_)
      · refine V_iconst (v := 0) dX11_areSame_40 rfl ?_
        refine V_goto (tgt := 59) dX11_areSame_41 (by decide) ?_
        exact V_ret (fun _ => hI) (Or.inr (Or.inr (Or.inl ⟨rfl, _, rfl⟩))) dX11_areSame_59 (fun ty x h1 h2 => by cases h1; cases h2; rfl) rfl
      · refine V_iconst (v := 1) dX11_areSame_36 rfl ?_
        refine V_goto (tgt := 59) dX11_areSame_37 (by decide) ?_
        exact V_ret (fun _ => hI) (Or.inr (Or.inr (Or.inl ⟨rfl, _, rfl⟩))) dX11_areSame_59 (fun ty x h1 h2 => by cases h1; cases h2; rfl) rfl
  · refine V_iload (k := 0) dX11_areSame_9 rfl ?_
    refine V_ifne (tgt := 18) dX11_areSame_11 (by decide) (fun h14 => ?_) (fun h14 => ?_)
    · refine V_iconst (v := 0) dX11_areSame_18 rfl ?_
      refine V_goto (tgt := 59) dX11_areSame_19 (by decide) ?_
      exact V_ret (fun _ => hI) (Or.inr (Or.inr (Or.inl ⟨rfl, _, rfl⟩))) dX11_areSame_59 (fun ty x h1 h2 => by cases h1; cases h2; rfl) rfl
    · refine V_iconst (v := 1) dX11_areSame_14 rfl ?_
      refine V_goto (tgt := 59) dX11_areSame_15 (by decide) ?_
      exact V_ret (fun _ => hI) (Or.inr (Or.inr (Or.inl ⟨rfl, _, rfl⟩))) dX11_areSame_59 (fun ty x h1 h2 => by cases h1; cases h2; rfl) rfl
def fX11_alike_27 (M : vM) (x1 : Int32) (s0 : Int32) (s1 : Int32) (s2 : Int32) (s3 : Int32) : Option (vR × vM) := if v_in x1 12 = true then bi (fX11_areSame M s0 s1 s2 s3 (M.1 135 (Int32.toNatClampNeg x1))) fun y6 M7 => if v_nz y6 = y6 then rI y6 M7 else none else none
set_option maxRecDepth 20000 in
set_option maxHeartbeats 2000000 in
theorem vX11_alike_27 {l : Launch} {D : va_G} {dA : Nat → ClassId} : ∀ (M : vM) (x1 : Int32) (s0 : Int32) (s1 : Int32) (s2 : Int32) (s3 : Int32), v_WT M.2.2 → V l D dA sX11_alike false 175 3 0 0 27 [(0, .ref 130), (1, .int x1)] [.int s3, .int s2, .int s1, .int s0] 175 M (fX11_alike_27 M x1 s0 s1 s2 s3) := by
  intro M x1 s0 s1 s2 s3 hI
  refine V_aload_n (k := 0) dX11_alike_27 rfl rfl ?_
  refine V_getr (k := 135) dX11_alike_28 rfl (by decide) vf_X11_31 (by decide) (v_fin hI 122 rfl) ?_
  refine V_iload_n (k := 1) dX11_alike_31 rfl rfl ?_
  refine V_iald dX11_alike_32 rfl (by decide) (fun h5 => ?_)
  refine V_callSi (st0 := []) (kc' := 0) (ks' := 0) dX11_alike_33 lk_X11_345 rfl (cX11_areSame_ok M s0 s1 s2 s3 (M.1 135 (Int32.toNatClampNeg x1)) hI) rfl rfl (by decide) (by decide) (Nat.le_of_ble_eq_true rfl) (Or.inl rfl) rfl rfl (by decide) (by decide) (fun y6 M7 e8 hI9 => ?_)
  exact V_retz (fun _ => hI9) rfl dX11_alike_36
def fX11_alike (M : vM) (x1 : Int32) (x2 : Int32) (x3 : Int32) : Option (vR × vM) := if v_in x1 12 = true then if v_in x1 12 = true then if (M.1 134 (Int32.toNatClampNeg x1)) = 1 then bi (fX11_freeBits M x1) fun y13 M14 => fX11_alike_27 M14 x1 x2 x3 (M.1 134 (Int32.toNatClampNeg x1)) y13 else fX11_alike_27 M x1 x2 x3 (M.1 134 (Int32.toNatClampNeg x1)) 0 else none else none
set_option maxRecDepth 20000 in
set_option maxHeartbeats 2000000 in
theorem cX11_alike_ok {l : Launch} {D : va_G} {dA : Nat → ClassId} (M : vM) (x1 : Int32) (x2 : Int32) (x3 : Int32) (hI : v_WT M.2.2) : Ct l D dA sX11_alike false 175 3 0 0 175 [.ref 130, .int x1, .int x2, .int x3] M (fX11_alike M x1 x2 x3) := by
  refine Ct_of (lv := [(0, .ref 130), (1, .int x1), (2, .int x2), (3, .int x3)]) (by decide +kernel) rfl (Nat.le_of_ble_eq_true rfl) rfl (fun h => by cases h) ?_
  refine V_iload_n (k := 2) dX11_alike_0 rfl rfl ?_
  refine V_iload_n (k := 3) dX11_alike_1 rfl rfl ?_
  refine V_aload_n (k := 0) dX11_alike_2 rfl rfl ?_
  refine V_getr (k := 134) dX11_alike_3 rfl (by decide) vf_X11_28 (by decide) (v_fin hI 121 rfl) ?_
  refine V_iload_n (k := 1) dX11_alike_6 rfl rfl ?_
  refine V_iald dX11_alike_7 rfl (by decide) (fun h10 => ?_)
  refine V_aload_n (k := 0) dX11_alike_8 rfl rfl ?_
  refine V_getr (k := 134) dX11_alike_9 rfl (by decide) vf_X11_28 (by decide) (v_fin hI 121 rfl) ?_
  refine V_iload_n (k := 1) dX11_alike_12 rfl rfl ?_
  refine V_iald dX11_alike_13 rfl (by decide) (fun h11 => ?_)
  refine V_iconst (v := 1) dX11_alike_14 rfl ?_
  refine V_icmpne (tgt := 26) dX11_alike_15 (by decide) (fun h12 => ?_) (fun h12 => ?_)
  · refine V_iconst (v := 0) dX11_alike_26 rfl ?_
    refine V_sub [0, 1] rfl ?_
    exact vX11_alike_27 M x1 x2 x3 (M.1 134 (Int32.toNatClampNeg x1)) 0 hI
  · refine V_aload_n (k := 0) dX11_alike_18 rfl rfl ?_
    refine V_iload_n (k := 1) dX11_alike_19 rfl rfl ?_
    refine V_callVi (q := (RX11, TX11, 61)) (cls := 11) (st0 := [.int (M.1 134 (Int32.toNatClampNeg x1)), .int x3, .int x2]) (kc' := 0) (ks' := 0) dX11_alike_20 lk_X11_342 rfl (by decide) rfl rfl rfl (cX11_freeBits_ok M x1 hI) rfl rfl (by decide) (by decide) (Nat.le_of_ble_eq_true rfl) (Or.inl rfl) rfl rfl (by decide) (by decide) (fun y13 M14 e15 hI16 => ?_)
    refine V_goto (tgt := 27) dX11_alike_23 (by decide) ?_
    refine V_sub [0, 1] rfl ?_
    exact vX11_alike_27 M14 x1 x2 x3 (M.1 134 (Int32.toNatClampNeg x1)) y13 hI16
def fX11_isIn (M : vM) (x0 : Int32) (x1 : Int32) (x2 : Int32) : Option (vR × vM) := if x0 < x1 then rI 0 M else if x2 < x0 then rI 0 M else rI 1 M
set_option maxRecDepth 20000 in
set_option maxHeartbeats 2000000 in
theorem cX11_isIn_ok {l : Launch} {D : va_G} {dA : Nat → ClassId} (M : vM) (x0 : Int32) (x1 : Int32) (x2 : Int32) (hI : v_WT M.2.2) : Ct l D dA sX11_isIn false 175 1 0 0 175 [.int x0, .int x1, .int x2] M (fX11_isIn M x0 x1 x2) := by
  refine Ct_of (lv := [(0, .int x0), (1, .int x1), (2, .int x2)]) (by decide +kernel) rfl (Nat.le_of_ble_eq_true rfl) rfl (fun h => by cases h) ?_
  refine V_iload_n (k := 0) dX11_isIn_0 rfl rfl ?_
  refine V_iload_n (k := 1) dX11_isIn_1 rfl rfl ?_
  refine V_icmplt (tgt := 14) dX11_isIn_2 (by decide) (fun h3 => ?_) (fun h3 => ?_)
  · refine V_iconst (v := 0) dX11_isIn_14 rfl ?_
    exact V_ret (fun _ => hI) (Or.inr (Or.inr (Or.inl ⟨rfl, _, rfl⟩))) dX11_isIn_15 (fun ty x h1 h2 => by cases h1; cases h2; rfl) rfl
  · refine V_iload_n (k := 0) dX11_isIn_5 rfl rfl ?_
    refine V_iload_n (k := 2) dX11_isIn_6 rfl rfl ?_
    refine V_icmpgt (tgt := 14) dX11_isIn_7 (by decide) (fun h4 => ?_) (fun h4 => ?_)
    · refine V_iconst (v := 0) dX11_isIn_14 rfl ?_
      exact V_ret (fun _ => hI) (Or.inr (Or.inr (Or.inl ⟨rfl, _, rfl⟩))) dX11_isIn_15 (fun ty x h1 h2 => by cases h1; cases h2; rfl) rfl
    · refine V_iconst (v := 1) dX11_isIn_10 rfl ?_
      refine V_goto (tgt := 15) dX11_isIn_11 (by decide) ?_
      exact V_ret (fun _ => hI) (Or.inr (Or.inr (Or.inl ⟨rfl, _, rfl⟩))) dX11_isIn_15 (fun ty x h1 h2 => by cases h1; cases h2; rfl) rfl
def fX11_isWork (M : vM) (x1 : Int32) : Option (vR × vM) := bi (fX11_isIn M x1 0 ((M.1 130 2) - 1)) fun y1 M2 => if v_nz y1 = y1 then rI y1 M2 else none
set_option maxRecDepth 20000 in
set_option maxHeartbeats 2000000 in
theorem cX11_isWork_ok {l : Launch} {D : va_G} {dA : Nat → ClassId} (M : vM) (x1 : Int32) (hI : v_WT M.2.2) : Ct l D dA sX11_isWork false 175 2 0 0 175 [.ref 130, .int x1] M (fX11_isWork M x1) := by
  refine Ct_of (lv := [(0, .ref 130), (1, .int x1)]) (by decide +kernel) rfl (Nat.le_of_ble_eq_true rfl) rfl (fun h => by cases h) ?_
  refine V_iload_n (k := 1) dX11_isWork_0 rfl rfl ?_
  refine V_iconst (v := 0) dX11_isWork_1 rfl ?_
  refine V_aload_n (k := 0) dX11_isWork_2 rfl rfl ?_
  refine V_geti dX11_isWork_3 rfl (by decide) vf_X11_157 (by decide) ?_
  refine V_iconst (v := 1) dX11_isWork_6 rfl ?_
  refine V_isub dX11_isWork_7 ?_
  refine V_callSi (st0 := []) (kc' := 0) (ks' := 0) dX11_isWork_8 lk_X11_160 rfl (cX11_isIn_ok M x1 0 ((M.1 130 2) - 1) hI) rfl rfl (by decide) (by decide) (Nat.le_of_ble_eq_true rfl) (Or.inl rfl) rfl rfl (by decide) (by decide) (fun y1 M2 e3 hI4 => ?_)
  exact V_retz (fun _ => hI4) rfl dX11_isWork_11
def fX11_fail (M : vM) (x1 : Int32) : Option (vR × vM) := rI 0 (v_si M 130 1 x1)
set_option maxRecDepth 20000 in
set_option maxHeartbeats 2000000 in
theorem cX11_fail_ok {l : Launch} {D : va_G} {dA : Nat → ClassId} (M : vM) (x1 : Int32) (hI : v_WT M.2.2) : Ct l D dA sX11_fail false 175 1 0 0 175 [.ref 130, .int x1] M (fX11_fail M x1) := by
  refine Ct_of (lv := [(0, .ref 130), (1, .int x1)]) (by decide +kernel) rfl (Nat.le_of_ble_eq_true rfl) rfl (fun h => by cases h) ?_
  refine V_aload_n (k := 0) dX11_fail_0 rfl rfl ?_
  refine V_iload_n (k := 1) dX11_fail_1 rfl rfl ?_
  refine V_puti dX11_fail_2 rfl (by decide) vf_X11_154 (by decide) rfl rfl ?_
  refine V_iconst (v := 0) dX11_fail_5 rfl ?_
  exact V_ret (fun _ => hI) (Or.inr (Or.inl ⟨rfl, _, rfl⟩)) dX11_fail_6 (fun ty x h1 h2 => by cases h1; rfl) rfl
def fX11_leftOf_4 : Nat → vM → Int32 → Int32 → Int32 → Option (vR × vM)
  | 0, _, _, _, _ => none
  | n9 + 1, M, x1, x2, x3 => if v_in x1 6 = true then if (M.1 145 (Int32.toNatClampNeg x1)) ≤ x3 then rI x2 M else if v_in ((2000 * x1) + x3) 12000 = true then if (M.1 148 (Int32.toNatClampNeg ((2000 * x1) + x3))) = 0 then fX11_leftOf_4 n9 M x1 (x2 + 1) (x3 + 1) else fX11_leftOf_4 n9 M x1 (x2 + 0) (x3 + 1) else none else none
set_option maxRecDepth 20000 in
set_option maxHeartbeats 2000000 in
theorem vX11_leftOf_4 {l : Launch} {D : va_G} {dA : Nat → ClassId} : ∀ (n9 : Nat) (M : vM) (x1 : Int32) (x2 : Int32) (x3 : Int32), v_WT M.2.2 → V l D dA sX11_leftOf false 175 1 0 0 4 [(0, .ref 130), (1, .int x1), (2, .int x2), (3, .int x3)] [] 175 M (fX11_leftOf_4 n9 M x1 x2 x3) := by
  intro n9
  induction n9 with
  | zero => intros; exact V_none
  | succ n9 ih =>
    intro M x1 x2 x3 hI
    refine V_iload_n (k := 3) dX11_leftOf_4 rfl rfl ?_
    refine V_aload_n (k := 0) dX11_leftOf_5 rfl rfl ?_
    refine V_getr (k := 145) dX11_leftOf_6 rfl (by decide) vf_X11_61 (by decide) (v_fin hI 132 rfl) ?_
    refine V_iload_n (k := 1) dX11_leftOf_9 rfl rfl ?_
    refine V_iald dX11_leftOf_10 rfl (by decide) (fun h5 => ?_)
    refine V_icmpge (tgt := 43) dX11_leftOf_11 (by decide) (fun h6 => ?_) (fun h6 => ?_)
    · refine V_iload_n (k := 2) dX11_leftOf_43 rfl rfl ?_
      exact V_ret (fun _ => hI) (Or.inr (Or.inl ⟨rfl, _, rfl⟩)) dX11_leftOf_44 (fun ty x h1 h2 => by cases h1; rfl) rfl
    · refine V_iload_n (k := 2) dX11_leftOf_14 rfl rfl ?_
      refine V_aload_n (k := 0) dX11_leftOf_15 rfl rfl ?_
      refine V_getr (k := 148) dX11_leftOf_16 rfl (by decide) vf_X11_70 (by decide) (v_fin hI 135 rfl) ?_
      refine V_sipush (v := 2000) dX11_leftOf_19 rfl ?_
      refine V_iload_n (k := 1) dX11_leftOf_22 rfl rfl ?_
      refine V_imul dX11_leftOf_23 ?_
      refine V_iload_n (k := 3) dX11_leftOf_24 rfl rfl ?_
      refine V_iadd dX11_leftOf_25 ?_
      refine V_zald dX11_leftOf_26 rfl (by decide) (fun h7 => ?_)
      refine V_ifeq (tgt := 34) dX11_leftOf_27 (by decide) (fun h8 => ?_) (fun h8 => ?_)
      · refine V_iconst (v := 1) dX11_leftOf_34 rfl ?_
        refine V_iadd dX11_leftOf_35 ?_
        refine V_istore_n (lv' := [(2, .int (x2 + 1)), (0, .ref 130), (1, .int x1), (3, .int x3)]) dX11_leftOf_36 rfl (by decide) rfl ?_
        refine V_iinc (k := 3) (v := x3 + 1) (lv' := [(3, .int (x3 + 1)), (2, .int (x2 + 1)), (0, .ref 130), (1, .int x1)]) dX11_leftOf_37 rfl rfl (by decide) rfl ?_
        refine V_goto (tgt := 4) dX11_leftOf_40 (by decide) ?_
        refine V_sub [2, 3, 1, 0] rfl ?_
        exact ih M x1 (x2 + 1) (x3 + 1) hI
      · refine V_iconst (v := 0) dX11_leftOf_30 rfl ?_
        refine V_goto (tgt := 35) dX11_leftOf_31 (by decide) ?_
        refine V_iadd dX11_leftOf_35 ?_
        refine V_istore_n (lv' := [(2, .int (x2 + 0)), (0, .ref 130), (1, .int x1), (3, .int x3)]) dX11_leftOf_36 rfl (by decide) rfl ?_
        refine V_iinc (k := 3) (v := x3 + 1) (lv' := [(3, .int (x3 + 1)), (2, .int (x2 + 0)), (0, .ref 130), (1, .int x1)]) dX11_leftOf_37 rfl rfl (by decide) rfl ?_
        refine V_goto (tgt := 4) dX11_leftOf_40 (by decide) ?_
        refine V_sub [2, 3, 1, 0] rfl ?_
        exact ih M x1 (x2 + 0) (x3 + 1) hI
def fX11_leftOf (M : vM) (x1 : Int32) : Option (vR × vM) := fX11_leftOf_4 FU M x1 0 0
set_option maxRecDepth 20000 in
set_option maxHeartbeats 2000000 in
theorem cX11_leftOf_ok {l : Launch} {D : va_G} {dA : Nat → ClassId} (M : vM) (x1 : Int32) (hI : v_WT M.2.2) : Ct l D dA sX11_leftOf false 175 1 0 0 175 [.ref 130, .int x1] M (fX11_leftOf M x1) := by
  refine Ct_of (lv := [(0, .ref 130), (1, .int x1)]) (by decide +kernel) rfl (Nat.le_of_ble_eq_true rfl) rfl (fun h => by cases h) ?_
  refine V_iconst (v := 0) dX11_leftOf_0 rfl ?_
  refine V_istore_n (lv' := [(2, .int 0), (0, .ref 130), (1, .int x1)]) dX11_leftOf_1 rfl (by decide) rfl ?_
  refine V_iconst (v := 0) dX11_leftOf_2 rfl ?_
  refine V_istore_n (lv' := [(3, .int 0), (2, .int 0), (0, .ref 130), (1, .int x1)]) dX11_leftOf_3 rfl (by decide) rfl ?_
  refine V_sub [2, 3, 1, 0] rfl ?_
  exact vX11_leftOf_4 FU M x1 0 0 hI
def fX11_leftAt_5 : Nat → vM → Int32 → Int32 → Int32 → Int32 → Option (vR × vM)
  | 0, _, _, _, _, _ => none
  | n9 + 1, M, x1, x2, x3, x4 => if v_in x1 6 = true then if (M.1 145 (Int32.toNatClampNeg x1)) ≤ x4 then rI ((-1)) M else if v_in ((2000 * x1) + x4) 12000 = true then if (M.1 148 (Int32.toNatClampNeg ((2000 * x1) + x4))) = 0 then if x3 = x2 then rI x4 M else fX11_leftAt_5 n9 M x1 x2 (x3 + 1) (x4 + 1) else fX11_leftAt_5 n9 M x1 x2 x3 (x4 + 1) else none else none
set_option maxRecDepth 20000 in
set_option maxHeartbeats 2000000 in
theorem vX11_leftAt_5 {l : Launch} {D : va_G} {dA : Nat → ClassId} : ∀ (n9 : Nat) (M : vM) (x1 : Int32) (x2 : Int32) (x3 : Int32) (x4 : Int32), v_WT M.2.2 → V l D dA sX11_leftAt false 175 1 0 0 5 [(0, .ref 130), (1, .int x1), (2, .int x2), (3, .int x3), (4, .int x4)] [] 175 M (fX11_leftAt_5 n9 M x1 x2 x3 x4) := by
  intro n9
  induction n9 with
  | zero => intros; exact V_none
  | succ n9 ih =>
    intro M x1 x2 x3 x4 hI
    refine V_iload (k := 4) dX11_leftAt_5 rfl ?_
    refine V_aload_n (k := 0) dX11_leftAt_7 rfl rfl ?_
    refine V_getr (k := 145) dX11_leftAt_8 rfl (by decide) vf_X11_61 (by decide) (v_fin hI 132 rfl) ?_
    refine V_iload_n (k := 1) dX11_leftAt_11 rfl rfl ?_
    refine V_iald dX11_leftAt_12 rfl (by decide) (fun h6 => ?_)
    refine V_icmpge (tgt := 52) dX11_leftAt_13 (by decide) (fun h7 => ?_) (fun h7 => ?_)
    · refine V_iconst (v := (-1)) dX11_leftAt_52 rfl ?_
      exact V_ret (fun _ => hI) (Or.inr (Or.inl ⟨rfl, _, rfl⟩)) dX11_leftAt_53 (fun ty x h1 h2 => by cases h1; rfl) rfl
    · refine V_aload_n (k := 0) dX11_leftAt_16 rfl rfl ?_
      refine V_getr (k := 148) dX11_leftAt_17 rfl (by decide) vf_X11_70 (by decide) (v_fin hI 135 rfl) ?_
      refine V_sipush (v := 2000) dX11_leftAt_20 rfl ?_
      refine V_iload_n (k := 1) dX11_leftAt_23 rfl rfl ?_
      refine V_imul dX11_leftAt_24 ?_
      refine V_iload (k := 4) dX11_leftAt_25 rfl ?_
      refine V_iadd dX11_leftAt_27 ?_
      refine V_zald dX11_leftAt_28 rfl (by decide) (fun h8 => ?_)
      refine V_ifeq (tgt := 35) dX11_leftAt_29 (by decide) (fun h9 => ?_) (fun h9 => ?_)
      · refine V_iload_n (k := 3) dX11_leftAt_35 rfl rfl ?_
        refine V_iload_n (k := 2) dX11_leftAt_36 rfl rfl ?_
        refine V_icmpne (tgt := 43) dX11_leftAt_37 (by decide) (fun h10 => ?_) (fun h10 => ?_)
        · refine V_iinc (k := 3) (v := x3 + 1) (lv' := [(3, .int (x3 + 1)), (0, .ref 130), (1, .int x1), (2, .int x2), (4, .int x4)]) dX11_leftAt_43 rfl rfl (by decide) rfl ?_
          refine V_iinc (k := 4) (v := x4 + 1) (lv' := [(4, .int (x4 + 1)), (3, .int (x3 + 1)), (0, .ref 130), (1, .int x1), (2, .int x2)]) dX11_leftAt_46 rfl rfl (by decide) rfl ?_
          refine V_goto (tgt := 5) dX11_leftAt_49 (by decide) ?_
          refine V_sub [2, 3, 4, 1, 0] rfl ?_
          exact ih M x1 x2 (x3 + 1) (x4 + 1) hI
        · refine V_iload (k := 4) dX11_leftAt_40 rfl ?_
          exact V_ret (fun _ => hI) (Or.inr (Or.inl ⟨rfl, _, rfl⟩)) dX11_leftAt_42 (fun ty x h1 h2 => by cases h1; rfl) rfl
      · refine V_goto (tgt := 46) dX11_leftAt_32 (by decide) ?_
        refine V_iinc (k := 4) (v := x4 + 1) (lv' := [(4, .int (x4 + 1)), (0, .ref 130), (1, .int x1), (2, .int x2), (3, .int x3)]) dX11_leftAt_46 rfl rfl (by decide) rfl ?_
        refine V_goto (tgt := 5) dX11_leftAt_49 (by decide) ?_
        refine V_sub [1, 2, 3, 4, 0] rfl ?_
        exact ih M x1 x2 x3 (x4 + 1) hI
def fX11_leftAt (M : vM) (x1 : Int32) (x2 : Int32) : Option (vR × vM) := fX11_leftAt_5 FU M x1 x2 0 0
set_option maxRecDepth 20000 in
set_option maxHeartbeats 2000000 in
theorem cX11_leftAt_ok {l : Launch} {D : va_G} {dA : Nat → ClassId} (M : vM) (x1 : Int32) (x2 : Int32) (hI : v_WT M.2.2) : Ct l D dA sX11_leftAt false 175 1 0 0 175 [.ref 130, .int x1, .int x2] M (fX11_leftAt M x1 x2) := by
  refine Ct_of (lv := [(0, .ref 130), (1, .int x1), (2, .int x2)]) (by decide +kernel) rfl (Nat.le_of_ble_eq_true rfl) rfl (fun h => by cases h) ?_
  refine V_iconst (v := 0) dX11_leftAt_0 rfl ?_
  refine V_istore_n (lv' := [(3, .int 0), (0, .ref 130), (1, .int x1), (2, .int x2)]) dX11_leftAt_1 rfl (by decide) rfl ?_
  refine V_iconst (v := 0) dX11_leftAt_2 rfl ?_
  refine V_istore (lv' := [(4, .int 0), (3, .int 0), (0, .ref 130), (1, .int x1), (2, .int x2)]) dX11_leftAt_3 (by decide) rfl ?_
  refine V_sub [2, 3, 4, 1, 0] rfl ?_
  exact vX11_leftAt_5 FU M x1 x2 0 0 hI
def fX11_markOf (M : vM) (x1 : Int32) (x2 : Int32) : Option (vR × vM) := if v_in ((2000 * x1) + x2) 12000 = true then rI (M.1 147 (Int32.toNatClampNeg ((2000 * x1) + x2))) M else none
set_option maxRecDepth 20000 in
set_option maxHeartbeats 2000000 in
theorem cX11_markOf_ok {l : Launch} {D : va_G} {dA : Nat → ClassId} (M : vM) (x1 : Int32) (x2 : Int32) (hI : v_WT M.2.2) : Ct l D dA sX11_markOf false 175 1 0 0 175 [.ref 130, .int x1, .int x2] M (fX11_markOf M x1 x2) := by
  refine Ct_of (lv := [(0, .ref 130), (1, .int x1), (2, .int x2)]) (by decide +kernel) rfl (Nat.le_of_ble_eq_true rfl) rfl (fun h => by cases h) ?_
  refine V_aload_n (k := 0) dX11_markOf_0 rfl rfl ?_
  refine V_getr (k := 147) dX11_markOf_1 rfl (by decide) vf_X11_67 (by decide) (v_fin hI 134 rfl) ?_
  refine V_sipush (v := 2000) dX11_markOf_4 rfl ?_
  refine V_iload_n (k := 1) dX11_markOf_7 rfl rfl ?_
  refine V_imul dX11_markOf_8 ?_
  refine V_iload_n (k := 2) dX11_markOf_9 rfl rfl ?_
  refine V_iadd dX11_markOf_10 ?_
  refine V_iald dX11_markOf_11 rfl (by decide) (fun h2 => ?_)
  exact V_ret (fun _ => hI) (Or.inr (Or.inl ⟨rfl, _, rfl⟩)) dX11_markOf_12 (fun ty x h1 h2 => by cases h1; rfl) rfl
