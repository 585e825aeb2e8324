def fX4_isBlank (M : vM) (x0 : Int32) : Option (vR × vM) := if x0 = 32 then rI 1 M else if x0 = 10 then rI 1 M else rI 0 M
set_option maxRecDepth 20000 in
set_option maxHeartbeats 2000000 in
theorem cX4_isBlank_ok {l : Launch} {D : va_G} {dA : Nat → ClassId} (M : vM) (x0 : Int32) (hI : v_WT M.2.2) : Ct l D dA sX4_isBlank false 175 1 0 0 175 [.int x0] M (fX4_isBlank M x0) := by
  refine Ct_of (lv := [(0, .int x0)]) (by decide +kernel) rfl (Nat.le_of_ble_eq_true rfl) rfl (fun h => by cases h) ?_
  refine V_iload_n (k := 0) dX4_isBlank_0 rfl rfl ?_
  refine V_bipush (v := 32) dX4_isBlank_1 rfl ?_
  refine V_icmpeq (tgt := 12) dX4_isBlank_3 (by decide) (fun h3 => ?_) (fun h3 => ?_)
  · refine V_iconst (v := 1) dX4_isBlank_12 rfl ?_
    refine V_goto (tgt := 17) dX4_isBlank_13 (by decide) ?_
    exact V_ret (fun _ => hI) (Or.inr (Or.inr (Or.inl ⟨rfl, _, rfl⟩))) dX4_isBlank_17 (fun ty x h1 h2 => by cases h1; cases h2; rfl) rfl
  · refine V_iload_n (k := 0) dX4_isBlank_6 rfl rfl ?_
    refine V_bipush (v := 10) dX4_isBlank_7 rfl ?_
    refine V_icmpne (tgt := 16) dX4_isBlank_9 (by decide) (fun h4 => ?_) (fun h4 => ?_)
    · refine V_iconst (v := 0) dX4_isBlank_16 rfl ?_
      exact V_ret (fun _ => hI) (Or.inr (Or.inr (Or.inl ⟨rfl, _, rfl⟩))) dX4_isBlank_17 (fun ty x h1 h2 => by cases h1; cases h2; rfl) rfl
    · refine V_iconst (v := 1) dX4_isBlank_12 rfl ?_
      refine V_goto (tgt := 17) dX4_isBlank_13 (by decide) ?_
      exact V_ret (fun _ => hI) (Or.inr (Or.inr (Or.inl ⟨rfl, _, rfl⟩))) dX4_isBlank_17 (fun ty x h1 h2 => by cases h1; cases h2; rfl) rfl
def fX4_kindOf_28 (M : vM) (x0 : Int32) : Option (vR × vM) := if x0 = 59 then rI 3 M else rI 4 M
set_option maxRecDepth 20000 in
set_option maxHeartbeats 2000000 in
theorem vX4_kindOf_28 {l : Launch} {D : va_G} {dA : Nat → ClassId} : ∀ (M : vM) (x0 : Int32), v_WT M.2.2 → V l D dA sX4_kindOf false 175 1 0 0 28 [(0, .int x0)] [] 175 M (fX4_kindOf_28 M x0) := by
  intro M x0 hI
  refine V_iload_n (k := 0) dX4_kindOf_28 rfl rfl ?_
  refine V_bipush (v := 59) dX4_kindOf_29 rfl ?_
  refine V_icmpne (tgt := 38) dX4_kindOf_31 (by decide) (fun h6 => ?_) (fun h6 => ?_)
  · refine V_iconst (v := 4) dX4_kindOf_38 rfl ?_
    exact V_ret (fun _ => hI) (Or.inr (Or.inl ⟨rfl, _, rfl⟩)) dX4_kindOf_39 (fun ty x h1 h2 => by cases h1; rfl) rfl
  · refine V_iconst (v := 3) dX4_kindOf_34 rfl ?_
    refine V_goto (tgt := 39) dX4_kindOf_35 (by decide) ?_
    exact V_ret (fun _ => hI) (Or.inr (Or.inl ⟨rfl, _, rfl⟩)) dX4_kindOf_39 (fun ty x h1 h2 => by cases h1; rfl) rfl
def fX4_kindOf_14 (M : vM) (x0 : Int32) : Option (vR × vM) := if x0 < 48 then fX4_kindOf_28 M x0 else if 57 < x0 then fX4_kindOf_28 M x0 else rI 2 M
set_option maxRecDepth 20000 in
set_option maxHeartbeats 2000000 in
theorem vX4_kindOf_14 {l : Launch} {D : va_G} {dA : Nat → ClassId} : ∀ (M : vM) (x0 : Int32), v_WT M.2.2 → V l D dA sX4_kindOf false 175 1 0 0 14 [(0, .int x0)] [] 175 M (fX4_kindOf_14 M x0) := by
  intro M x0 hI
  refine V_iload_n (k := 0) dX4_kindOf_14 rfl rfl ?_
  refine V_bipush (v := 48) dX4_kindOf_15 rfl ?_
  refine V_icmplt (tgt := 28) dX4_kindOf_17 (by decide) (fun h7 => ?_) (fun h7 => ?_)
  · refine V_sub [0] rfl ?_
    exact vX4_kindOf_28 M x0 hI
  · refine V_iload_n (k := 0) dX4_kindOf_20 rfl rfl ?_
    refine V_bipush (v := 57) dX4_kindOf_21 rfl ?_
    refine V_icmpgt (tgt := 28) dX4_kindOf_23 (by decide) (fun h8 => ?_) (fun h8 => ?_)
    · refine V_sub [0] rfl ?_
      exact vX4_kindOf_28 M x0 hI
    · refine V_iconst (v := 2) dX4_kindOf_26 rfl ?_
      exact V_ret (fun _ => hI) (Or.inr (Or.inl ⟨rfl, _, rfl⟩)) dX4_kindOf_27 (fun ty x h1 h2 => by cases h1; rfl) rfl
def fX4_kindOf (M : vM) (x0 : Int32) : Option (vR × vM) := if x0 < 97 then fX4_kindOf_14 M x0 else if 122 < x0 then fX4_kindOf_14 M x0 else rI 1 M
set_option maxRecDepth 20000 in
set_option maxHeartbeats 2000000 in
theorem cX4_kindOf_ok {l : Launch} {D : va_G} {dA : Nat → ClassId} (M : vM) (x0 : Int32) (hI : v_WT M.2.2) : Ct l D dA sX4_kindOf false 175 1 0 0 175 [.int x0] M (fX4_kindOf M x0) := by
  refine Ct_of (lv := [(0, .int x0)]) (by decide +kernel) rfl (Nat.le_of_ble_eq_true rfl) rfl (fun h => by cases h) ?_
  refine V_iload_n (k := 0) dX4_kindOf_0 rfl rfl ?_
  refine V_bipush (v := 97) dX4_kindOf_1 rfl ?_
  refine V_icmplt (tgt := 14) dX4_kindOf_3 (by decide) (fun h9 => ?_) (fun h9 => ?_)
  · refine V_sub [0] rfl ?_
    exact vX4_kindOf_14 M x0 hI
  · refine V_iload_n (k := 0) dX4_kindOf_6 rfl rfl ?_
    refine V_bipush (v := 122) dX4_kindOf_7 rfl ?_
    refine V_icmpgt (tgt := 14) dX4_kindOf_9 (by decide) (fun h10 => ?_) (fun h10 => ?_)
    · refine V_sub [0] rfl ?_
      exact vX4_kindOf_14 M x0 hI
    · refine V_iconst (v := 1) dX4_kindOf_12 rfl ?_
      exact V_ret (fun _ => hI) (Or.inr (Or.inl ⟨rfl, _, rfl⟩)) dX4_kindOf_13 (fun ty x h1 h2 => by cases h1; rfl) rfl
def fX4_addDigit (M : vM) (x1 : Int32) : Option (vR × vM) := if 4 < ((v_si M 3 5 ((M.1 3 5) + 1)).1 3 5) then rV (v_si M 3 5 ((M.1 3 5) + 1)) else rV (v_si (v_si M 3 5 ((M.1 3 5) + 1)) 3 6 ((((v_si M 3 5 ((M.1 3 5) + 1)).1 3 6) * 10) + x1))
set_option maxRecDepth 20000 in
set_option maxHeartbeats 2000000 in
theorem cX4_addDigit_ok {l : Launch} {D : va_G} {dA : Nat → ClassId} (M : vM) (x1 : Int32) (hI : v_WT M.2.2) : Ct l D dA sX4_addDigit false 175 1 0 0 175 [.ref 3, .int x1] M (fX4_addDigit M x1) := by
  refine Ct_of (lv := [(0, .ref 3), (1, .int x1)]) (by decide +kernel) rfl (Nat.le_of_ble_eq_true rfl) rfl (fun h => by cases h) ?_
  refine V_aload_n (k := 0) dX4_addDigit_0 rfl rfl ?_
  refine V_dup dX4_addDigit_1 rfl ?_
  refine V_geti dX4_addDigit_2 rfl (by decide) vf_X4_146 (by decide) ?_
  refine V_iconst (v := 1) dX4_addDigit_5 rfl ?_
  refine V_iadd dX4_addDigit_6 ?_
  refine V_puti dX4_addDigit_7 rfl (by decide) vf_X4_146 (by decide) rfl rfl ?_
  refine V_aload_n (k := 0) dX4_addDigit_10 rfl rfl ?_
  refine V_geti dX4_addDigit_11 rfl (by decide) vf_X4_146 (by decide) ?_
  refine V_iconst (v := 4) dX4_addDigit_14 rfl ?_
  refine V_icmpgt (tgt := 31) dX4_addDigit_15 (by decide) (fun h2 => ?_) (fun h2 => ?_)
  · exact V_ret (fun _ => hI) (Or.inl ⟨rfl, rfl⟩) dX4_addDigit_31 (fun ty x h1 h2 => by cases h1) rfl
  · refine V_aload_n (k := 0) dX4_addDigit_18 rfl rfl ?_
    refine V_aload_n (k := 0) dX4_addDigit_19 rfl rfl ?_
    refine V_geti dX4_addDigit_20 rfl (by decide) vf_X4_149 (by decide) ?_
    refine V_bipush (v := 10) dX4_addDigit_23 rfl ?_
    refine V_imul dX4_addDigit_25 ?_
    refine V_iload_n (k := 1) dX4_addDigit_26 rfl rfl ?_
    refine V_iadd dX4_addDigit_27 ?_
    refine V_puti dX4_addDigit_28 rfl (by decide) vf_X4_149 (by decide) rfl rfl ?_
    exact V_ret (fun _ => hI) (Or.inl ⟨rfl, rfl⟩) dX4_addDigit_31 (fun ty x h1 h2 => by cases h1) rfl
def fX4_advance_176 (k109 : vM → Int32 → Option (vR × vM)) (M : vM) : Option (vR × vM) := bi (fX8_byteAt M (M.1 3 2)) fun y11 M12 => bi (fX4_kindOf M12 y11) fun y15 M16 => if y15 = (M16.1 3 3) then k109 M16 1 else k109 M16 0
set_option maxRecDepth 20000 in
set_option maxHeartbeats 2000000 in
theorem vX4_advance_176 {l : Launch} {D : va_G} {dA : Nat → ClassId} {k109 : vM → Int32 → Option (vR × vM)} (hk109 : ∀ (M : vM) (x1 : Int32), v_WT M.2.2 → V l D dA sX4_advance false 175 2 0 0 109 [(0, .ref 3), (1, .int x1)] [] 175 M (k109 M x1)) : ∀ (M : vM), v_WT M.2.2 → V l D dA sX4_advance false 175 2 0 0 176 [(0, .ref 3)] [] 175 M (fX4_advance_176 k109 M) := by
  intro M hI
  refine V_aload_n (k := 0) dX4_advance_176 rfl rfl ?_
  refine V_getr (k := 1) dX4_advance_177 rfl (by decide) vf_X4_9 (by decide) (v_fin hI 13 rfl) ?_
  refine V_aload_n (k := 0) dX4_advance_180 rfl rfl ?_
  refine V_geti dX4_advance_181 rfl (by decide) vf_X4_19 (by decide) ?_
  refine V_callVi (q := (RX8, TX8, 2)) (cls := 8) (st0 := []) (kc' := 0) (ks' := 0) dX4_advance_184 lk_X4_159 rfl (by decide) rfl rfl rfl (cX8_byteAt_ok M (M.1 3 2) hI) rfl rfl (by decide) (by decide) (Nat.le_of_ble_eq_true rfl) (Or.inl rfl) rfl rfl (by decide) (by decide) (fun y11 M12 e13 hI14 => ?_)
  refine V_callSi (st0 := []) (kc' := 0) (ks' := 0) dX4_advance_187 lk_X4_172 rfl (cX4_kindOf_ok M12 y11 hI14) rfl rfl (by decide) (by decide) (Nat.le_of_ble_eq_true rfl) (Or.inl rfl) rfl rfl (by decide) (by decide) (fun y15 M16 e17 hI18 => ?_)
  refine V_aload_n (k := 0) dX4_advance_190 rfl rfl ?_
  refine V_geti dX4_advance_191 rfl (by decide) vf_X4_31 (by decide) ?_
  refine V_icmpne (tgt := 201) dX4_advance_194 (by decide) (fun h19 => ?_) (fun h19 => ?_)
  · refine V_iconst (v := 0) dX4_advance_201 rfl ?_
    refine V_istore_n (lv' := [(1, .int 0), (0, .ref 3)]) dX4_advance_202 rfl (by decide) rfl ?_
    refine V_goto (tgt := 109) dX4_advance_203 (by decide) ?_
    refine V_sub [1, 0] rfl ?_
    exact hk109 M16 0 hI18
  · refine V_iconst (v := 1) dX4_advance_197 rfl ?_
    refine V_goto (tgt := 202) dX4_advance_198 (by decide) ?_
    refine V_istore_n (lv' := [(1, .int 1), (0, .ref 3)]) dX4_advance_202 rfl (by decide) rfl ?_
    refine V_goto (tgt := 109) dX4_advance_203 (by decide) ?_
    refine V_sub [1, 0] rfl ?_
    exact hk109 M16 1 hI18
def fX4_advance_150 (k109 : vM → Int32 → Option (vR × vM)) (M : vM) : Option (vR × vM) := if ((v_si M 3 2 ((M.1 3 2) + 1)).1 3 3) = 1 then fX4_advance_176 (k109) (v_si M 3 2 ((M.1 3 2) + 1)) else if ((v_si M 3 2 ((M.1 3 2) + 1)).1 3 3) = 2 then fX4_advance_176 (k109) (v_si M 3 2 ((M.1 3 2) + 1)) else k109 (v_si M 3 2 ((M.1 3 2) + 1)) 0
set_option maxRecDepth 20000 in
set_option maxHeartbeats 2000000 in
theorem vX4_advance_150 {l : Launch} {D : va_G} {dA : Nat → ClassId} {k109 : vM → Int32 → Option (vR × vM)} (hk109 : ∀ (M : vM) (x1 : Int32), v_WT M.2.2 → V l D dA sX4_advance false 175 2 0 0 109 [(0, .ref 3), (1, .int x1)] [] 175 M (k109 M x1)) : ∀ (M : vM), v_WT M.2.2 → V l D dA sX4_advance false 175 2 0 0 150 [(0, .ref 3)] [] 175 M (fX4_advance_150 k109 M) := by
  intro M hI
  refine V_aload_n (k := 0) dX4_advance_150 rfl rfl ?_
  refine V_dup dX4_advance_151 rfl ?_
  refine V_geti dX4_advance_152 rfl (by decide) vf_X4_19 (by decide) ?_
  refine V_iconst (v := 1) dX4_advance_155 rfl ?_
  refine V_iadd dX4_advance_156 ?_
  refine V_puti dX4_advance_157 rfl (by decide) vf_X4_19 (by decide) rfl rfl ?_
  refine V_aload_n (k := 0) dX4_advance_160 rfl rfl ?_
  refine V_geti dX4_advance_161 rfl (by decide) vf_X4_31 (by decide) ?_
  refine V_iconst (v := 1) dX4_advance_164 rfl ?_
  refine V_icmpeq (tgt := 176) dX4_advance_165 (by decide) (fun h20 => ?_) (fun h20 => ?_)
  · refine V_sub [0] rfl ?_
    exact vX4_advance_176 (hk109) (v_si M 3 2 ((M.1 3 2) + 1)) hI
  · refine V_aload_n (k := 0) dX4_advance_168 rfl rfl ?_
    refine V_geti dX4_advance_169 rfl (by decide) vf_X4_31 (by decide) ?_
    refine V_iconst (v := 2) dX4_advance_172 rfl ?_
    refine V_icmpne (tgt := 201) dX4_advance_173 (by decide) (fun h21 => ?_) (fun h21 => ?_)
    · refine V_iconst (v := 0) dX4_advance_201 rfl ?_
      refine V_istore_n (lv' := [(1, .int 0), (0, .ref 3)]) dX4_advance_202 rfl (by decide) rfl ?_
      refine V_goto (tgt := 109) dX4_advance_203 (by decide) ?_
      refine V_sub [1, 0] rfl ?_
      exact hk109 (v_si M 3 2 ((M.1 3 2) + 1)) 0 hI
    · refine V_sub [0] rfl ?_
      exact vX4_advance_176 (hk109) (v_si M 3 2 ((M.1 3 2) + 1)) hI
def fX4_advance_109 : Nat → vM → Int32 → Option (vR × vM)
  | 0, _, _ => none
  | n9 + 1, M, x1 => if (M.1 3 1) ≤ (M.1 3 2) then rV M else if x1 = 0 then rV M else if (M.1 3 3) = 2 then bi (fX8_byteAt M (M.1 3 2)) fun y25 M26 => bv (fX4_addDigit M26 (y25 - 48)) fun M29 => fX4_advance_150 (fX4_advance_109 n9) M29 else fX4_advance_150 (fX4_advance_109 n9) M
set_option maxRecDepth 20000 in
set_option maxHeartbeats 2000000 in
theorem vX4_advance_109 {l : Launch} {D : va_G} {dA : Nat → ClassId} : ∀ (n9 : Nat) (M : vM) (x1 : Int32), v_WT M.2.2 → V l D dA sX4_advance false 175 2 0 0 109 [(0, .ref 3), (1, .int x1)] [] 175 M (fX4_advance_109 n9 M x1) := by
  intro n9
  induction n9 with
  | zero => intros; exact V_none
  | succ n9 ih =>
    intro M x1 hI
    refine V_aload_n (k := 0) dX4_advance_109 rfl rfl ?_
    refine V_geti dX4_advance_110 rfl (by decide) vf_X4_19 (by decide) ?_
    refine V_aload_n (k := 0) dX4_advance_113 rfl rfl ?_
    refine V_geti dX4_advance_114 rfl (by decide) vf_X4_15 (by decide) ?_
    refine V_icmpge (tgt := 206) dX4_advance_117 (by decide) (fun h22 => ?_) (fun h22 => ?_)
    · exact V_ret (fun _ => hI) (Or.inl ⟨rfl, rfl⟩) dX4_advance_206 (fun ty x h1 h2 => by cases h1) rfl
    · refine V_iload_n (k := 1) dX4_advance_120 rfl rfl ?_
      refine V_ifeq (tgt := 206) dX4_advance_121 (by decide) (fun h23 => ?_) (fun h23 => ?_)
      · exact V_ret (fun _ => hI) (Or.inl ⟨rfl, rfl⟩) dX4_advance_206 (fun ty x h1 h2 => by cases h1) rfl
      · refine V_aload_n (k := 0) dX4_advance_124 rfl rfl ?_
        refine V_geti dX4_advance_125 rfl (by decide) vf_X4_31 (by decide) ?_
        refine V_iconst (v := 2) dX4_advance_128 rfl ?_
        refine V_icmpne (tgt := 150) dX4_advance_129 (by decide) (fun h24 => ?_) (fun h24 => ?_)
        · refine V_sub [0] rfl ?_
          exact vX4_advance_150 (ih) M hI
        · refine V_aload_n (k := 0) dX4_advance_132 rfl rfl ?_
          refine V_aload_n (k := 0) dX4_advance_133 rfl rfl ?_
          refine V_getr (k := 1) dX4_advance_134 rfl (by decide) vf_X4_9 (by decide) (v_fin hI 13 rfl) ?_
          refine V_aload_n (k := 0) dX4_advance_137 rfl rfl ?_
          refine V_geti dX4_advance_138 rfl (by decide) vf_X4_19 (by decide) ?_
          refine V_callVi (q := (RX8, TX8, 2)) (cls := 8) (st0 := [.ref 3]) (kc' := 0) (ks' := 0) dX4_advance_141 lk_X4_159 rfl (by decide) rfl rfl rfl (cX8_byteAt_ok M (M.1 3 2) hI) rfl rfl (by decide) (by decide) (Nat.le_of_ble_eq_true rfl) (Or.inl rfl) rfl rfl (by decide) (by decide) (fun y25 M26 e27 hI28 => ?_)
          refine V_bipush (v := 48) dX4_advance_144 rfl ?_
          refine V_isub dX4_advance_146 ?_
          refine V_callVv (q := (RX4, TX4, 9)) (cls := 4) (st0 := []) (kc' := 0) (ks' := 0) dX4_advance_147 lk_X4_175 rfl (by decide) rfl rfl rfl (cX4_addDigit_ok M26 (y25 - 48) hI28) rfl rfl (by decide) (by decide) (Nat.le_of_ble_eq_true rfl) (Or.inl rfl) rfl rfl (by decide) (by decide) (fun  M29 e30 hI31 => ?_)
          refine V_sub [0] rfl ?_
          exact vX4_advance_150 (ih) M29 hI31
def fX4_advance_89 (M : vM) (s1 : Int32) : Option (vR × vM) := if ((v_si M 3 3 s1).1 3 1) ≤ ((v_si M 3 3 s1).1 3 2) then fX4_advance_109 FU (v_si M 3 3 s1) 0 else fX4_advance_109 FU (v_si M 3 3 s1) 1
set_option maxRecDepth 20000 in
set_option maxHeartbeats 2000000 in
theorem vX4_advance_89 {l : Launch} {D : va_G} {dA : Nat → ClassId} : ∀ (M : vM) (s1 : Int32), v_WT M.2.2 → V l D dA sX4_advance false 175 2 0 0 89 [(0, .ref 3)] [.int s1, .ref 3] 175 M (fX4_advance_89 M s1) := by
  intro M s1 hI
  refine V_puti dX4_advance_89 rfl (by decide) vf_X4_31 (by decide) rfl rfl ?_
  refine V_aload_n (k := 0) dX4_advance_92 rfl rfl ?_
  refine V_geti dX4_advance_93 rfl (by decide) vf_X4_19 (by decide) ?_
  refine V_aload_n (k := 0) dX4_advance_96 rfl rfl ?_
  refine V_geti dX4_advance_97 rfl (by decide) vf_X4_15 (by decide) ?_
  refine V_icmpge (tgt := 107) dX4_advance_100 (by decide) (fun h32 => ?_) (fun h32 => ?_)
  · refine V_iconst (v := 0) dX4_advance_107 rfl ?_
    refine V_istore_n (lv' := [(1, .int 0), (0, .ref 3)]) dX4_advance_108 rfl (by decide) rfl ?_
    refine V_sub [1, 0] rfl ?_
    exact vX4_advance_109 FU (v_si M 3 3 s1) 0 hI
  · refine V_iconst (v := 1) dX4_advance_103 rfl ?_
    refine V_goto (tgt := 108) dX4_advance_104 (by decide) ?_
    refine V_istore_n (lv' := [(1, .int 1), (0, .ref 3)]) dX4_advance_108 rfl (by decide) rfl ?_
    refine V_sub [1, 0] rfl ?_
    exact vX4_advance_109 FU (v_si M 3 3 s1) 1 hI
def fX4_advance_41 (M : vM) : Option (vR × vM) := if ((v_si (v_si (v_si M 3 4 (M.1 3 2)) 3 5 0) 3 6 0).1 3 1) ≤ ((v_si (v_si (v_si M 3 4 (M.1 3 2)) 3 5 0) 3 6 0).1 3 2) then fX4_advance_89 (v_si (v_si (v_si M 3 4 (M.1 3 2)) 3 5 0) 3 6 0) 0 else bi (fX8_byteAt (v_si (v_si (v_si M 3 4 (M.1 3 2)) 3 5 0) 3 6 0) ((v_si (v_si (v_si M 3 4 (M.1 3 2)) 3 5 0) 3 6 0).1 3 2)) fun y34 M35 => bi (fX4_kindOf M35 y34) fun y38 M39 => fX4_advance_89 M39 y38
set_option maxRecDepth 20000 in
set_option maxHeartbeats 2000000 in
theorem vX4_advance_41 {l : Launch} {D : va_G} {dA : Nat → ClassId} : ∀ (M : vM), v_WT M.2.2 → V l D dA sX4_advance false 175 2 0 0 41 [(0, .ref 3)] [] 175 M (fX4_advance_41 M) := by
  intro M hI
  refine V_aload_n (k := 0) dX4_advance_41 rfl rfl ?_
  refine V_aload_n (k := 0) dX4_advance_42 rfl rfl ?_
  refine V_geti dX4_advance_43 rfl (by decide) vf_X4_19 (by decide) ?_
  refine V_puti dX4_advance_46 rfl (by decide) vf_X4_152 (by decide) rfl rfl ?_
  refine V_aload_n (k := 0) dX4_advance_49 rfl rfl ?_
  refine V_iconst (v := 0) dX4_advance_50 rfl ?_
  refine V_puti dX4_advance_51 rfl (by decide) vf_X4_146 (by decide) rfl rfl ?_
  refine V_aload_n (k := 0) dX4_advance_54 rfl rfl ?_
  refine V_iconst (v := 0) dX4_advance_55 rfl ?_
  refine V_puti dX4_advance_56 rfl (by decide) vf_X4_149 (by decide) rfl rfl ?_
  refine V_aload_n (k := 0) dX4_advance_59 rfl rfl ?_
  refine V_aload_n (k := 0) dX4_advance_60 rfl rfl ?_
  refine V_geti dX4_advance_61 rfl (by decide) vf_X4_19 (by decide) ?_
  refine V_aload_n (k := 0) dX4_advance_64 rfl rfl ?_
  refine V_geti dX4_advance_65 rfl (by decide) vf_X4_15 (by decide) ?_
  refine V_icmpge (tgt := 88) dX4_advance_68 (by decide) (fun h33 => ?_) (fun h33 => ?_)
  · refine V_iconst (v := 0) dX4_advance_88 rfl ?_
    refine V_sub [0] rfl ?_
    exact vX4_advance_89 (v_si (v_si (v_si M 3 4 (M.1 3 2)) 3 5 0) 3 6 0) 0 hI
  · refine V_aload_n (k := 0) dX4_advance_71 rfl rfl ?_
    refine V_getr (k := 1) dX4_advance_72 rfl (by decide) vf_X4_9 (by decide) (v_fin hI 13 rfl) ?_
    refine V_aload_n (k := 0) dX4_advance_75 rfl rfl ?_
    refine V_geti dX4_advance_76 rfl (by decide) vf_X4_19 (by decide) ?_
    refine V_callVi (q := (RX8, TX8, 2)) (cls := 8) (st0 := [.ref 3]) (kc' := 0) (ks' := 0) dX4_advance_79 lk_X4_159 rfl (by decide) rfl rfl rfl (cX8_byteAt_ok (v_si (v_si (v_si M 3 4 (M.1 3 2)) 3 5 0) 3 6 0) ((v_si (v_si (v_si M 3 4 (M.1 3 2)) 3 5 0) 3 6 0).1 3 2) hI) rfl rfl (by decide) (by decide) (Nat.le_of_ble_eq_true rfl) (Or.inl rfl) rfl rfl (by decide) (by decide) (fun y34 M35 e36 hI37 => ?_)
    refine V_callSi (st0 := [.ref 3]) (kc' := 0) (ks' := 0) dX4_advance_82 lk_X4_172 rfl (cX4_kindOf_ok M35 y34 hI37) rfl rfl (by decide) (by decide) (Nat.le_of_ble_eq_true rfl) (Or.inl rfl) rfl rfl (by decide) (by decide) (fun y38 M39 e40 hI41 => ?_)
    refine V_goto (tgt := 89) dX4_advance_85 (by decide) ?_
    refine V_sub [0] rfl ?_
    exact vX4_advance_89 M39 y38 hI41
def fX4_advance_0 : Nat → vM → Option (vR × vM)
  | 0, _ => none
  | n9 + 1, M => if (M.1 3 1) ≤ (M.1 3 2) then fX4_advance_41 M else bi (fX8_byteAt M (M.1 3 2)) fun y43 M44 => bi (fX4_isBlank M44 y43) fun y47 M48 => if y47 = 0 then fX4_advance_41 M48 else fX4_advance_0 n9 (v_si M48 3 2 ((M48.1 3 2) + 1))
set_option maxRecDepth 20000 in
set_option maxHeartbeats 2000000 in
theorem vX4_advance_0 {l : Launch} {D : va_G} {dA : Nat → ClassId} : ∀ (n9 : Nat) (M : vM), v_WT M.2.2 → V l D dA sX4_advance false 175 2 0 0 0 [(0, .ref 3)] [] 175 M (fX4_advance_0 n9 M) := by
  intro n9
  induction n9 with
  | zero => intros; exact V_none
  | succ n9 ih =>
    intro M hI
    refine V_aload_n (k := 0) dX4_advance_0 rfl rfl ?_
    refine V_geti dX4_advance_1 rfl (by decide) vf_X4_19 (by decide) ?_
    refine V_aload_n (k := 0) dX4_advance_4 rfl rfl ?_
    refine V_geti dX4_advance_5 rfl (by decide) vf_X4_15 (by decide) ?_
    refine V_icmpge (tgt := 41) dX4_advance_8 (by decide) (fun h42 => ?_) (fun h42 => ?_)
    · refine V_sub [0] rfl ?_
      exact vX4_advance_41 M hI
    · refine V_aload_n (k := 0) dX4_advance_11 rfl rfl ?_
      refine V_getr (k := 1) dX4_advance_12 rfl (by decide) vf_X4_9 (by decide) (v_fin hI 13 rfl) ?_
      refine V_aload_n (k := 0) dX4_advance_15 rfl rfl ?_
      refine V_geti dX4_advance_16 rfl (by decide) vf_X4_19 (by decide) ?_
      refine V_callVi (q := (RX8, TX8, 2)) (cls := 8) (st0 := []) (kc' := 0) (ks' := 0) dX4_advance_19 lk_X4_159 rfl (by decide) rfl rfl rfl (cX8_byteAt_ok M (M.1 3 2) hI) rfl rfl (by decide) (by decide) (Nat.le_of_ble_eq_true rfl) (Or.inl rfl) rfl rfl (by decide) (by decide) (fun y43 M44 e45 hI46 => ?_)
      refine V_callSi (st0 := []) (kc' := 0) (ks' := 0) dX4_advance_22 lk_X4_169 rfl (cX4_isBlank_ok M44 y43 hI46) rfl rfl (by decide) (by decide) (Nat.le_of_ble_eq_true rfl) (Or.inl rfl) rfl rfl (by decide) (by decide) (fun y47 M48 e49 hI50 => ?_)
      refine V_ifeq (tgt := 41) dX4_advance_25 (by decide) (fun h51 => ?_) (fun h51 => ?_)
      · refine V_sub [0] rfl ?_
        exact vX4_advance_41 M48 hI50
      · refine V_aload_n (k := 0) dX4_advance_28 rfl rfl ?_
        refine V_dup dX4_advance_29 rfl ?_
        refine V_geti dX4_advance_30 rfl (by decide) vf_X4_19 (by decide) ?_
        refine V_iconst (v := 1) dX4_advance_33 rfl ?_
        refine V_iadd dX4_advance_34 ?_
        refine V_puti dX4_advance_35 rfl (by decide) vf_X4_19 (by decide) rfl rfl ?_
        refine V_goto (tgt := 0) dX4_advance_38 (by decide) ?_
        refine V_sub [0] rfl ?_
        exact ih (v_si M48 3 2 ((M48.1 3 2) + 1)) hI50
def fX4_advance (M : vM) : Option (vR × vM) := fX4_advance_0 FU M
set_option maxRecDepth 20000 in
set_option maxHeartbeats 2000000 in
theorem cX4_advance_ok {l : Launch} {D : va_G} {dA : Nat → ClassId} (M : vM) (hI : v_WT M.2.2) : Ct l D dA sX4_advance false 175 2 0 0 175 [.ref 3] M (fX4_advance M) := by
  refine Ct_of (lv := [(0, .ref 3)]) (by decide +kernel) rfl (Nat.le_of_ble_eq_true rfl) rfl (fun h => by cases h) ?_
  refine V_sub [0] rfl ?_
  exact vX4_advance_0 FU M hI
def fX4_isWord_28 : Nat → vM → Nat → Int32 → Option (vR × vM)
  | 0, _, _, _ => none
  | n9 + 1, M, x1, x2 => bi (fJ0_length_8abf5 M x1) fun y5 M6 => if y5 ≤ x2 then rI 1 M6 else bi (fX8_byteAt M6 ((M6.1 3 4) + x2)) fun y10 M11 => bi (fJ0_charAt_5068e M11 x1 x2) fun y14 M15 => if y10 = y14 then fX4_isWord_28 n9 M15 x1 (x2 + 1) else rI 0 M15
set_option maxRecDepth 20000 in
set_option maxHeartbeats 2000000 in
theorem vX4_isWord_28 {l : Launch} {D : va_G} {dA : Nat → ClassId} : ∀ (n9 : Nat) (M : vM) (x1 : Nat) (x2 : Int32) (f1 : x1 < v_nS), v_WT M.2.2 → V l D dA sX4_isWord false 175 5 0 0 28 [(0, .ref 3), (1, .ref (1000 + x1)), (2, .int x2)] [] 175 M (fX4_isWord_28 n9 M x1 x2) := by
  intro n9
  induction n9 with
  | zero => intros; exact V_none
  | succ n9 ih =>
    intro M x1 x2 f1 hI
    refine V_iload_n (k := 2) dX4_isWord_28 rfl rfl ?_
    refine V_aload_n (k := 1) dX4_isWord_29 rfl rfl ?_
    refine V_callVsi (i := x1) (st0 := [.int x2]) (kc' := 0) (ks' := 0) dX4_isWord_30 lk_X4_155 rfl f1 rfl (cJ0_length_8abf5_ok M x1 f1 hI) rfl rfl (by decide) (by decide) (Nat.le_of_ble_eq_true rfl) (Or.inl rfl) rfl rfl (by decide) (by decide) (fun y5 M6 e7 hI8 => ?_)
    refine V_icmpge (tgt := 65) dX4_isWord_33 (by decide) (fun h9 => ?_) (fun h9 => ?_)
    · refine V_iconst (v := 1) dX4_isWord_65 rfl ?_
      exact V_ret (fun _ => hI8) (Or.inr (Or.inr (Or.inl ⟨rfl, _, rfl⟩))) dX4_isWord_66 (fun ty x h1 h2 => by cases h1; cases h2; rfl) rfl
    · refine V_aload_n (k := 0) dX4_isWord_36 rfl rfl ?_
      refine V_getr (k := 1) dX4_isWord_37 rfl (by decide) vf_X4_9 (by decide) (v_fin hI8 13 rfl) ?_
      refine V_aload_n (k := 0) dX4_isWord_40 rfl rfl ?_
      refine V_geti dX4_isWord_41 rfl (by decide) vf_X4_152 (by decide) ?_
      refine V_iload_n (k := 2) dX4_isWord_44 rfl rfl ?_
      refine V_iadd dX4_isWord_45 ?_
      refine V_callVi (q := (RX8, TX8, 2)) (cls := 8) (st0 := []) (kc' := 0) (ks' := 0) dX4_isWord_46 lk_X4_159 rfl (by decide) rfl rfl rfl (cX8_byteAt_ok M6 ((M6.1 3 4) + x2) hI8) rfl rfl (by decide) (by decide) (Nat.le_of_ble_eq_true rfl) (Or.inl rfl) rfl rfl (by decide) (by decide) (fun y10 M11 e12 hI13 => ?_)
      refine V_aload_n (k := 1) dX4_isWord_49 rfl rfl ?_
      refine V_iload_n (k := 2) dX4_isWord_50 rfl rfl ?_
      refine V_callVsi (i := x1) (st0 := [.int y10]) (kc' := 0) (ks' := 0) dX4_isWord_51 lk_X4_165 rfl f1 rfl (cJ0_charAt_5068e_ok M11 x1 x2 f1 hI13) rfl rfl (by decide) (by decide) (Nat.le_of_ble_eq_true rfl) (Or.inl rfl) rfl rfl (by decide) (by decide) (fun y14 M15 e16 hI17 => ?_)
      refine V_icmpeq (tgt := 59) dX4_isWord_54 (by decide) (fun h18 => ?_) (fun h18 => ?_)
      · refine V_iinc (k := 2) (v := x2 + 1) (lv' := [(2, .int (x2 + 1)), (0, .ref 3), (1, .ref (1000 + x1))]) dX4_isWord_59 rfl rfl (by decide) rfl ?_
        refine V_goto (tgt := 28) dX4_isWord_62 (by decide) ?_
        refine V_sub [1, 2, 0] rfl ?_
        exact ih M15 x1 (x2 + 1) f1 hI17
      · refine V_iconst (v := 0) dX4_isWord_57 rfl ?_
        exact V_ret (fun _ => hI17) (Or.inr (Or.inr (Or.inl ⟨rfl, _, rfl⟩))) dX4_isWord_58 (fun ty x h1 h2 => by cases h1; cases h2; rfl) rfl
def fX4_isWord (M : vM) (x1 : Nat) : Option (vR × vM) := if (M.1 3 3) = 1 then bi (fJ0_length_8abf5 M x1) fun y20 M21 => if ((M.1 3 2) - (M.1 3 4)) = y20 then fX4_isWord_28 FU M21 x1 0 else rI 0 M21 else rI 0 M
set_option maxRecDepth 20000 in
set_option maxHeartbeats 2000000 in
theorem cX4_isWord_ok {l : Launch} {D : va_G} {dA : Nat → ClassId} (M : vM) (x1 : Nat) (f1 : x1 < v_nS) (hI : v_WT M.2.2) : Ct l D dA sX4_isWord false 175 5 0 0 175 [.ref 3, .ref (1000 + x1)] M (fX4_isWord M x1) := by
  refine Ct_of (lv := [(0, .ref 3), (1, .ref (1000 + x1))]) (by decide +kernel) rfl (Nat.le_of_ble_eq_true rfl) rfl (fun h => by cases h) ?_
  refine V_aload_n (k := 0) dX4_isWord_0 rfl rfl ?_
  refine V_geti dX4_isWord_1 rfl (by decide) vf_X4_31 (by decide) ?_
  refine V_iconst (v := 1) dX4_isWord_4 rfl ?_
  refine V_icmpne (tgt := 24) dX4_isWord_5 (by decide) (fun h19 => ?_) (fun h19 => ?_)
  · refine V_iconst (v := 0) dX4_isWord_24 rfl ?_
    exact V_ret (fun _ => hI) (Or.inr (Or.inr (Or.inl ⟨rfl, _, rfl⟩))) dX4_isWord_25 (fun ty x h1 h2 => by cases h1; cases h2; rfl) rfl
  · refine V_aload_n (k := 0) dX4_isWord_8 rfl rfl ?_
    refine V_geti dX4_isWord_9 rfl (by decide) vf_X4_19 (by decide) ?_
    refine V_aload_n (k := 0) dX4_isWord_12 rfl rfl ?_
    refine V_geti dX4_isWord_13 rfl (by decide) vf_X4_152 (by decide) ?_
    refine V_isub dX4_isWord_16 ?_
    refine V_aload_n (k := 1) dX4_isWord_17 rfl rfl ?_
    refine V_callVsi (i := x1) (st0 := [.int ((M.1 3 2) - (M.1 3 4))]) (kc' := 0) (ks' := 0) dX4_isWord_18 lk_X4_155 rfl f1 rfl (cJ0_length_8abf5_ok M x1 f1 hI) rfl rfl (by decide) (by decide) (Nat.le_of_ble_eq_true rfl) (Or.inl rfl) rfl rfl (by decide) (by decide) (fun y20 M21 e22 hI23 => ?_)
    refine V_icmpeq (tgt := 26) dX4_isWord_21 (by decide) (fun h24 => ?_) (fun h24 => ?_)
    · refine V_iconst (v := 0) dX4_isWord_26 rfl ?_
      refine V_istore_n (lv' := [(2, .int 0), (0, .ref 3), (1, .ref (1000 + x1))]) dX4_isWord_27 rfl (by decide) rfl ?_
      refine V_sub [1, 2, 0] rfl ?_
      exact vX4_isWord_28 FU M21 x1 0 f1 hI23
    · refine V_iconst (v := 0) dX4_isWord_24 rfl ?_
      exact V_ret (fun _ => hI23) (Or.inr (Or.inr (Or.inl ⟨rfl, _, rfl⟩))) dX4_isWord_25 (fun ty x h1 h2 => by cases h1; cases h2; rfl) rfl
def fX4_fail (M : vM) (x1 : Int32) : Option (vR × vM) := rI 0 (v_si M 3 7 x1)
set_option maxRecDepth 20000 in
set_option maxHeartbeats 2000000 in
theorem cX4_fail_ok {l : Launch} {D : va_G} {dA : Nat → ClassId} (M : vM) (x1 : Int32) (hI : v_WT M.2.2) : Ct l D dA sX4_fail false 175 1 0 0 175 [.ref 3, .int x1] M (fX4_fail M x1) := by
  refine Ct_of (lv := [(0, .ref 3), (1, .int x1)]) (by decide +kernel) rfl (Nat.le_of_ble_eq_true rfl) rfl (fun h => by cases h) ?_
  refine V_aload_n (k := 0) dX4_fail_0 rfl rfl ?_
  refine V_iload_n (k := 1) dX4_fail_1 rfl rfl ?_
  refine V_puti dX4_fail_2 rfl (by decide) vf_X4_22 (by decide) rfl rfl ?_
  refine V_iconst (v := 0) dX4_fail_5 rfl ?_
  exact V_ret (fun _ => hI) (Or.inr (Or.inr (Or.inl ⟨rfl, _, rfl⟩))) dX4_fail_6 (fun ty x h1 h2 => by cases h1; cases h2; rfl) rfl
def fX3_begin (M : vM) (x0 : Nat) (x1 : Int32) : Option (vR × vM) := bv (fJ7_fill_53178 (v_si (v_si (v_si (v_si (v_si (v_si (v_si M x0 0 x1) x0 1 0) x0 2 0) x0 3 0) x0 4 0) x0 5 0) x0 6 0) (x0 + 4) 0) fun M1 => bv (fJ7_fill_53178 M1 (x0 + 5) 0) fun M4 => rV M4
set_option maxRecDepth 20000 in
set_option maxHeartbeats 2000000 in
theorem cX3_begin_ok {l : Launch} {D : va_G} {dA : Nat → ClassId} (M : vM) (x0 : Nat) (x1 : Int32) (f0 : v_isP x0) (hI : v_WT M.2.2) : Ct l D dA sX3_begin false 175 2 0 0 175 [.ref x0, .int x1] M (fX3_begin M x0 x1) := by
  refine Ct_of (lv := [(0, .ref x0), (1, .int x1)]) (by decide +kernel) rfl (Nat.le_of_ble_eq_true rfl) rfl (fun h => by cases h) ?_
  refine V_aload_n (k := 0) dX3_begin_0 rfl rfl ?_
  refine V_iload_n (k := 1) dX3_begin_1 rfl rfl ?_
  refine V_puti dX3_begin_2 (v_LP f0).2.1 (v_LP f0).1 vf_X3_27 (by decide) rfl rfl ?_
  refine V_aload_n (k := 0) dX3_begin_5 rfl rfl ?_
  refine V_iconst (v := 0) dX3_begin_6 rfl ?_
  refine V_puti dX3_begin_7 (v_LP f0).2.1 (v_LP f0).1 vf_X3_31 (by decide) rfl rfl ?_
  refine V_aload_n (k := 0) dX3_begin_10 rfl rfl ?_
  refine V_iconst (v := 0) dX3_begin_11 rfl ?_
  refine V_puti dX3_begin_12 (v_LP f0).2.1 (v_LP f0).1 vf_X3_34 (by decide) rfl rfl ?_
  refine V_aload_n (k := 0) dX3_begin_15 rfl rfl ?_
  refine V_iconst (v := 0) dX3_begin_16 rfl ?_
  refine V_puti dX3_begin_17 (v_LP f0).2.1 (v_LP f0).1 vf_X3_37 (by decide) rfl rfl ?_
  refine V_aload_n (k := 0) dX3_begin_20 rfl rfl ?_
  refine V_iconst (v := 0) dX3_begin_21 rfl ?_
  refine V_puti dX3_begin_22 (v_LP f0).2.1 (v_LP f0).1 vf_X3_40 (by decide) rfl rfl ?_
  refine V_aload_n (k := 0) dX3_begin_25 rfl rfl ?_
  refine V_iconst (v := 0) dX3_begin_26 rfl ?_
  refine V_puti dX3_begin_27 (v_LP f0).2.1 (v_LP f0).1 vf_X3_43 (by decide) rfl rfl ?_
  refine V_aload_n (k := 0) dX3_begin_30 rfl rfl ?_
  refine V_iconst (v := 0) dX3_begin_31 rfl ?_
  refine V_puti dX3_begin_32 (v_LP f0).2.1 (v_LP f0).1 vf_X3_46 (by decide) rfl rfl ?_
  refine V_aload_n (k := 0) dX3_begin_35 rfl rfl ?_
  refine V_getr (k := x0 + 4) dX3_begin_36 (v_LP f0).2.1 (v_LP f0).1 vf_X3_21 (by decide) (v_finP hI f0).2.2.2.1 ?_
  refine V_iconst (v := 0) dX3_begin_39 rfl ?_
  refine V_callSv (st0 := []) (kc' := 0) (ks' := 0) dX3_begin_40 lk_X3_49 rfl (cJ7_fill_53178_ok (v_si (v_si (v_si (v_si (v_si (v_si (v_si M x0 0 x1) x0 1 0) x0 2 0) x0 3 0) x0 4 0) x0 5 0) x0 6 0) (x0 + 4) 0 (v_isA_of (v_LP f0).2.2.2.2.2.2.1 (v_LP f0).2.2.1.2.2.2.1) hI) rfl rfl (by decide) (by decide) (Nat.le_of_ble_eq_true rfl) (Or.inl rfl) rfl rfl (by decide) (by decide) (fun  M1 e2 hI3 => ?_)
  refine V_aload_n (k := 0) dX3_begin_43 rfl rfl ?_
  refine V_getr (k := x0 + 5) dX3_begin_44 (v_LP f0).2.1 (v_LP f0).1 vf_X3_24 (by decide) (v_finP hI3 f0).2.2.2.2 ?_
  refine V_iconst (v := 0) dX3_begin_47 rfl ?_
  refine V_callSv (st0 := []) (kc' := 0) (ks' := 0) dX3_begin_48 lk_X3_49 rfl (cJ7_fill_53178_ok M1 (x0 + 5) 0 (v_isA_of (v_LP f0).2.2.2.2.2.2.2 (v_LP f0).2.2.1.2.2.2.2) hI3) rfl rfl (by decide) (by decide) (Nat.le_of_ble_eq_true rfl) (Or.inl rfl) rfl rfl (by decide) (by decide) (fun  M4 e5 hI6 => ?_)
  exact V_ret (fun _ => hI6) (Or.inl ⟨rfl, rfl⟩) dX3_begin_51 (fun ty x h1 h2 => by cases h1) rfl
def fX4_readNumber_41 (k47 : vM → Option (vR × vM)) (M : vM) : Option (vR × vM) := bi (fX4_fail M 2) fun y6 M7 => k47 M7
set_option maxRecDepth 20000 in
set_option maxHeartbeats 2000000 in
theorem vX4_readNumber_41 {l : Launch} {D : va_G} {dA : Nat → ClassId} {k47 : vM → Option (vR × vM)} (hk47 : ∀ (M : vM), v_WT M.2.2 → V l D dA sX4_readNumber false 175 3 0 0 47 [(0, .ref 3)] [] 175 M (k47 M)) : ∀ (M : vM), v_WT M.2.2 → V l D dA sX4_readNumber false 175 3 0 0 41 [(0, .ref 3)] [] 175 M (fX4_readNumber_41 k47 M) := by
  intro M hI
  refine V_aload_n (k := 0) dX4_readNumber_41 rfl rfl ?_
  refine V_iconst (v := 2) dX4_readNumber_42 rfl ?_
  refine V_callVi (q := (RX4, TX4, 9)) (cls := 4) (st0 := []) (kc' := 0) (ks' := 0) dX4_readNumber_43 lk_X4_52 rfl (by decide) rfl rfl rfl (cX4_fail_ok M 2 hI) rfl rfl (by decide) (by decide) (Nat.le_of_ble_eq_true rfl) (Or.inl rfl) rfl rfl (by decide) (by decide) (fun y6 M7 e8 hI9 => ?_)
  refine V_pop dX4_readNumber_46 rfl ?_
  refine V_sub [0] rfl ?_
  exact hk47 M7 hI9
def fX4_readNumber_47 (M : vM) : Option (vR × vM) := if (M.1 3 7) = 0 then bv (fX4_advance M ) fun M11 => rI (M.1 3 6) M11 else rI (M.1 3 6) M
set_option maxRecDepth 20000 in
set_option maxHeartbeats 2000000 in
theorem vX4_readNumber_47 {l : Launch} {D : va_G} {dA : Nat → ClassId} : ∀ (M : vM), v_WT M.2.2 → V l D dA sX4_readNumber false 175 3 0 0 47 [(0, .ref 3)] [] 175 M (fX4_readNumber_47 M) := by
  intro M hI
  refine V_aload_n (k := 0) dX4_readNumber_47 rfl rfl ?_
  refine V_geti dX4_readNumber_48 rfl (by decide) vf_X4_149 (by decide) ?_
  refine V_istore_n (lv' := [(3, .int (M.1 3 6)), (0, .ref 3)]) dX4_readNumber_51 rfl (by decide) rfl ?_
  refine V_aload_n (k := 1) dX4_readNumber_52 rfl rfl ?_
  refine V_geti dX4_readNumber_53 rfl (by decide) vf_X4_22 (by decide) ?_
  refine V_ifne (tgt := 63) dX4_readNumber_56 (by decide) (fun h10 => ?_) (fun h10 => ?_)
  · refine V_iload_n (k := 0) dX4_readNumber_63 rfl rfl ?_
    exact V_ret (fun _ => hI) (Or.inr (Or.inl ⟨rfl, _, rfl⟩)) dX4_readNumber_64 (fun ty x h1 h2 => by cases h1; rfl) rfl
  · refine V_aload_n (k := 1) dX4_readNumber_59 rfl rfl ?_
    refine V_callVv (q := (RX4, TX4, 9)) (cls := 4) (st0 := []) (kc' := 0) (ks' := 0) dX4_readNumber_60 lk_X4_28 rfl (by decide) rfl rfl rfl (cX4_advance_ok M  hI) rfl rfl (by decide) (by decide) (Nat.le_of_ble_eq_true rfl) (Or.inl rfl) rfl rfl (by decide) (by decide) (fun  M11 e12 hI13 => ?_)
    refine V_iload_n (k := 0) dX4_readNumber_63 rfl rfl ?_
    exact V_ret (fun _ => hI13) (Or.inr (Or.inl ⟨rfl, _, rfl⟩)) dX4_readNumber_64 (fun ty x h1 h2 => by cases h1; rfl) rfl
def fX4_readNumber (M : vM) (x1 : Int32) (x2 : Int32) : Option (vR × vM) := if (M.1 3 3) = 2 then if 4 < (M.1 3 5) then fX4_readNumber_41 (fX4_readNumber_47) M else if (M.1 3 6) < x1 then fX4_readNumber_41 (fX4_readNumber_47) M else if (M.1 3 6) ≤ x2 then fX4_readNumber_47 M else fX4_readNumber_41 (fX4_readNumber_47) M else bi (fX4_fail M 1) fun y18 M19 => fX4_readNumber_47 M19
set_option maxRecDepth 20000 in
set_option maxHeartbeats 2000000 in
theorem cX4_readNumber_ok {l : Launch} {D : va_G} {dA : Nat → ClassId} (M : vM) (x1 : Int32) (x2 : Int32) (hI : v_WT M.2.2) : Ct l D dA sX4_readNumber false 175 3 0 0 175 [.ref 3, .int x1, .int x2] M (fX4_readNumber M x1 x2) := by
  refine Ct_of (lv := [(0, .ref 3), (1, .int x1), (2, .int x2)]) (by decide +kernel) rfl (Nat.le_of_ble_eq_true rfl) rfl (fun h => by cases h) ?_
  refine V_aload_n (k := 0) dX4_readNumber_0 rfl rfl ?_
  refine V_geti dX4_readNumber_1 rfl (by decide) vf_X4_31 (by decide) ?_
  refine V_iconst (v := 2) dX4_readNumber_4 rfl ?_
  refine V_icmpeq (tgt := 17) dX4_readNumber_5 (by decide) (fun h14 => ?_) (fun h14 => ?_)
  · refine V_aload_n (k := 0) dX4_readNumber_17 rfl rfl ?_
    refine V_geti dX4_readNumber_18 rfl (by decide) vf_X4_146 (by decide) ?_
    refine V_iconst (v := 4) dX4_readNumber_21 rfl ?_
    refine V_icmpgt (tgt := 41) dX4_readNumber_22 (by decide) (fun h15 => ?_) (fun h15 => ?_)
    · refine V_sub [0] rfl ?_
      exact vX4_readNumber_41 (vX4_readNumber_47) M hI
    · refine V_aload_n (k := 0) dX4_readNumber_25 rfl rfl ?_
      refine V_geti dX4_readNumber_26 rfl (by decide) vf_X4_149 (by decide) ?_
      refine V_iload_n (k := 1) dX4_readNumber_29 rfl rfl ?_
      refine V_icmplt (tgt := 41) dX4_readNumber_30 (by decide) (fun h16 => ?_) (fun h16 => ?_)
      · refine V_sub [0] rfl ?_
        exact vX4_readNumber_41 (vX4_readNumber_47) M hI
      · refine V_aload_n (k := 0) dX4_readNumber_33 rfl rfl ?_
        refine V_geti dX4_readNumber_34 rfl (by decide) vf_X4_149 (by decide) ?_
        refine V_iload_n (k := 2) dX4_readNumber_37 rfl rfl ?_
        refine V_icmple (tgt := 47) dX4_readNumber_38 (by decide) (fun h17 => ?_) (fun h17 => ?_)
        · refine V_sub [0] rfl ?_
          exact vX4_readNumber_47 M hI
        · refine V_sub [0] rfl ?_
          exact vX4_readNumber_41 (vX4_readNumber_47) M hI
  · refine V_aload_n (k := 0) dX4_readNumber_8 rfl rfl ?_
    refine V_iconst (v := 1) dX4_readNumber_9 rfl ?_
    refine V_callVi (q := (RX4, TX4, 9)) (cls := 4) (st0 := []) (kc' := 0) (ks' := 0) dX4_readNumber_10 lk_X4_52 rfl (by decide) rfl rfl rfl (cX4_fail_ok M 1 hI) rfl rfl (by decide) (by decide) (Nat.le_of_ble_eq_true rfl) (Or.inl rfl) rfl rfl (by decide) (by decide) (fun y18 M19 e20 hI21 => ?_)
    refine V_pop dX4_readNumber_13 rfl ?_
    refine V_goto (tgt := 47) dX4_readNumber_14 (by decide) ?_
    refine V_sub [0] rfl ?_
    exact vX4_readNumber_47 M19 hI21
def fX4_readNumberOf_40 (M : vM) : Option (vR × vM) := if (M.1 3 7) = 0 then rI 1 M else rI 0 M
set_option maxRecDepth 20000 in
set_option maxHeartbeats 2000000 in
theorem vX4_readNumberOf_40 {l : Launch} {D : va_G} {dA : Nat → ClassId} : ∀ (M : vM), v_WT M.2.2 → V l D dA sX4_readNumberOf false 175 4 0 0 40 [(0, .ref 3)] [] 175 M (fX4_readNumberOf_40 M) := by
  intro M hI
  refine V_aload_n (k := 0) dX4_readNumberOf_40 rfl rfl ?_
  refine V_geti dX4_readNumberOf_41 rfl (by decide) vf_X4_22 (by decide) ?_
  refine V_ifne (tgt := 51) dX4_readNumberOf_44 (by decide) (fun h4 => ?_) (fun h4 => ?_)
  · refine V_iconst (v := 0) dX4_readNumberOf_51 rfl ?_
    exact V_ret (fun _ => hI) (Or.inr (Or.inr (Or.inl ⟨rfl, _, rfl⟩))) dX4_readNumberOf_52 (fun ty x h1 h2 => by cases h1; cases h2; rfl) rfl
  · refine V_iconst (v := 1) dX4_readNumberOf_47 rfl ?_
    refine V_goto (tgt := 52) dX4_readNumberOf_48 (by decide) ?_
    exact V_ret (fun _ => hI) (Or.inr (Or.inr (Or.inl ⟨rfl, _, rfl⟩))) dX4_readNumberOf_52 (fun ty x h1 h2 => by cases h1; cases h2; rfl) rfl
def fX4_readNumberOf (M : vM) (x1 : Nat) : Option (vR × vM) := if (M.1 x1 0) = 0 then bi (fX4_readNumber M 2 12) fun y11 M12 => fX4_readNumberOf_40 (v_si M12 x1 1 y11) else if (M.1 x1 0) = 1 then bi (fX4_readNumber M 0 12) fun y7 M8 => fX4_readNumberOf_40 (v_si M8 x1 1 y7) else fX4_readNumberOf_40 M
set_option maxRecDepth 20000 in
set_option maxHeartbeats 2000000 in
theorem cX4_readNumberOf_ok {l : Launch} {D : va_G} {dA : Nat → ClassId} (M : vM) (x1 : Nat) (f1 : v_isP x1) (hI : v_WT M.2.2) : Ct l D dA sX4_readNumberOf false 175 4 0 0 175 [.ref 3, .ref x1] M (fX4_readNumberOf M x1) := by
  refine Ct_of (lv := [(0, .ref 3), (1, .ref x1)]) (by decide +kernel) rfl (Nat.le_of_ble_eq_true rfl) rfl (fun h => by cases h) ?_
  refine V_aload_n (k := 1) dX4_readNumberOf_0 rfl rfl ?_
  refine V_geti dX4_readNumberOf_1 (v_LP f1).2.1 (v_LP f1).1 vf_X4_85 (by decide) ?_
  refine V_ifne (tgt := 21) dX4_readNumberOf_4 (by decide) (fun h5 => ?_) (fun h5 => ?_)
  · refine V_aload_n (k := 1) dX4_readNumberOf_21 rfl rfl ?_
    refine V_geti dX4_readNumberOf_22 (v_LP f1).2.1 (v_LP f1).1 vf_X4_85 (by decide) ?_
    refine V_iconst (v := 1) dX4_readNumberOf_25 rfl ?_
    refine V_icmpne (tgt := 40) dX4_readNumberOf_26 (by decide) (fun h6 => ?_) (fun h6 => ?_)
    · refine V_sub [0] rfl ?_
      exact vX4_readNumberOf_40 M hI
    · refine V_aload_n (k := 1) dX4_readNumberOf_29 rfl rfl ?_
      refine V_aload_n (k := 0) dX4_readNumberOf_30 rfl rfl ?_
      refine V_iconst (v := 0) dX4_readNumberOf_31 rfl ?_
      refine V_bipush (v := 12) dX4_readNumberOf_32 rfl ?_
      refine V_callVi (q := (RX4, TX4, 9)) (cls := 4) (st0 := [.ref x1]) (kc' := 0) (ks' := 0) dX4_readNumberOf_34 lk_X4_88 rfl (by decide) rfl rfl rfl (cX4_readNumber_ok M 0 12 hI) rfl rfl (by decide) (by decide) (Nat.le_of_ble_eq_true rfl) (Or.inl rfl) rfl rfl (by decide) (by decide) (fun y7 M8 e9 hI10 => ?_)
      refine V_puti dX4_readNumberOf_37 (v_LP f1).2.1 (v_LP f1).1 vf_X4_92 (by decide) rfl rfl ?_
      refine V_sub [0] rfl ?_
      exact vX4_readNumberOf_40 (v_si M8 x1 1 y7) hI10
  · refine V_aload_n (k := 1) dX4_readNumberOf_7 rfl rfl ?_
    refine V_aload_n (k := 0) dX4_readNumberOf_8 rfl rfl ?_
    refine V_iconst (v := 2) dX4_readNumberOf_9 rfl ?_
    refine V_bipush (v := 12) dX4_readNumberOf_10 rfl ?_
    refine V_callVi (q := (RX4, TX4, 9)) (cls := 4) (st0 := [.ref x1]) (kc' := 0) (ks' := 0) dX4_readNumberOf_12 lk_X4_88 rfl (by decide) rfl rfl rfl (cX4_readNumber_ok M 2 12 hI) rfl rfl (by decide) (by decide) (Nat.le_of_ble_eq_true rfl) (Or.inl rfl) rfl rfl (by decide) (by decide) (fun y11 M12 e13 hI14 => ?_)
    refine V_puti dX4_readNumberOf_15 (v_LP f1).2.1 (v_LP f1).1 vf_X4_92 (by decide) rfl rfl ?_
    refine V_goto (tgt := 40) dX4_readNumberOf_18 (by decide) ?_
    refine V_sub [0] rfl ?_
    exact vX4_readNumberOf_40 (v_si M12 x1 1 y11) hI14
def fX4_readLaw (M : vM) (x1 : Nat) : Option (vR × vM) := bi (fX4_isWord M 3) fun y5 M6 => if y5 = 0 then rI 1 M6 else bv (fX4_advance M6 ) fun M10 => bi (fX4_isWord M10 4) fun y13 M14 => if y13 = 0 then bi (fX4_isWord M14 5) fun y18 M19 => if y18 = 0 then bi (fX4_fail M19 1) fun y31 M32 => if v_nz y31 = y31 then rI y31 M32 else none else bv (fX4_advance (v_si M19 x1 2 2) ) fun M23 => bi (fX4_readNumber M23 1 9) fun y26 M27 => if ((v_si M27 x1 3 y26).1 3 7) = 0 then rI 1 (v_si M27 x1 3 y26) else rI 0 (v_si M27 x1 3 y26) else bv (fX4_advance (v_si M14 x1 2 1) ) fun M35 => rI 1 M35
set_option maxRecDepth 20000 in
set_option maxHeartbeats 2000000 in
theorem cX4_readLaw_ok {l : Launch} {D : va_G} {dA : Nat → ClassId} (M : vM) (x1 : Nat) (f1 : v_isP x1) (hI : v_WT M.2.2) : Ct l D dA sX4_readLaw false 175 6 0 0 175 [.ref 3, .ref x1] M (fX4_readLaw M x1) := by
  refine Ct_of (lv := [(0, .ref 3), (1, .ref x1)]) (by decide +kernel) rfl (Nat.le_of_ble_eq_true rfl) rfl (fun h => by cases h) ?_
  refine V_aload_n (k := 0) dX4_readLaw_0 rfl rfl ?_
  refine V_ldcS (sid := 3) (tx := "same") dX4_readLaw_1 (by decide +kernel) ?_
  refine V_callVi (q := (RX4, TX4, 9)) (cls := 4) (st0 := []) (kc' := 0) (ks' := 0) dX4_readLaw_3 lk_X4_36 rfl (by decide) rfl rfl rfl (cX4_isWord_ok M 3 (by decide) hI) rfl rfl (by decide) (by decide) (Nat.le_of_ble_eq_true rfl) (Or.inl rfl) rfl rfl (by decide) (by decide) (fun y5 M6 e7 hI8 => ?_)
  refine V_ifne (tgt := 11) dX4_readLaw_6 (by decide) (fun h9 => ?_) (fun h9 => ?_)
  · refine V_aload_n (k := 0) dX4_readLaw_11 rfl rfl ?_
    refine V_callVv (q := (RX4, TX4, 9)) (cls := 4) (st0 := []) (kc' := 0) (ks' := 0) dX4_readLaw_12 lk_X4_28 rfl (by decide) rfl rfl rfl (cX4_advance_ok M6  hI8) rfl rfl (by decide) (by decide) (Nat.le_of_ble_eq_true rfl) (Or.inl rfl) rfl rfl (by decide) (by decide) (fun  M10 e11 hI12 => ?_)
    refine V_aload_n (k := 0) dX4_readLaw_15 rfl rfl ?_
    refine V_ldcS (sid := 4) (tx := "steps") dX4_readLaw_16 (by decide +kernel) ?_
    refine V_callVi (q := (RX4, TX4, 9)) (cls := 4) (st0 := []) (kc' := 0) (ks' := 0) dX4_readLaw_18 lk_X4_36 rfl (by decide) rfl rfl rfl (cX4_isWord_ok M10 4 (by decide) hI12) rfl rfl (by decide) (by decide) (Nat.le_of_ble_eq_true rfl) (Or.inl rfl) rfl rfl (by decide) (by decide) (fun y13 M14 e15 hI16 => ?_)
    refine V_ifeq (tgt := 35) dX4_readLaw_21 (by decide) (fun h17 => ?_) (fun h17 => ?_)
    · refine V_aload_n (k := 0) dX4_readLaw_35 rfl rfl ?_
      refine V_ldcS (sid := 5) (tx := "other") dX4_readLaw_36 (by decide +kernel) ?_
      refine V_callVi (q := (RX4, TX4, 9)) (cls := 4) (st0 := []) (kc' := 0) (ks' := 0) dX4_readLaw_38 lk_X4_36 rfl (by decide) rfl rfl rfl (cX4_isWord_ok M14 5 (by decide) hI16) rfl rfl (by decide) (by decide) (Nat.le_of_ble_eq_true rfl) (Or.inl rfl) rfl rfl (by decide) (by decide) (fun y18 M19 e20 hI21 => ?_)
      refine V_ifne (tgt := 50) dX4_readLaw_41 (by decide) (fun h22 => ?_) (fun h22 => ?_)
      · refine V_aload_n (k := 1) dX4_readLaw_50 rfl rfl ?_
        refine V_iconst (v := 2) dX4_readLaw_51 rfl ?_
        refine V_puti dX4_readLaw_52 (v_LP f1).2.1 (v_LP f1).1 vf_X4_99 (by decide) rfl rfl ?_
        refine V_aload_n (k := 0) dX4_readLaw_55 rfl rfl ?_
        refine V_callVv (q := (RX4, TX4, 9)) (cls := 4) (st0 := []) (kc' := 0) (ks' := 0) dX4_readLaw_56 lk_X4_28 rfl (by decide) rfl rfl rfl (cX4_advance_ok (v_si M19 x1 2 2)  hI21) rfl rfl (by decide) (by decide) (Nat.le_of_ble_eq_true rfl) (Or.inl rfl) rfl rfl (by decide) (by decide) (fun  M23 e24 hI25 => ?_)
        refine V_aload_n (k := 1) dX4_readLaw_59 rfl rfl ?_
        refine V_aload_n (k := 0) dX4_readLaw_60 rfl rfl ?_
        refine V_iconst (v := 1) dX4_readLaw_61 rfl ?_
        refine V_bipush (v := 9) dX4_readLaw_62 rfl ?_
        refine V_callVi (q := (RX4, TX4, 9)) (cls := 4) (st0 := [.ref x1]) (kc' := 0) (ks' := 0) dX4_readLaw_64 lk_X4_88 rfl (by decide) rfl rfl rfl (cX4_readNumber_ok M23 1 9 hI25) rfl rfl (by decide) (by decide) (Nat.le_of_ble_eq_true rfl) (Or.inl rfl) rfl rfl (by decide) (by decide) (fun y26 M27 e28 hI29 => ?_)
        refine V_puti dX4_readLaw_67 (v_LP f1).2.1 (v_LP f1).1 vf_X4_104 (by decide) rfl rfl ?_
        refine V_aload_n (k := 0) dX4_readLaw_70 rfl rfl ?_
        refine V_geti dX4_readLaw_71 rfl (by decide) vf_X4_22 (by decide) ?_
        refine V_ifne (tgt := 81) dX4_readLaw_74 (by decide) (fun h30 => ?_) (fun h30 => ?_)
        · refine V_iconst (v := 0) dX4_readLaw_81 rfl ?_
          exact V_ret (fun _ => hI29) (Or.inr (Or.inr (Or.inl ⟨rfl, _, rfl⟩))) dX4_readLaw_82 (fun ty x h1 h2 => by cases h1; cases h2; rfl) rfl
        · refine V_iconst (v := 1) dX4_readLaw_77 rfl ?_
          refine V_goto (tgt := 82) dX4_readLaw_78 (by decide) ?_
          exact V_ret (fun _ => hI29) (Or.inr (Or.inr (Or.inl ⟨rfl, _, rfl⟩))) dX4_readLaw_82 (fun ty x h1 h2 => by cases h1; cases h2; rfl) rfl
      · refine V_aload_n (k := 0) dX4_readLaw_44 rfl rfl ?_
        refine V_iconst (v := 1) dX4_readLaw_45 rfl ?_
        refine V_callVi (q := (RX4, TX4, 9)) (cls := 4) (st0 := []) (kc' := 0) (ks' := 0) dX4_readLaw_46 lk_X4_52 rfl (by decide) rfl rfl rfl (cX4_fail_ok M19 1 hI21) rfl rfl (by decide) (by decide) (Nat.le_of_ble_eq_true rfl) (Or.inl rfl) rfl rfl (by decide) (by decide) (fun y31 M32 e33 hI34 => ?_)
        exact V_retz (fun _ => hI34) rfl dX4_readLaw_49
    · refine V_aload_n (k := 1) dX4_readLaw_24 rfl rfl ?_
      refine V_iconst (v := 1) dX4_readLaw_25 rfl ?_
      refine V_puti dX4_readLaw_26 (v_LP f1).2.1 (v_LP f1).1 vf_X4_99 (by decide) rfl rfl ?_
      refine V_aload_n (k := 0) dX4_readLaw_29 rfl rfl ?_
      refine V_callVv (q := (RX4, TX4, 9)) (cls := 4) (st0 := []) (kc' := 0) (ks' := 0) dX4_readLaw_30 lk_X4_28 rfl (by decide) rfl rfl rfl (cX4_advance_ok (v_si M14 x1 2 1)  hI16) rfl rfl (by decide) (by decide) (Nat.le_of_ble_eq_true rfl) (Or.inl rfl) rfl rfl (by decide) (by decide) (fun  M35 e36 hI37 => ?_)
      refine V_iconst (v := 1) dX4_readLaw_33 rfl ?_
      exact V_ret (fun _ => hI37) (Or.inr (Or.inr (Or.inl ⟨rfl, _, rfl⟩))) dX4_readLaw_34 (fun ty x h1 h2 => by cases h1; cases h2; rfl) rfl
  · refine V_iconst (v := 1) dX4_readLaw_9 rfl ?_
    exact V_ret (fun _ => hI8) (Or.inr (Or.inr (Or.inl ⟨rfl, _, rfl⟩))) dX4_readLaw_10 (fun ty x h1 h2 => by cases h1; cases h2; rfl) rfl
def fX4_readSign (M : vM) : Option (vR × vM) := if (M.1 3 3) = 3 then bv (fX4_advance M ) fun M3 => rI 1 M3 else bi (fX4_fail M 1) fun y6 M7 => if v_nz y6 = y6 then rI y6 M7 else none
set_option maxRecDepth 20000 in
set_option maxHeartbeats 2000000 in
theorem cX4_readSign_ok {l : Launch} {D : va_G} {dA : Nat → ClassId} (M : vM) (hI : v_WT M.2.2) : Ct l D dA sX4_readSign false 175 3 0 0 175 [.ref 3] M (fX4_readSign M) := by
  refine Ct_of (lv := [(0, .ref 3)]) (by decide +kernel) rfl (Nat.le_of_ble_eq_true rfl) rfl (fun h => by cases h) ?_
  refine V_aload_n (k := 0) dX4_readSign_0 rfl rfl ?_
  refine V_geti dX4_readSign_1 rfl (by decide) vf_X4_31 (by decide) ?_
  refine V_iconst (v := 3) dX4_readSign_4 rfl ?_
  refine V_icmpeq (tgt := 14) dX4_readSign_5 (by decide) (fun h2 => ?_) (fun h2 => ?_)
  · refine V_aload_n (k := 0) dX4_readSign_14 rfl rfl ?_
    refine V_callVv (q := (RX4, TX4, 9)) (cls := 4) (st0 := []) (kc' := 0) (ks' := 0) dX4_readSign_15 lk_X4_28 rfl (by decide) rfl rfl rfl (cX4_advance_ok M  hI) rfl rfl (by decide) (by decide) (Nat.le_of_ble_eq_true rfl) (Or.inl rfl) rfl rfl (by decide) (by decide) (fun  M3 e4 hI5 => ?_)
    refine V_iconst (v := 1) dX4_readSign_18 rfl ?_
    exact V_ret (fun _ => hI5) (Or.inr (Or.inr (Or.inl ⟨rfl, _, rfl⟩))) dX4_readSign_19 (fun ty x h1 h2 => by cases h1; cases h2; rfl) rfl
  · refine V_aload_n (k := 0) dX4_readSign_8 rfl rfl ?_
    refine V_iconst (v := 1) dX4_readSign_9 rfl ?_
    refine V_callVi (q := (RX4, TX4, 9)) (cls := 4) (st0 := []) (kc' := 0) (ks' := 0) dX4_readSign_10 lk_X4_52 rfl (by decide) rfl rfl rfl (cX4_fail_ok M 1 hI) rfl rfl (by decide) (by decide) (Nat.le_of_ble_eq_true rfl) (Or.inl rfl) rfl rfl (by decide) (by decide) (fun y6 M7 e8 hI9 => ?_)
    exact V_retz (fun _ => hI9) rfl dX4_readSign_13
def fX4_readHead_16 (M : vM) : Option (vR × vM) := bi (fX4_fail M 2) fun y7 M8 => if v_nz y7 = y7 then rI y7 M8 else none
set_option maxRecDepth 20000 in
set_option maxHeartbeats 2000000 in
theorem vX4_readHead_16 {l : Launch} {D : va_G} {dA : Nat → ClassId} : ∀ (M : vM), v_WT M.2.2 → V l D dA sX4_readHead false 175 7 0 0 16 [(0, .ref 3)] [] 175 M (fX4_readHead_16 M) := by
  intro M hI
  refine V_aload_n (k := 0) dX4_readHead_16 rfl rfl ?_
  refine V_iconst (v := 2) dX4_readHead_17 rfl ?_
  refine V_callVi (q := (RX4, TX4, 9)) (cls := 4) (st0 := []) (kc' := 0) (ks' := 0) dX4_readHead_18 lk_X4_52 rfl (by decide) rfl rfl rfl (cX4_fail_ok M 2 hI) rfl rfl (by decide) (by decide) (Nat.le_of_ble_eq_true rfl) (Or.inl rfl) rfl rfl (by decide) (by decide) (fun y7 M8 e9 hI10 => ?_)
  exact V_retz (fun _ => hI10) rfl dX4_readHead_21
def fX4_readHead (M : vM) (x2 : Int32) : Option (vR × vM) := if (M.1 3 8) < 0 then fX4_readHead_16 M else if (M.1 3 8) < (nI 6) then if v_in (M.1 3 8) 6 = true then bv (fX3_begin (v_si M 3 8 ((M.1 3 8) + 1)) (M.2.2 4 (Int32.toNatClampNeg (M.1 3 8)) - 1) x2) fun M14 => bv (fX4_advance M14 ) fun M17 => bi (fX4_readNumberOf M17 (M.2.2 4 (Int32.toNatClampNeg (M.1 3 8)) - 1)) fun y20 M21 => if y20 = 0 then rI 0 M21 else bi (fX4_readLaw M21 (M.2.2 4 (Int32.toNatClampNeg (M.1 3 8)) - 1)) fun y25 M26 => if y25 = 0 then rI 0 M26 else bi (fX4_readSign M26 ) fun y30 M31 => if y30 = 0 then rI 0 M31 else rI 1 M31 else none else fX4_readHead_16 M
set_option maxRecDepth 20000 in
set_option maxHeartbeats 2000000 in
theorem cX4_readHead_ok {l : Launch} {D : va_G} {dA : Nat → ClassId} (M : vM) (x2 : Int32) (hI : v_WT M.2.2) : Ct l D dA sX4_readHead false 175 7 0 0 175 [.ref 3, .ref 4, .int x2] M (fX4_readHead M x2) := by
  refine Ct_of (lv := [(0, .ref 3), (1, .ref 4), (2, .int x2)]) (by decide +kernel) rfl (Nat.le_of_ble_eq_true rfl) rfl (fun h => by cases h) ?_
  refine V_aload_n (k := 0) dX4_readHead_0 rfl rfl ?_
  refine V_geti dX4_readHead_1 rfl (by decide) vf_X4_25 (by decide) ?_
  refine V_iflt (tgt := 16) dX4_readHead_4 (by decide) (fun h11 => ?_) (fun h11 => ?_)
  · refine V_sub [0] rfl ?_
    exact vX4_readHead_16 M hI
  · refine V_aload_n (k := 0) dX4_readHead_7 rfl rfl ?_
    refine V_geti dX4_readHead_8 rfl (by decide) vf_X4_25 (by decide) ?_
    refine V_aload_n (k := 1) dX4_readHead_11 rfl rfl ?_
    refine V_alen dX4_readHead_12 rfl (by decide) (by decide) ?_
    refine V_icmplt (tgt := 22) dX4_readHead_13 (by decide) (fun h12 => ?_) (fun h12 => ?_)
    · refine V_aload_n (k := 1) dX4_readHead_22 rfl rfl ?_
      refine V_aload_n (k := 0) dX4_readHead_23 rfl rfl ?_
      refine V_geti dX4_readHead_24 rfl (by decide) vf_X4_25 (by decide) ?_
      refine V_aald (k := (M.2.2 4 (Int32.toNatClampNeg (M.1 3 8)) - 1)) dX4_readHead_27 rfl (by decide) (by decide) rfl (fun h13 => v_spr hI h13) (fun h13 => ?_)
      refine V_astore_n (lv' := [(3, .ref (M.2.2 4 (Int32.toNatClampNeg (M.1 3 8)) - 1)), (0, .ref 3), (1, .ref 4), (2, .int x2)]) dX4_readHead_28 rfl (by decide) rfl ?_
      refine V_aload_n (k := 1) dX4_readHead_29 rfl rfl ?_
      refine V_dup dX4_readHead_30 rfl ?_
      refine V_geti dX4_readHead_31 rfl (by decide) vf_X4_25 (by decide) ?_
      refine V_iconst (v := 1) dX4_readHead_34 rfl ?_
      refine V_iadd dX4_readHead_35 ?_
      refine V_puti dX4_readHead_36 rfl (by decide) vf_X4_25 (by decide) rfl rfl ?_
      refine V_aload_n (k := 0) dX4_readHead_39 rfl rfl ?_
      refine V_iload_n (k := 3) dX4_readHead_40 rfl rfl ?_
      refine V_callVv (q := (RX3, TX3, 12)) (cls := 3) (st0 := []) (kc' := 0) (ks' := 0) dX4_readHead_41 lk_X4_56 rfl (v_LP (v_sprP hI h13)).1 (v_LP (v_sprP hI h13)).2.1 rfl rfl (cX3_begin_ok (v_si M 3 8 ((M.1 3 8) + 1)) (M.2.2 4 (Int32.toNatClampNeg (M.1 3 8)) - 1) x2 (v_sprP hI h13) hI) rfl rfl (by decide) (by decide) (Nat.le_of_ble_eq_true rfl) (Or.inl rfl) rfl rfl (by decide) (by decide) (fun  M14 e15 hI16 => ?_)
      refine V_aload_n (k := 1) dX4_readHead_44 rfl rfl ?_
      refine V_callVv (q := (RX4, TX4, 9)) (cls := 4) (st0 := []) (kc' := 0) (ks' := 0) dX4_readHead_45 lk_X4_28 rfl (by decide) rfl rfl rfl (cX4_advance_ok M14  hI16) rfl rfl (by decide) (by decide) (Nat.le_of_ble_eq_true rfl) (Or.inl rfl) rfl rfl (by decide) (by decide) (fun  M17 e18 hI19 => ?_)
      refine V_aload_n (k := 1) dX4_readHead_48 rfl rfl ?_
      refine V_aload_n (k := 0) dX4_readHead_49 rfl rfl ?_
      refine V_callVi (q := (RX4, TX4, 9)) (cls := 4) (st0 := []) (kc' := 0) (ks' := 0) dX4_readHead_50 lk_X4_62 rfl (by decide) rfl rfl rfl (cX4_readNumberOf_ok M17 (M.2.2 4 (Int32.toNatClampNeg (M.1 3 8)) - 1) (v_sprP hI h13) hI19) rfl rfl (by decide) (by decide) (Nat.le_of_ble_eq_true rfl) (Or.inl rfl) rfl rfl (by decide) (by decide) (fun y20 M21 e22 hI23 => ?_)
      refine V_ifeq (tgt := 75) dX4_readHead_53 (by decide) (fun h24 => ?_) (fun h24 => ?_)
      · refine V_iconst (v := 0) dX4_readHead_75 rfl ?_
        exact V_ret (fun _ => hI23) (Or.inr (Or.inr (Or.inl ⟨rfl, _, rfl⟩))) dX4_readHead_76 (fun ty x h1 h2 => by cases h1; cases h2; rfl) rfl
      · refine V_aload_n (k := 1) dX4_readHead_56 rfl rfl ?_
        refine V_aload_n (k := 0) dX4_readHead_57 rfl rfl ?_
        refine V_callVi (q := (RX4, TX4, 9)) (cls := 4) (st0 := []) (kc' := 0) (ks' := 0) dX4_readHead_58 lk_X4_66 rfl (by decide) rfl rfl rfl (cX4_readLaw_ok M21 (M.2.2 4 (Int32.toNatClampNeg (M.1 3 8)) - 1) (v_sprP hI h13) hI23) rfl rfl (by decide) (by decide) (Nat.le_of_ble_eq_true rfl) (Or.inl rfl) rfl rfl (by decide) (by decide) (fun y25 M26 e27 hI28 => ?_)
        refine V_ifeq (tgt := 75) dX4_readHead_61 (by decide) (fun h29 => ?_) (fun h29 => ?_)
        · refine V_iconst (v := 0) dX4_readHead_75 rfl ?_
          exact V_ret (fun _ => hI28) (Or.inr (Or.inr (Or.inl ⟨rfl, _, rfl⟩))) dX4_readHead_76 (fun ty x h1 h2 => by cases h1; cases h2; rfl) rfl
        · refine V_aload_n (k := 1) dX4_readHead_64 rfl rfl ?_
          refine V_callVi (q := (RX4, TX4, 9)) (cls := 4) (st0 := []) (kc' := 0) (ks' := 0) dX4_readHead_65 lk_X4_69 rfl (by decide) rfl rfl rfl (cX4_readSign_ok M26  hI28) rfl rfl (by decide) (by decide) (Nat.le_of_ble_eq_true rfl) (Or.inl rfl) rfl rfl (by decide) (by decide) (fun y30 M31 e32 hI33 => ?_)
          refine V_ifeq (tgt := 75) dX4_readHead_68 (by decide) (fun h34 => ?_) (fun h34 => ?_)
          · refine V_iconst (v := 0) dX4_readHead_75 rfl ?_
            exact V_ret (fun _ => hI33) (Or.inr (Or.inr (Or.inl ⟨rfl, _, rfl⟩))) dX4_readHead_76 (fun ty x h1 h2 => by cases h1; cases h2; rfl) rfl
          · refine V_iconst (v := 1) dX4_readHead_71 rfl ?_
            refine V_goto (tgt := 76) dX4_readHead_72 (by decide) ?_
            exact V_ret (fun _ => hI33) (Or.inr (Or.inr (Or.inl ⟨rfl, _, rfl⟩))) dX4_readHead_76 (fun ty x h1 h2 => by cases h1; cases h2; rfl) rfl
    · refine V_sub [0] rfl ?_
      exact vX4_readHead_16 M hI
def fX4_isItem_28 (M : vM) (s1 : Nat) : Option (vR × vM) := bi (fX4_isWord M s1) fun y3 M4 => if v_nz y3 = y3 then rI y3 M4 else none
set_option maxRecDepth 20000 in
set_option maxHeartbeats 2000000 in
theorem vX4_isItem_28 {l : Launch} {D : va_G} {dA : Nat → ClassId} : ∀ (M : vM) (s1 : Nat) (g1 : s1 < v_nS), v_WT M.2.2 → V l D dA sX4_isItem false 175 6 0 0 28 [] [.ref (1000 + s1), .ref 3] 175 M (fX4_isItem_28 M s1) := by
  intro M s1 g1 hI
  refine V_callVi (q := (RX4, TX4, 9)) (cls := 4) (st0 := []) (kc' := 0) (ks' := 0) dX4_isItem_28 lk_X4_36 rfl (by decide) rfl rfl rfl (cX4_isWord_ok M s1 g1 hI) rfl rfl (by decide) (by decide) (Nat.le_of_ble_eq_true rfl) (Or.inl rfl) rfl rfl (by decide) (by decide) (fun y3 M4 e5 hI6 => ?_)
  exact V_retz (fun _ => hI6) rfl dX4_isItem_31
def fX4_isItem (M : vM) (x1 : Nat) : Option (vR × vM) := if (M.1 x1 0) = 0 then fX4_isItem_28 M 6 else if (M.1 x1 0) = 1 then fX4_isItem_28 M 7 else fX4_isItem_28 M 10
set_option maxRecDepth 20000 in
set_option maxHeartbeats 2000000 in
theorem cX4_isItem_ok {l : Launch} {D : va_G} {dA : Nat → ClassId} (M : vM) (x1 : Nat) (f1 : v_isP x1) (hI : v_WT M.2.2) : Ct l D dA sX4_isItem false 175 6 0 0 175 [.ref 3, .ref x1] M (fX4_isItem M x1) := by
  refine Ct_of (lv := [(0, .ref 3), (1, .ref x1)]) (by decide +kernel) rfl (Nat.le_of_ble_eq_true rfl) rfl (fun h => by cases h) ?_
  refine V_aload_n (k := 0) dX4_isItem_0 rfl rfl ?_
  refine V_aload_n (k := 1) dX4_isItem_1 rfl rfl ?_
  refine V_geti dX4_isItem_2 (v_LP f1).2.1 (v_LP f1).1 vf_X4_85 (by decide) ?_
  refine V_ifne (tgt := 13) dX4_isItem_5 (by decide) (fun h7 => ?_) (fun h7 => ?_)
  · refine V_aload_n (k := 1) dX4_isItem_13 rfl rfl ?_
    refine V_geti dX4_isItem_14 (v_LP f1).2.1 (v_LP f1).1 vf_X4_85 (by decide) ?_
    refine V_iconst (v := 1) dX4_isItem_17 rfl ?_
    refine V_icmpne (tgt := 26) dX4_isItem_18 (by decide) (fun h8 => ?_) (fun h8 => ?_)
    · refine V_ldcS (sid := 10) (tx := "act") dX4_isItem_26 (by decide +kernel) ?_
      refine V_sub [] rfl ?_
      exact vX4_isItem_28 M 10 (by decide) hI
    · refine V_ldcS (sid := 7) (tx := "part") dX4_isItem_21 (by decide +kernel) ?_
      refine V_goto (tgt := 28) dX4_isItem_23 (by decide) ?_
      refine V_sub [] rfl ?_
      exact vX4_isItem_28 M 7 (by decide) hI
  · refine V_ldcS (sid := 6) (tx := "step") dX4_isItem_8 (by decide +kernel) ?_
    refine V_goto (tgt := 28) dX4_isItem_10 (by decide) ?_
    refine V_sub [] rfl ?_
    exact vX4_isItem_28 M 6 (by decide) hI
def fX3_mostItems (M : vM) (x0 : Nat) : Option (vR × vM) := if (M.1 x0 0) = 0 then rI 20 M else if (M.1 x0 0) = 1 then rI 12 M else rI 6 M
set_option maxRecDepth 20000 in
set_option maxHeartbeats 2000000 in
theorem cX3_mostItems_ok {l : Launch} {D : va_G} {dA : Nat → ClassId} (M : vM) (x0 : Nat) (f0 : v_isP x0) (hI : v_WT M.2.2) : Ct l D dA sX3_mostItems false 175 1 0 0 175 [.ref x0] M (fX3_mostItems M x0) := by
  refine Ct_of (lv := [(0, .ref x0)]) (by decide +kernel) rfl (Nat.le_of_ble_eq_true rfl) rfl (fun h => by cases h) ?_
  refine V_aload_n (k := 0) dX3_mostItems_0 rfl rfl ?_
  refine V_geti dX3_mostItems_1 (v_LP f0).2.1 (v_LP f0).1 vf_X3_27 (by decide) ?_
  refine V_ifne (tgt := 12) dX3_mostItems_4 (by decide) (fun h3 => ?_) (fun h3 => ?_)
  · refine V_aload_n (k := 0) dX3_mostItems_12 rfl rfl ?_
    refine V_geti dX3_mostItems_13 (v_LP f0).2.1 (v_LP f0).1 vf_X3_27 (by decide) ?_
    refine V_iconst (v := 1) dX3_mostItems_16 rfl ?_
    refine V_icmpne (tgt := 25) dX3_mostItems_17 (by decide) (fun h4 => ?_) (fun h4 => ?_)
    · refine V_bipush (v := 6) dX3_mostItems_25 rfl ?_
      exact V_ret (fun _ => hI) (Or.inr (Or.inl ⟨rfl, _, rfl⟩)) dX3_mostItems_27 (fun ty x h1 h2 => by cases h1; rfl) rfl
    · refine V_bipush (v := 12) dX3_mostItems_20 rfl ?_
      refine V_goto (tgt := 27) dX3_mostItems_22 (by decide) ?_
      exact V_ret (fun _ => hI) (Or.inr (Or.inl ⟨rfl, _, rfl⟩)) dX3_mostItems_27 (fun ty x h1 h2 => by cases h1; rfl) rfl
  · refine V_bipush (v := 20) dX3_mostItems_7 rfl ?_
    refine V_goto (tgt := 27) dX3_mostItems_9 (by decide) ?_
    exact V_ret (fun _ => hI) (Or.inr (Or.inl ⟨rfl, _, rfl⟩)) dX3_mostItems_27 (fun ty x h1 h2 => by cases h1; rfl) rfl
def fX4_readMember_67 (k73 : vM → Option (vR × vM)) (M : vM) : Option (vR × vM) := bi (fX4_fail M 4) fun y7 M8 => k73 M8
set_option maxRecDepth 20000 in
set_option maxHeartbeats 2000000 in
theorem vX4_readMember_67 {l : Launch} {D : va_G} {dA : Nat → ClassId} {k73 : vM → Option (vR × vM)} (hk73 : ∀ (M : vM), v_WT M.2.2 → V l D dA sX4_readMember false 175 3 0 0 73 [(0, .ref 3)] [] 175 M (k73 M)) : ∀ (M : vM), v_WT M.2.2 → V l D dA sX4_readMember false 175 3 0 0 67 [(0, .ref 3)] [] 175 M (fX4_readMember_67 k73 M) := by
  intro M hI
  refine V_aload_n (k := 0) dX4_readMember_67 rfl rfl ?_
  refine V_iconst (v := 4) dX4_readMember_68 rfl ?_
  refine V_callVi (q := (RX4, TX4, 9)) (cls := 4) (st0 := []) (kc' := 0) (ks' := 0) dX4_readMember_69 lk_X4_52 rfl (by decide) rfl rfl rfl (cX4_fail_ok M 4 hI) rfl rfl (by decide) (by decide) (Nat.le_of_ble_eq_true rfl) (Or.inl rfl) rfl rfl (by decide) (by decide) (fun y7 M8 e9 hI10 => ?_)
  refine V_pop dX4_readMember_72 rfl ?_
  refine V_sub [0] rfl ?_
  exact hk73 M8 hI10
def fX4_readMember_73 (M : vM) : Option (vR × vM) := if (M.1 3 7) = 0 then bv (fX4_advance M ) fun M12 => rI (M.1 3 6) M12 else rI (M.1 3 6) M
set_option maxRecDepth 20000 in
set_option maxHeartbeats 2000000 in
theorem vX4_readMember_73 {l : Launch} {D : va_G} {dA : Nat → ClassId} : ∀ (M : vM), v_WT M.2.2 → V l D dA sX4_readMember false 175 3 0 0 73 [(0, .ref 3)] [] 175 M (fX4_readMember_73 M) := by
  intro M hI
  refine V_aload_n (k := 0) dX4_readMember_73 rfl rfl ?_
  refine V_geti dX4_readMember_74 rfl (by decide) vf_X4_149 (by decide) ?_
  refine V_istore (lv' := [(4, .int (M.1 3 6)), (0, .ref 3)]) dX4_readMember_77 (by decide) rfl ?_
  refine V_aload_n (k := 1) dX4_readMember_79 rfl rfl ?_
  refine V_geti dX4_readMember_80 rfl (by decide) vf_X4_22 (by decide) ?_
  refine V_ifne (tgt := 90) dX4_readMember_83 (by decide) (fun h11 => ?_) (fun h11 => ?_)
  · refine V_iload (k := 0) dX4_readMember_90 rfl ?_
    exact V_ret (fun _ => hI) (Or.inr (Or.inl ⟨rfl, _, rfl⟩)) dX4_readMember_92 (fun ty x h1 h2 => by cases h1; rfl) rfl
  · refine V_aload_n (k := 1) dX4_readMember_86 rfl rfl ?_
    refine V_callVv (q := (RX4, TX4, 9)) (cls := 4) (st0 := []) (kc' := 0) (ks' := 0) dX4_readMember_87 lk_X4_28 rfl (by decide) rfl rfl rfl (cX4_advance_ok M  hI) rfl rfl (by decide) (by decide) (Nat.le_of_ble_eq_true rfl) (Or.inl rfl) rfl rfl (by decide) (by decide) (fun  M12 e13 hI14 => ?_)
    refine V_iload (k := 0) dX4_readMember_90 rfl ?_
    exact V_ret (fun _ => hI14) (Or.inr (Or.inl ⟨rfl, _, rfl⟩)) dX4_readMember_92 (fun ty x h1 h2 => by cases h1; rfl) rfl
def fX4_readMember (M : vM) (x1 : Int32) (x2 : Int32) (x3 : Int32) : Option (vR × vM) := if (M.1 3 3) = 2 then if (M.1 3 5) ≤ 4 then if (M.1 3 6) < x1 then if (M.1 3 6) ≤ x2 then fX4_readMember_67 (fX4_readMember_73) M else if (M.1 3 6) = x3 then fX4_readMember_67 (fX4_readMember_73) M else fX4_readMember_73 M else bi (fX4_fail M 3) fun y20 M21 => fX4_readMember_73 M21 else bi (fX4_fail M 2) fun y24 M25 => fX4_readMember_73 M25 else bi (fX4_fail M 1) fun y28 M29 => fX4_readMember_73 M29
set_option maxRecDepth 20000 in
set_option maxHeartbeats 2000000 in
theorem cX4_readMember_ok {l : Launch} {D : va_G} {dA : Nat → ClassId} (M : vM) (x1 : Int32) (x2 : Int32) (x3 : Int32) (hI : v_WT M.2.2) : Ct l D dA sX4_readMember false 175 3 0 0 175 [.ref 3, .int x1, .int x2, .int x3] M (fX4_readMember M x1 x2 x3) := by
  refine Ct_of (lv := [(0, .ref 3), (1, .int x1), (2, .int x2), (3, .int x3)]) (by decide +kernel) rfl (Nat.le_of_ble_eq_true rfl) rfl (fun h => by cases h) ?_
  refine V_aload_n (k := 0) dX4_readMember_0 rfl rfl ?_
  refine V_geti dX4_readMember_1 rfl (by decide) vf_X4_31 (by decide) ?_
  refine V_iconst (v := 2) dX4_readMember_4 rfl ?_
  refine V_icmpeq (tgt := 17) dX4_readMember_5 (by decide) (fun h15 => ?_) (fun h15 => ?_)
  · refine V_aload_n (k := 0) dX4_readMember_17 rfl rfl ?_
    refine V_geti dX4_readMember_18 rfl (by decide) vf_X4_146 (by decide) ?_
    refine V_iconst (v := 4) dX4_readMember_21 rfl ?_
    refine V_icmple (tgt := 34) dX4_readMember_22 (by decide) (fun h16 => ?_) (fun h16 => ?_)
    · refine V_aload_n (k := 0) dX4_readMember_34 rfl rfl ?_
      refine V_geti dX4_readMember_35 rfl (by decide) vf_X4_149 (by decide) ?_
      refine V_iload_n (k := 1) dX4_readMember_38 rfl rfl ?_
      refine V_icmplt (tgt := 51) dX4_readMember_39 (by decide) (fun h17 => ?_) (fun h17 => ?_)
      · refine V_aload_n (k := 0) dX4_readMember_51 rfl rfl ?_
        refine V_geti dX4_readMember_52 rfl (by decide) vf_X4_149 (by decide) ?_
        refine V_iload_n (k := 2) dX4_readMember_55 rfl rfl ?_
        refine V_icmple (tgt := 67) dX4_readMember_56 (by decide) (fun h18 => ?_) (fun h18 => ?_)
        · refine V_sub [0] rfl ?_
          exact vX4_readMember_67 (vX4_readMember_73) M hI
        · refine V_aload_n (k := 0) dX4_readMember_59 rfl rfl ?_
          refine V_geti dX4_readMember_60 rfl (by decide) vf_X4_149 (by decide) ?_
          refine V_iload_n (k := 3) dX4_readMember_63 rfl rfl ?_
          refine V_icmpne (tgt := 73) dX4_readMember_64 (by decide) (fun h19 => ?_) (fun h19 => ?_)
          · refine V_sub [0] rfl ?_
            exact vX4_readMember_73 M hI
          · refine V_sub [0] rfl ?_
            exact vX4_readMember_67 (vX4_readMember_73) M hI
      · refine V_aload_n (k := 0) dX4_readMember_42 rfl rfl ?_
        refine V_iconst (v := 3) dX4_readMember_43 rfl ?_
        refine V_callVi (q := (RX4, TX4, 9)) (cls := 4) (st0 := []) (kc' := 0) (ks' := 0) dX4_readMember_44 lk_X4_52 rfl (by decide) rfl rfl rfl (cX4_fail_ok M 3 hI) rfl rfl (by decide) (by decide) (Nat.le_of_ble_eq_true rfl) (Or.inl rfl) rfl rfl (by decide) (by decide) (fun y20 M21 e22 hI23 => ?_)
        refine V_pop dX4_readMember_47 rfl ?_
        refine V_goto (tgt := 73) dX4_readMember_48 (by decide) ?_
        refine V_sub [0] rfl ?_
        exact vX4_readMember_73 M21 hI23
    · refine V_aload_n (k := 0) dX4_readMember_25 rfl rfl ?_
      refine V_iconst (v := 2) dX4_readMember_26 rfl ?_
      refine V_callVi (q := (RX4, TX4, 9)) (cls := 4) (st0 := []) (kc' := 0) (ks' := 0) dX4_readMember_27 lk_X4_52 rfl (by decide) rfl rfl rfl (cX4_fail_ok M 2 hI) rfl rfl (by decide) (by decide) (Nat.le_of_ble_eq_true rfl) (Or.inl rfl) rfl rfl (by decide) (by decide) (fun y24 M25 e26 hI27 => ?_)
      refine V_pop dX4_readMember_30 rfl ?_
      refine V_goto (tgt := 73) dX4_readMember_31 (by decide) ?_
      refine V_sub [0] rfl ?_
      exact vX4_readMember_73 M25 hI27
  · refine V_aload_n (k := 0) dX4_readMember_8 rfl rfl ?_
    refine V_iconst (v := 1) dX4_readMember_9 rfl ?_
    refine V_callVi (q := (RX4, TX4, 9)) (cls := 4) (st0 := []) (kc' := 0) (ks' := 0) dX4_readMember_10 lk_X4_52 rfl (by decide) rfl rfl rfl (cX4_fail_ok M 1 hI) rfl rfl (by decide) (by decide) (Nat.le_of_ble_eq_true rfl) (Or.inl rfl) rfl rfl (by decide) (by decide) (fun y28 M29 e30 hI31 => ?_)
    refine V_pop dX4_readMember_13 rfl ?_
    refine V_goto (tgt := 73) dX4_readMember_14 (by decide) ?_
    refine V_sub [0] rfl ?_
    exact vX4_readMember_73 M29 hI31
def fX3_addItem (M : vM) (x0 : Nat) (x1 : Int32) (x2 : Int32) (x3 : Int32) (x4 : Int32) : Option (vR × vM) := bv (fX10_put M (x0 + 2) (M.1 x0 4) x1) fun M2 => bv (fX10_put M2 (x0 + 3) (M2.1 x0 4) x2) fun M5 => bv (fX10_put M5 (x0 + 1) (M5.1 x0 4) x3) fun M8 => if x4 = 0 then rV (v_si M8 x0 4 ((M8.1 x0 4) + 1)) else rV (v_si (v_si M8 x0 6 ((M8.1 x0 6) ||| (1 <<< ((M8.1 x0 4) &&& (31 : Int32))))) x0 4 (((v_si M8 x0 6 ((M8.1 x0 6) ||| (1 <<< ((M8.1 x0 4) &&& (31 : Int32))))).1 x0 4) + 1))
set_option maxRecDepth 20000 in
set_option maxHeartbeats 2000000 in
theorem cX3_addItem_ok {l : Launch} {D : va_G} {dA : Nat → ClassId} (M : vM) (x0 : Nat) (x1 : Int32) (x2 : Int32) (x3 : Int32) (x4 : Int32) (f0 : v_isP x0) (hI : v_WT M.2.2) : Ct l D dA sX3_addItem false 175 2 0 0 175 [.ref x0, .int x1, .int x2, .int x3, .int x4] M (fX3_addItem M x0 x1 x2 x3 x4) := by
  refine Ct_of (lv := [(0, .ref x0), (1, .int x1), (2, .int x2), (3, .int x3), (4, .int x4)]) (by decide +kernel) rfl (Nat.le_of_ble_eq_true rfl) rfl (fun h => by cases h) ?_
  refine V_aload_n (k := 0) dX3_addItem_0 rfl rfl ?_
  refine V_getr (k := x0 + 2) dX3_addItem_1 (v_LP f0).2.1 (v_LP f0).1 vf_X3_15 (by decide) (v_finP hI f0).2.1 ?_
  refine V_aload_n (k := 0) dX3_addItem_4 rfl rfl ?_
  refine V_geti dX3_addItem_5 (v_LP f0).2.1 (v_LP f0).1 vf_X3_40 (by decide) ?_
  refine V_iload_n (k := 1) dX3_addItem_8 rfl rfl ?_
  refine V_callSv (st0 := []) (kc' := 0) (ks' := 0) dX3_addItem_9 lk_X3_55 rfl (cX10_put_ok M (x0 + 2) (M.1 x0 4) x1 (v_isA_of (v_LP f0).2.2.2.2.1 (v_LP f0).2.2.1.2.1) hI) rfl rfl (by decide) (by decide) (Nat.le_of_ble_eq_true rfl) (Or.inl rfl) rfl rfl (by decide) (by decide) (fun  M2 e3 hI4 => ?_)
  refine V_aload_n (k := 0) dX3_addItem_12 rfl rfl ?_
  refine V_getr (k := x0 + 3) dX3_addItem_13 (v_LP f0).2.1 (v_LP f0).1 vf_X3_18 (by decide) (v_finP hI4 f0).2.2.1 ?_
  refine V_aload_n (k := 0) dX3_addItem_16 rfl rfl ?_
  refine V_geti dX3_addItem_17 (v_LP f0).2.1 (v_LP f0).1 vf_X3_40 (by decide) ?_
  refine V_iload_n (k := 2) dX3_addItem_20 rfl rfl ?_
  refine V_callSv (st0 := []) (kc' := 0) (ks' := 0) dX3_addItem_21 lk_X3_55 rfl (cX10_put_ok M2 (x0 + 3) (M2.1 x0 4) x2 (v_isA_of (v_LP f0).2.2.2.2.2.1 (v_LP f0).2.2.1.2.2.1) hI4) rfl rfl (by decide) (by decide) (Nat.le_of_ble_eq_true rfl) (Or.inl rfl) rfl rfl (by decide) (by decide) (fun  M5 e6 hI7 => ?_)
  refine V_aload_n (k := 0) dX3_addItem_24 rfl rfl ?_
  refine V_getr (k := x0 + 1) dX3_addItem_25 (v_LP f0).2.1 (v_LP f0).1 vf_X3_9 (by decide) (v_finP hI7 f0).1 ?_
  refine V_aload_n (k := 0) dX3_addItem_28 rfl rfl ?_
  refine V_geti dX3_addItem_29 (v_LP f0).2.1 (v_LP f0).1 vf_X3_40 (by decide) ?_
  refine V_iload_n (k := 3) dX3_addItem_32 rfl rfl ?_
  refine V_callSv (st0 := []) (kc' := 0) (ks' := 0) dX3_addItem_33 lk_X3_55 rfl (cX10_put_ok M5 (x0 + 1) (M5.1 x0 4) x3 (v_isA_of (v_LP f0).2.2.2.1 (v_LP f0).2.2.1.1) hI7) rfl rfl (by decide) (by decide) (Nat.le_of_ble_eq_true rfl) (Or.inl rfl) rfl rfl (by decide) (by decide) (fun  M8 e9 hI10 => ?_)
  refine V_iload (k := 4) dX3_addItem_36 rfl ?_
  refine V_ifeq (tgt := 56) dX3_addItem_38 (by decide) (fun h11 => ?_) (fun h11 => ?_)
  · refine V_aload_n (k := 0) dX3_addItem_56 rfl rfl ?_
    refine V_dup dX3_addItem_57 rfl ?_
    refine V_geti dX3_addItem_58 (v_LP f0).2.1 (v_LP f0).1 vf_X3_40 (by decide) ?_
    refine V_iconst (v := 1) dX3_addItem_61 rfl ?_
    refine V_iadd dX3_addItem_62 ?_
    refine V_puti dX3_addItem_63 (v_LP f0).2.1 (v_LP f0).1 vf_X3_40 (by decide) rfl rfl ?_
    exact V_ret (fun _ => hI10) (Or.inl ⟨rfl, rfl⟩) dX3_addItem_66 (fun ty x h1 h2 => by cases h1) rfl
  · refine V_aload_n (k := 0) dX3_addItem_41 rfl rfl ?_
    refine V_dup dX3_addItem_42 rfl ?_
    refine V_geti dX3_addItem_43 (v_LP f0).2.1 (v_LP f0).1 vf_X3_46 (by decide) ?_
    refine V_iconst (v := 1) dX3_addItem_46 rfl ?_
    refine V_aload_n (k := 0) dX3_addItem_47 rfl rfl ?_
    refine V_geti dX3_addItem_48 (v_LP f0).2.1 (v_LP f0).1 vf_X3_40 (by decide) ?_
    refine V_ishl dX3_addItem_51 ?_
    refine V_ior dX3_addItem_52 ?_
    refine V_puti dX3_addItem_53 (v_LP f0).2.1 (v_LP f0).1 vf_X3_46 (by decide) rfl rfl ?_
    refine V_aload_n (k := 0) dX3_addItem_56 rfl rfl ?_
    refine V_dup dX3_addItem_57 rfl ?_
    refine V_geti dX3_addItem_58 (v_LP f0).2.1 (v_LP f0).1 vf_X3_40 (by decide) ?_
    refine V_iconst (v := 1) dX3_addItem_61 rfl ?_
    refine V_iadd dX3_addItem_62 ?_
    refine V_puti dX3_addItem_63 (v_LP f0).2.1 (v_LP f0).1 vf_X3_40 (by decide) rfl rfl ?_
    exact V_ret (fun _ => hI10) (Or.inl ⟨rfl, rfl⟩) dX3_addItem_66 (fun ty x h1 h2 => by cases h1) rfl
def fX4_readItem_64 (k65 : vM → Nat → Int32 → Int32 → Option (vR × vM)) (M : vM) (x1 : Nat) (x2 : Int32) (s0 : Int32) : Option (vR × vM) := k65 M x1 x2 s0
set_option maxRecDepth 20000 in
set_option maxHeartbeats 2000000 in
theorem vX4_readItem_64 {l : Launch} {D : va_G} {dA : Nat → ClassId} {k65 : vM → Nat → Int32 → Int32 → Option (vR × vM)} (hk65 : ∀ (M : vM) (x1 : Nat) (x2 : Int32) (x3 : Int32) (f1 : v_isP x1), v_WT M.2.2 → V l D dA sX4_readItem false 175 6 0 0 65 [(0, .ref 3), (1, .ref x1), (2, .int x2), (3, .int x3)] [] 175 M (k65 M x1 x2 x3)) : ∀ (M : vM) (x1 : Nat) (x2 : Int32) (s0 : Int32) (f1 : v_isP x1), v_WT M.2.2 → V l D dA sX4_readItem false 175 6 0 0 64 [(0, .ref 3), (1, .ref x1), (2, .int x2)] [.int s0] 175 M (fX4_readItem_64 k65 M x1 x2 s0) := by
  intro M x1 x2 s0 f1 hI
  refine V_istore_n (lv' := [(3, .int s0), (0, .ref 3), (1, .ref x1), (2, .int x2)]) dX4_readItem_64 rfl (by decide) rfl ?_
  refine V_sub [1, 2, 3, 0] rfl ?_
  exact hk65 M x1 x2 s0 f1 hI
def fX4_readItem_106 (k107 : vM → Nat → Int32 → Int32 → Int32 → Int32 → Option (vR × vM)) (M : vM) (x1 : Nat) (x2 : Int32) (x3 : Int32) (x4 : Int32) : Option (vR × vM) := k107 M x1 x2 x3 x4 0
set_option maxRecDepth 20000 in
set_option maxHeartbeats 2000000 in
theorem vX4_readItem_106 {l : Launch} {D : va_G} {dA : Nat → ClassId} {k107 : vM → Nat → Int32 → Int32 → Int32 → Int32 → Option (vR × vM)} (hk107 : ∀ (M : vM) (x1 : Nat) (x2 : Int32) (x3 : Int32) (x4 : Int32) (s0 : Int32) (f1 : v_isP x1), v_WT M.2.2 → V l D dA sX4_readItem false 175 6 0 0 107 [(0, .ref 3), (1, .ref x1), (2, .int x2), (3, .int x3), (4, .int x4)] [.int s0] 175 M (k107 M x1 x2 x3 x4 s0)) : ∀ (M : vM) (x1 : Nat) (x2 : Int32) (x3 : Int32) (x4 : Int32) (f1 : v_isP x1), v_WT M.2.2 → V l D dA sX4_readItem false 175 6 0 0 106 [(0, .ref 3), (1, .ref x1), (2, .int x2), (3, .int x3), (4, .int x4)] [] 175 M (fX4_readItem_106 k107 M x1 x2 x3 x4) := by
  intro M x1 x2 x3 x4 f1 hI
  refine V_iconst (v := 0) dX4_readItem_106 rfl ?_
  refine V_sub [0, 1, 2, 3, 4] rfl ?_
  exact hk107 M x1 x2 x3 x4 0 f1 hI
def fX4_readItem_118 (M : vM) (x1 : Nat) (x2 : Int32) (x3 : Int32) (x4 : Int32) (x5 : Int32) : Option (vR × vM) := if (M.1 3 7) = 0 then bi (fX4_readSign M ) fun y11 M12 => if y11 = 0 then rI 0 M12 else bv (fX3_addItem M12 x1 x2 x3 x4 x5) fun M16 => rI 1 M16 else rI 0 M
set_option maxRecDepth 20000 in
set_option maxHeartbeats 2000000 in
theorem vX4_readItem_118 {l : Launch} {D : va_G} {dA : Nat → ClassId} : ∀ (M : vM) (x1 : Nat) (x2 : Int32) (x3 : Int32) (x4 : Int32) (x5 : Int32) (f1 : v_isP x1), v_WT M.2.2 → V l D dA sX4_readItem false 175 6 0 0 118 [(0, .ref 3), (1, .ref x1), (2, .int x2), (3, .int x3), (4, .int x4), (5, .int x5)] [] 175 M (fX4_readItem_118 M x1 x2 x3 x4 x5) := by
  intro M x1 x2 x3 x4 x5 f1 hI
  refine V_aload_n (k := 0) dX4_readItem_118 rfl rfl ?_
  refine V_geti dX4_readItem_119 rfl (by decide) vf_X4_22 (by decide) ?_
  refine V_ifne (tgt := 132) dX4_readItem_122 (by decide) (fun h10 => ?_) (fun h10 => ?_)
  · refine V_iconst (v := 0) dX4_readItem_132 rfl ?_
    exact V_ret (fun _ => hI) (Or.inr (Or.inr (Or.inl ⟨rfl, _, rfl⟩))) dX4_readItem_133 (fun ty x h1 h2 => by cases h1; cases h2; rfl) rfl
  · refine V_aload_n (k := 0) dX4_readItem_125 rfl rfl ?_
    refine V_callVi (q := (RX4, TX4, 9)) (cls := 4) (st0 := []) (kc' := 0) (ks' := 0) dX4_readItem_126 lk_X4_69 rfl (by decide) rfl rfl rfl (cX4_readSign_ok M  hI) rfl rfl (by decide) (by decide) (Nat.le_of_ble_eq_true rfl) (Or.inl rfl) rfl rfl (by decide) (by decide) (fun y11 M12 e13 hI14 => ?_)
    refine V_ifne (tgt := 134) dX4_readItem_129 (by decide) (fun h15 => ?_) (fun h15 => ?_)
    · refine V_aload_n (k := 1) dX4_readItem_134 rfl rfl ?_
      refine V_iload_n (k := 2) dX4_readItem_135 rfl rfl ?_
      refine V_iload_n (k := 3) dX4_readItem_136 rfl rfl ?_
      refine V_iload (k := 4) dX4_readItem_137 rfl ?_
      refine V_iload (k := 5) dX4_readItem_139 rfl ?_
      refine V_callVv (q := (RX3, TX3, 12)) (cls := 3) (st0 := []) (kc' := 0) (ks' := 0) dX4_readItem_141 lk_X4_132 rfl (v_LP f1).1 (v_LP f1).2.1 rfl rfl (cX3_addItem_ok M12 x1 x2 x3 x4 x5 f1 hI14) rfl rfl (by decide) (by decide) (Nat.le_of_ble_eq_true rfl) (Or.inl rfl) rfl rfl (by decide) (by decide) (fun  M16 e17 hI18 => ?_)
      refine V_iconst (v := 1) dX4_readItem_144 rfl ?_
      exact V_ret (fun _ => hI18) (Or.inr (Or.inr (Or.inl ⟨rfl, _, rfl⟩))) dX4_readItem_145 (fun ty x h1 h2 => by cases h1; cases h2; rfl) rfl
    · refine V_iconst (v := 0) dX4_readItem_132 rfl ?_
      exact V_ret (fun _ => hI14) (Or.inr (Or.inr (Or.inl ⟨rfl, _, rfl⟩))) dX4_readItem_133 (fun ty x h1 h2 => by cases h1; cases h2; rfl) rfl
def fX4_readItem_107 (M : vM) (x1 : Nat) (x2 : Int32) (x3 : Int32) (x4 : Int32) (s0 : Int32) : Option (vR × vM) := if s0 = 0 then fX4_readItem_118 M x1 x2 x3 x4 s0 else bv (fX4_advance M ) fun M20 => fX4_readItem_118 M20 x1 x2 x3 x4 s0
set_option maxRecDepth 20000 in
set_option maxHeartbeats 2000000 in
theorem vX4_readItem_107 {l : Launch} {D : va_G} {dA : Nat → ClassId} : ∀ (M : vM) (x1 : Nat) (x2 : Int32) (x3 : Int32) (x4 : Int32) (s0 : Int32) (f1 : v_isP x1), v_WT M.2.2 → V l D dA sX4_readItem false 175 6 0 0 107 [(0, .ref 3), (1, .ref x1), (2, .int x2), (3, .int x3), (4, .int x4)] [.int s0] 175 M (fX4_readItem_107 M x1 x2 x3 x4 s0) := by
  intro M x1 x2 x3 x4 s0 f1 hI
  refine V_istore (lv' := [(5, .int s0), (0, .ref 3), (1, .ref x1), (2, .int x2), (3, .int x3), (4, .int x4)]) dX4_readItem_107 (by decide) rfl ?_
  refine V_iload (k := 0) dX4_readItem_109 rfl ?_
  refine V_ifeq (tgt := 118) dX4_readItem_111 (by decide) (fun h19 => ?_) (fun h19 => ?_)
  · refine V_sub [1, 2, 3, 4, 5, 0] rfl ?_
    exact vX4_readItem_118 M x1 x2 x3 x4 s0 f1 hI
  · refine V_aload_n (k := 1) dX4_readItem_114 rfl rfl ?_
    refine V_callVv (q := (RX4, TX4, 9)) (cls := 4) (st0 := []) (kc' := 0) (ks' := 0) dX4_readItem_115 lk_X4_28 rfl (by decide) rfl rfl rfl (cX4_advance_ok M  hI) rfl rfl (by decide) (by decide) (Nat.le_of_ble_eq_true rfl) (Or.inl rfl) rfl rfl (by decide) (by decide) (fun  M20 e21 hI22 => ?_)
    refine V_sub [1, 2, 3, 4, 5, 0] rfl ?_
    exact vX4_readItem_118 M20 x1 x2 x3 x4 s0 f1 hI22
def fX4_readItem_84 (M : vM) (x1 : Nat) (x2 : Int32) (x3 : Int32) (s0 : Int32) : Option (vR × vM) := if (M.1 3 7) = 0 then bi (fX4_isWord M 12) fun y24 M25 => if y24 = 0 then fX4_readItem_106 (fX4_readItem_107) M25 x1 x2 x3 s0 else fX4_readItem_107 M25 x1 x2 x3 s0 1 else fX4_readItem_106 (fX4_readItem_107) M x1 x2 x3 s0
set_option maxRecDepth 20000 in
set_option maxHeartbeats 2000000 in
theorem vX4_readItem_84 {l : Launch} {D : va_G} {dA : Nat → ClassId} : ∀ (M : vM) (x1 : Nat) (x2 : Int32) (x3 : Int32) (s0 : Int32) (f1 : v_isP x1), v_WT M.2.2 → V l D dA sX4_readItem false 175 6 0 0 84 [(0, .ref 3), (1, .ref x1), (2, .int x2), (3, .int x3)] [.int s0] 175 M (fX4_readItem_84 M x1 x2 x3 s0) := by
  intro M x1 x2 x3 s0 f1 hI
  refine V_istore (lv' := [(4, .int s0), (0, .ref 3), (1, .ref x1), (2, .int x2), (3, .int x3)]) dX4_readItem_84 (by decide) rfl ?_
  refine V_aload_n (k := 1) dX4_readItem_86 rfl rfl ?_
  refine V_geti dX4_readItem_87 rfl (by decide) vf_X4_22 (by decide) ?_
  refine V_ifne (tgt := 106) dX4_readItem_90 (by decide) (fun h23 => ?_) (fun h23 => ?_)
  · refine V_sub [1, 2, 3, 4, 0] rfl ?_
    exact vX4_readItem_106 (vX4_readItem_107) M x1 x2 x3 s0 f1 hI
  · refine V_aload_n (k := 1) dX4_readItem_93 rfl rfl ?_
    refine V_ldcS (sid := 12) (tx := "free") dX4_readItem_94 (by decide +kernel) ?_
    refine V_callVi (q := (RX4, TX4, 9)) (cls := 4) (st0 := []) (kc' := 0) (ks' := 0) dX4_readItem_96 lk_X4_36 rfl (by decide) rfl rfl rfl (cX4_isWord_ok M 12 (by decide) hI) rfl rfl (by decide) (by decide) (Nat.le_of_ble_eq_true rfl) (Or.inl rfl) rfl rfl (by decide) (by decide) (fun y24 M25 e26 hI27 => ?_)
    refine V_ifeq (tgt := 106) dX4_readItem_99 (by decide) (fun h28 => ?_) (fun h28 => ?_)
    · refine V_sub [1, 2, 3, 4, 0] rfl ?_
      exact vX4_readItem_106 (vX4_readItem_107) M25 x1 x2 x3 s0 f1 hI27
    · refine V_iconst (v := 1) dX4_readItem_102 rfl ?_
      refine V_goto (tgt := 107) dX4_readItem_103 (by decide) ?_
      refine V_sub [1, 2, 3, 4, 0] rfl ?_
      exact vX4_readItem_107 M25 x1 x2 x3 s0 1 f1 hI27
def fX4_readItem_65 (M : vM) (x1 : Nat) (x2 : Int32) (x3 : Int32) : Option (vR × vM) := if (M.1 3 7) = 0 then bi (fX4_readNumber M 0 999) fun y30 M31 => fX4_readItem_84 M31 x1 x2 x3 y30 else fX4_readItem_84 M x1 x2 x3 0
set_option maxRecDepth 20000 in
set_option maxHeartbeats 2000000 in
theorem vX4_readItem_65 {l : Launch} {D : va_G} {dA : Nat → ClassId} : ∀ (M : vM) (x1 : Nat) (x2 : Int32) (x3 : Int32) (f1 : v_isP x1), v_WT M.2.2 → V l D dA sX4_readItem false 175 6 0 0 65 [(0, .ref 3), (1, .ref x1), (2, .int x2), (3, .int x3)] [] 175 M (fX4_readItem_65 M x1 x2 x3) := by
  intro M x1 x2 x3 f1 hI
  refine V_aload_n (k := 0) dX4_readItem_65 rfl rfl ?_
  refine V_geti dX4_readItem_66 rfl (by decide) vf_X4_22 (by decide) ?_
  refine V_ifne (tgt := 83) dX4_readItem_69 (by decide) (fun h29 => ?_) (fun h29 => ?_)
  · refine V_iconst (v := 0) dX4_readItem_83 rfl ?_
    refine V_sub [0, 1, 2, 3] rfl ?_
    exact vX4_readItem_84 M x1 x2 x3 0 f1 hI
  · refine V_aload_n (k := 0) dX4_readItem_72 rfl rfl ?_
    refine V_iconst (v := 0) dX4_readItem_73 rfl ?_
    refine V_sipush (v := 999) dX4_readItem_74 rfl ?_
    refine V_callVi (q := (RX4, TX4, 9)) (cls := 4) (st0 := []) (kc' := 0) (ks' := 0) dX4_readItem_77 lk_X4_88 rfl (by decide) rfl rfl rfl (cX4_readNumber_ok M 0 999 hI) rfl rfl (by decide) (by decide) (Nat.le_of_ble_eq_true rfl) (Or.inl rfl) rfl rfl (by decide) (by decide) (fun y30 M31 e32 hI33 => ?_)
    refine V_goto (tgt := 84) dX4_readItem_80 (by decide) ?_
    refine V_sub [0, 1, 2, 3] rfl ?_
    exact vX4_readItem_84 M31 x1 x2 x3 y30 f1 hI33
def fX4_readItem (M : vM) (x1 : Nat) : Option (vR × vM) := bi (fX3_mostItems M x1) fun y34 M35 => if (M.1 x1 4) < y34 then bv (fX4_advance M35 ) fun M39 => if (M39.1 x1 0) = 0 then bi (fX4_readMember M39 (M39.1 x1 1) ((-1)) ((-1))) fun y43 M44 => if (M44.1 3 7) = 0 then bi (fX4_readMember M44 (M44.1 x1 1) y43 ((-1))) fun y48 M49 => fX4_readItem_64 (fX4_readItem_65) M49 x1 y43 y48 else fX4_readItem_64 (fX4_readItem_65) M44 x1 y43 0 else fX4_readItem_65 M39 x1 0 0 else bi (fX4_fail M35 2) fun y52 M53 => if v_nz y52 = y52 then rI y52 M53 else none
set_option maxRecDepth 20000 in
set_option maxHeartbeats 2000000 in
theorem cX4_readItem_ok {l : Launch} {D : va_G} {dA : Nat → ClassId} (M : vM) (x1 : Nat) (f1 : v_isP x1) (hI : v_WT M.2.2) : Ct l D dA sX4_readItem false 175 6 0 0 175 [.ref 3, .ref x1] M (fX4_readItem M x1) := by
  refine Ct_of (lv := [(0, .ref 3), (1, .ref x1)]) (by decide +kernel) rfl (Nat.le_of_ble_eq_true rfl) rfl (fun h => by cases h) ?_
  refine V_aload_n (k := 1) dX4_readItem_0 rfl rfl ?_
  refine V_geti dX4_readItem_1 (v_LP f1).2.1 (v_LP f1).1 vf_X4_119 (by decide) ?_
  refine V_aload_n (k := 1) dX4_readItem_4 rfl rfl ?_
  refine V_callVi (q := (RX3, TX3, 12)) (cls := 3) (st0 := [.int (M.1 x1 4)]) (kc' := 0) (ks' := 0) dX4_readItem_5 lk_X4_122 rfl (v_LP f1).1 (v_LP f1).2.1 rfl rfl (cX3_mostItems_ok M x1 f1 hI) rfl rfl (by decide) (by decide) (Nat.le_of_ble_eq_true rfl) (Or.inl rfl) rfl rfl (by decide) (by decide) (fun y34 M35 e36 hI37 => ?_)
  refine V_icmplt (tgt := 17) dX4_readItem_8 (by decide) (fun h38 => ?_) (fun h38 => ?_)
  · refine V_aload_n (k := 0) dX4_readItem_17 rfl rfl ?_
    refine V_callVv (q := (RX4, TX4, 9)) (cls := 4) (st0 := []) (kc' := 0) (ks' := 0) dX4_readItem_18 lk_X4_28 rfl (by decide) rfl rfl rfl (cX4_advance_ok M35  hI37) rfl rfl (by decide) (by decide) (Nat.le_of_ble_eq_true rfl) (Or.inl rfl) rfl rfl (by decide) (by decide) (fun  M39 e40 hI41 => ?_)
    refine V_iconst (v := 0) dX4_readItem_21 rfl ?_
    refine V_istore_n (lv' := [(2, .int 0), (0, .ref 3), (1, .ref x1)]) dX4_readItem_22 rfl (by decide) rfl ?_
    refine V_iconst (v := 0) dX4_readItem_23 rfl ?_
    refine V_istore_n (lv' := [(3, .int 0), (2, .int 0), (0, .ref 3), (1, .ref x1)]) dX4_readItem_24 rfl (by decide) rfl ?_
    refine V_aload_n (k := 3) dX4_readItem_25 rfl rfl ?_
    refine V_geti dX4_readItem_26 (v_LP f1).2.1 (v_LP f1).1 vf_X4_85 (by decide) ?_
    refine V_ifne (tgt := 65) dX4_readItem_29 (by decide) (fun h42 => ?_) (fun h42 => ?_)
    · refine V_sub [2, 3, 1, 0] rfl ?_
      exact vX4_readItem_65 M39 x1 0 0 f1 hI41
    · refine V_aload_n (k := 2) dX4_readItem_32 rfl rfl ?_
      refine V_aload_n (k := 3) dX4_readItem_33 rfl rfl ?_
      refine V_geti dX4_readItem_34 (v_LP f1).2.1 (v_LP f1).1 vf_X4_92 (by decide) ?_
      refine V_iconst (v := (-1)) dX4_readItem_37 rfl ?_
      refine V_iconst (v := (-1)) dX4_readItem_38 rfl ?_
      refine V_callVi (q := (RX4, TX4, 9)) (cls := 4) (st0 := []) (kc' := 0) (ks' := 0) dX4_readItem_39 lk_X4_126 rfl (by decide) rfl rfl rfl (cX4_readMember_ok M39 (M39.1 x1 1) ((-1)) ((-1)) hI41) rfl rfl (by decide) (by decide) (Nat.le_of_ble_eq_true rfl) (Or.inl rfl) rfl rfl (by decide) (by decide) (fun y43 M44 e45 hI46 => ?_)
      refine V_istore_n (lv' := [(2, .int y43), (3, .int 0), (0, .ref 3), (1, .ref x1)]) dX4_readItem_42 rfl (by decide) rfl ?_
      refine V_aload_n (k := 2) dX4_readItem_43 rfl rfl ?_
      refine V_geti dX4_readItem_44 rfl (by decide) vf_X4_22 (by decide) ?_
      refine V_ifne (tgt := 63) dX4_readItem_47 (by decide) (fun h47 => ?_) (fun h47 => ?_)
      · refine V_iconst (v := 0) dX4_readItem_63 rfl ?_
        refine V_sub [2, 3, 0] rfl ?_
        exact vX4_readItem_64 (vX4_readItem_65) M44 x1 y43 0 f1 hI46
      · refine V_aload_n (k := 2) dX4_readItem_50 rfl rfl ?_
        refine V_aload_n (k := 3) dX4_readItem_51 rfl rfl ?_
        refine V_geti dX4_readItem_52 (v_LP f1).2.1 (v_LP f1).1 vf_X4_92 (by decide) ?_
        refine V_iload_n (k := 0) dX4_readItem_55 rfl rfl ?_
        refine V_iconst (v := (-1)) dX4_readItem_56 rfl ?_
        refine V_callVi (q := (RX4, TX4, 9)) (cls := 4) (st0 := []) (kc' := 0) (ks' := 0) dX4_readItem_57 lk_X4_126 rfl (by decide) rfl rfl rfl (cX4_readMember_ok M44 (M44.1 x1 1) y43 ((-1)) hI46) rfl rfl (by decide) (by decide) (Nat.le_of_ble_eq_true rfl) (Or.inl rfl) rfl rfl (by decide) (by decide) (fun y48 M49 e50 hI51 => ?_)
        refine V_goto (tgt := 64) dX4_readItem_60 (by decide) ?_
        refine V_sub [2, 3, 0] rfl ?_
        exact vX4_readItem_64 (vX4_readItem_65) M49 x1 y43 y48 f1 hI51
  · refine V_aload_n (k := 0) dX4_readItem_11 rfl rfl ?_
    refine V_iconst (v := 2) dX4_readItem_12 rfl ?_
    refine V_callVi (q := (RX4, TX4, 9)) (cls := 4) (st0 := []) (kc' := 0) (ks' := 0) dX4_readItem_13 lk_X4_52 rfl (by decide) rfl rfl rfl (cX4_fail_ok M35 2 hI37) rfl rfl (by decide) (by decide) (Nat.le_of_ble_eq_true rfl) (Or.inl rfl) rfl rfl (by decide) (by decide) (fun y52 M53 e54 hI55 => ?_)
    exact V_retz (fun _ => hI55) rfl dX4_readItem_16
def fX4_isBond (M : vM) (x1 : Nat) : Option (vR × vM) := if (M.1 x1 0) = 1 then bi (fX4_isWord M 8) fun y13 M14 => if y13 = 0 then bi (fX4_isWord M14 9) fun y18 M19 => if y18 = 0 then rI 0 M19 else rI 1 M19 else rI 1 M14 else if (M.1 x1 0) = 2 then bi (fX4_isWord M 11) fun y8 M9 => if y8 = 0 then rI 0 M9 else rI 1 M9 else rI 0 M
set_option maxRecDepth 20000 in
set_option maxHeartbeats 2000000 in
theorem cX4_isBond_ok {l : Launch} {D : va_G} {dA : Nat → ClassId} (M : vM) (x1 : Nat) (f1 : v_isP x1) (hI : v_WT M.2.2) : Ct l D dA sX4_isBond false 175 6 0 0 175 [.ref 3, .ref x1] M (fX4_isBond M x1) := by
  refine Ct_of (lv := [(0, .ref 3), (1, .ref x1)]) (by decide +kernel) rfl (Nat.le_of_ble_eq_true rfl) rfl (fun h => by cases h) ?_
  refine V_aload_n (k := 1) dX4_isBond_0 rfl rfl ?_
  refine V_geti dX4_isBond_1 (v_LP f1).2.1 (v_LP f1).1 vf_X4_85 (by decide) ?_
  refine V_iconst (v := 1) dX4_isBond_4 rfl ?_
  refine V_icmpne (tgt := 32) dX4_isBond_5 (by decide) (fun h6 => ?_) (fun h6 => ?_)
  · refine V_aload_n (k := 1) dX4_isBond_32 rfl rfl ?_
    refine V_geti dX4_isBond_33 (v_LP f1).2.1 (v_LP f1).1 vf_X4_85 (by decide) ?_
    refine V_iconst (v := 2) dX4_isBond_36 rfl ?_
    refine V_icmpne (tgt := 53) dX4_isBond_37 (by decide) (fun h7 => ?_) (fun h7 => ?_)
    · refine V_iconst (v := 0) dX4_isBond_53 rfl ?_
      exact V_ret (fun _ => hI) (Or.inr (Or.inr (Or.inl ⟨rfl, _, rfl⟩))) dX4_isBond_54 (fun ty x h1 h2 => by cases h1; cases h2; rfl) rfl
    · refine V_aload_n (k := 0) dX4_isBond_40 rfl rfl ?_
      refine V_ldcS (sid := 11) (tx := "ahead") dX4_isBond_41 (by decide +kernel) ?_
      refine V_callVi (q := (RX4, TX4, 9)) (cls := 4) (st0 := []) (kc' := 0) (ks' := 0) dX4_isBond_43 lk_X4_36 rfl (by decide) rfl rfl rfl (cX4_isWord_ok M 11 (by decide) hI) rfl rfl (by decide) (by decide) (Nat.le_of_ble_eq_true rfl) (Or.inl rfl) rfl rfl (by decide) (by decide) (fun y8 M9 e10 hI11 => ?_)
      refine V_ifeq (tgt := 53) dX4_isBond_46 (by decide) (fun h12 => ?_) (fun h12 => ?_)
      · refine V_iconst (v := 0) dX4_isBond_53 rfl ?_
        exact V_ret (fun _ => hI11) (Or.inr (Or.inr (Or.inl ⟨rfl, _, rfl⟩))) dX4_isBond_54 (fun ty x h1 h2 => by cases h1; cases h2; rfl) rfl
      · refine V_iconst (v := 1) dX4_isBond_49 rfl ?_
        refine V_goto (tgt := 54) dX4_isBond_50 (by decide) ?_
        exact V_ret (fun _ => hI11) (Or.inr (Or.inr (Or.inl ⟨rfl, _, rfl⟩))) dX4_isBond_54 (fun ty x h1 h2 => by cases h1; cases h2; rfl) rfl
  · refine V_aload_n (k := 0) dX4_isBond_8 rfl rfl ?_
    refine V_ldcS (sid := 8) (tx := "both") dX4_isBond_9 (by decide +kernel) ?_
    refine V_callVi (q := (RX4, TX4, 9)) (cls := 4) (st0 := []) (kc' := 0) (ks' := 0) dX4_isBond_11 lk_X4_36 rfl (by decide) rfl rfl rfl (cX4_isWord_ok M 8 (by decide) hI) rfl rfl (by decide) (by decide) (Nat.le_of_ble_eq_true rfl) (Or.inl rfl) rfl rfl (by decide) (by decide) (fun y13 M14 e15 hI16 => ?_)
    refine V_ifne (tgt := 26) dX4_isBond_14 (by decide) (fun h17 => ?_) (fun h17 => ?_)
    · refine V_iconst (v := 1) dX4_isBond_26 rfl ?_
      refine V_goto (tgt := 31) dX4_isBond_27 (by decide) ?_
      exact V_ret (fun _ => hI16) (Or.inr (Or.inr (Or.inl ⟨rfl, _, rfl⟩))) dX4_isBond_31 (fun ty x h1 h2 => by cases h1; cases h2; rfl) rfl
    · refine V_aload_n (k := 0) dX4_isBond_17 rfl rfl ?_
      refine V_ldcS (sid := 9) (tx := "needs") dX4_isBond_18 (by decide +kernel) ?_
      refine V_callVi (q := (RX4, TX4, 9)) (cls := 4) (st0 := []) (kc' := 0) (ks' := 0) dX4_isBond_20 lk_X4_36 rfl (by decide) rfl rfl rfl (cX4_isWord_ok M14 9 (by decide) hI16) rfl rfl (by decide) (by decide) (Nat.le_of_ble_eq_true rfl) (Or.inl rfl) rfl rfl (by decide) (by decide) (fun y18 M19 e20 hI21 => ?_)
      refine V_ifeq (tgt := 30) dX4_isBond_23 (by decide) (fun h22 => ?_) (fun h22 => ?_)
      · refine V_iconst (v := 0) dX4_isBond_30 rfl ?_
        exact V_ret (fun _ => hI21) (Or.inr (Or.inr (Or.inl ⟨rfl, _, rfl⟩))) dX4_isBond_31 (fun ty x h1 h2 => by cases h1; cases h2; rfl) rfl
      · refine V_iconst (v := 1) dX4_isBond_26 rfl ?_
        refine V_goto (tgt := 31) dX4_isBond_27 (by decide) ?_
        exact V_ret (fun _ => hI21) (Or.inr (Or.inr (Or.inl ⟨rfl, _, rfl⟩))) dX4_isBond_31 (fun ty x h1 h2 => by cases h1; cases h2; rfl) rfl
def fX3_bar (M : vM) (x0 : Nat) (x1 : Int32) (x2 : Int32) : Option (vR × vM) := bi (fX10_at M (x0 + 5) x1) fun y1 M2 => bv (fX10_put M2 (x0 + 5) x1 (y1 ||| (1 <<< (x2 &&& (31 : Int32))))) fun M5 => rV M5
set_option maxRecDepth 20000 in
set_option maxHeartbeats 2000000 in
theorem cX3_bar_ok {l : Launch} {D : va_G} {dA : Nat → ClassId} (M : vM) (x0 : Nat) (x1 : Int32) (x2 : Int32) (f0 : v_isP x0) (hI : v_WT M.2.2) : Ct l D dA sX3_bar false 175 2 0 0 175 [.ref x0, .int x1, .int x2] M (fX3_bar M x0 x1 x2) := by
  refine Ct_of (lv := [(0, .ref x0), (1, .int x1), (2, .int x2)]) (by decide +kernel) rfl (Nat.le_of_ble_eq_true rfl) rfl (fun h => by cases h) ?_
  refine V_aload_n (k := 0) dX3_bar_0 rfl rfl ?_
  refine V_getr (k := x0 + 5) dX3_bar_1 (v_LP f0).2.1 (v_LP f0).1 vf_X3_24 (by decide) (v_finP hI f0).2.2.2.2 ?_
  refine V_iload_n (k := 1) dX3_bar_4 rfl rfl ?_
  refine V_aload_n (k := 0) dX3_bar_5 rfl rfl ?_
  refine V_getr (k := x0 + 5) dX3_bar_6 (v_LP f0).2.1 (v_LP f0).1 vf_X3_24 (by decide) (v_finP hI f0).2.2.2.2 ?_
  refine V_iload_n (k := 1) dX3_bar_9 rfl rfl ?_
  refine V_callSi (st0 := [.int x1, .ref (x0 + 5)]) (kc' := 0) (ks' := 0) dX3_bar_10 lk_X3_59 rfl (cX10_at_ok M (x0 + 5) x1 (v_isA_of (v_LP f0).2.2.2.2.2.2.2 (v_LP f0).2.2.1.2.2.2.2) hI) rfl rfl (by decide) (by decide) (Nat.le_of_ble_eq_true rfl) (Or.inl rfl) rfl rfl (by decide) (by decide) (fun y1 M2 e3 hI4 => ?_)
  refine V_iconst (v := 1) dX3_bar_13 rfl ?_
  refine V_iload_n (k := 2) dX3_bar_14 rfl rfl ?_
  refine V_ishl dX3_bar_15 ?_
  refine V_ior dX3_bar_16 ?_
  refine V_callSv (st0 := []) (kc' := 0) (ks' := 0) dX3_bar_17 lk_X3_55 rfl (cX10_put_ok M2 (x0 + 5) x1 (y1 ||| (1 <<< (x2 &&& (31 : Int32)))) (v_isA_of (v_LP f0).2.2.2.2.2.2.2 (v_LP f0).2.2.1.2.2.2.2) hI4) rfl rfl (by decide) (by decide) (Nat.le_of_ble_eq_true rfl) (Or.inl rfl) rfl rfl (by decide) (by decide) (fun  M5 e6 hI7 => ?_)
  exact V_ret (fun _ => hI7) (Or.inl ⟨rfl, rfl⟩) dX3_bar_20 (fun ty x h1 h2 => by cases h1) rfl
def fX3_need (M : vM) (x0 : Nat) (x1 : Int32) (x2 : Int32) : Option (vR × vM) := bi (fX10_at M (x0 + 4) x1) fun y1 M2 => bv (fX10_put M2 (x0 + 4) x1 (y1 ||| (1 <<< (x2 &&& (31 : Int32))))) fun M5 => rV M5
set_option maxRecDepth 20000 in
set_option maxHeartbeats 2000000 in
theorem cX3_need_ok {l : Launch} {D : va_G} {dA : Nat → ClassId} (M : vM) (x0 : Nat) (x1 : Int32) (x2 : Int32) (f0 : v_isP x0) (hI : v_WT M.2.2) : Ct l D dA sX3_need false 175 2 0 0 175 [.ref x0, .int x1, .int x2] M (fX3_need M x0 x1 x2) := by
  refine Ct_of (lv := [(0, .ref x0), (1, .int x1), (2, .int x2)]) (by decide +kernel) rfl (Nat.le_of_ble_eq_true rfl) rfl (fun h => by cases h) ?_
  refine V_aload_n (k := 0) dX3_need_0 rfl rfl ?_
  refine V_getr (k := x0 + 4) dX3_need_1 (v_LP f0).2.1 (v_LP f0).1 vf_X3_21 (by decide) (v_finP hI f0).2.2.2.1 ?_
  refine V_iload_n (k := 1) dX3_need_4 rfl rfl ?_
  refine V_aload_n (k := 0) dX3_need_5 rfl rfl ?_
  refine V_getr (k := x0 + 4) dX3_need_6 (v_LP f0).2.1 (v_LP f0).1 vf_X3_21 (by decide) (v_finP hI f0).2.2.2.1 ?_
  refine V_iload_n (k := 1) dX3_need_9 rfl rfl ?_
  refine V_callSi (st0 := [.int x1, .ref (x0 + 4)]) (kc' := 0) (ks' := 0) dX3_need_10 lk_X3_59 rfl (cX10_at_ok M (x0 + 4) x1 (v_isA_of (v_LP f0).2.2.2.2.2.2.1 (v_LP f0).2.2.1.2.2.2.1) hI) rfl rfl (by decide) (by decide) (Nat.le_of_ble_eq_true rfl) (Or.inl rfl) rfl rfl (by decide) (by decide) (fun y1 M2 e3 hI4 => ?_)
  refine V_iconst (v := 1) dX3_need_13 rfl ?_
  refine V_iload_n (k := 2) dX3_need_14 rfl rfl ?_
  refine V_ishl dX3_need_15 ?_
  refine V_ior dX3_need_16 ?_
  refine V_callSv (st0 := []) (kc' := 0) (ks' := 0) dX3_need_17 lk_X3_55 rfl (cX10_put_ok M2 (x0 + 4) x1 (y1 ||| (1 <<< (x2 &&& (31 : Int32)))) (v_isA_of (v_LP f0).2.2.2.2.2.2.1 (v_LP f0).2.2.1.2.2.2.1) hI4) rfl rfl (by decide) (by decide) (Nat.le_of_ble_eq_true rfl) (Or.inl rfl) rfl rfl (by decide) (by decide) (fun  M5 e6 hI7 => ?_)
  exact V_ret (fun _ => hI7) (Or.inl ⟨rfl, rfl⟩) dX3_need_20 (fun ty x h1 h2 => by cases h1) rfl
def fX4_readBond_58 (M : vM) (x1 : Nat) (x2 : Int32) (x3 : Int32) (s0 : Int32) : Option (vR × vM) := if (M.1 3 7) = 0 then bi (fX4_readSign M ) fun y8 M9 => if y8 = 0 then rI 0 M9 else if x2 = 0 then if ((v_si M9 x1 5 ((M9.1 x1 5) + 1)).1 x1 0) = 1 then bv (fX3_need (v_si M9 x1 5 ((M9.1 x1 5) + 1)) x1 x3 s0) fun M18 => rI 1 M18 else bv (fX3_need (v_si M9 x1 5 ((M9.1 x1 5) + 1)) x1 s0 x3) fun M15 => rI 1 M15 else bv (fX3_bar (v_si M9 x1 5 ((M9.1 x1 5) + 1)) x1 x3 s0) fun M21 => rI 1 M21 else rI 0 M
set_option maxRecDepth 20000 in
set_option maxHeartbeats 2000000 in
theorem vX4_readBond_58 {l : Launch} {D : va_G} {dA : Nat → ClassId} : ∀ (M : vM) (x1 : Nat) (x2 : Int32) (x3 : Int32) (s0 : Int32) (f1 : v_isP x1), v_WT M.2.2 → V l D dA sX4_readBond false 175 6 0 0 58 [(0, .ref 3), (1, .ref x1), (2, .int x2), (3, .int x3)] [.int s0] 175 M (fX4_readBond_58 M x1 x2 x3 s0) := by
  intro M x1 x2 x3 s0 f1 hI
  refine V_istore (lv' := [(4, .int s0), (0, .ref 3), (1, .ref x1), (2, .int x2), (3, .int x3)]) dX4_readBond_58 (by decide) rfl ?_
  refine V_aload_n (k := 1) dX4_readBond_60 rfl rfl ?_
  refine V_geti dX4_readBond_61 rfl (by decide) vf_X4_22 (by decide) ?_
  refine V_ifne (tgt := 74) dX4_readBond_64 (by decide) (fun h7 => ?_) (fun h7 => ?_)
  · refine V_iconst (v := 0) dX4_readBond_74 rfl ?_
    exact V_ret (fun _ => hI) (Or.inr (Or.inr (Or.inl ⟨rfl, _, rfl⟩))) dX4_readBond_75 (fun ty x h1 h2 => by cases h1; cases h2; rfl) rfl
  · refine V_aload_n (k := 1) dX4_readBond_67 rfl rfl ?_
    refine V_callVi (q := (RX4, TX4, 9)) (cls := 4) (st0 := []) (kc' := 0) (ks' := 0) dX4_readBond_68 lk_X4_69 rfl (by decide) rfl rfl rfl (cX4_readSign_ok M  hI) rfl rfl (by decide) (by decide) (Nat.le_of_ble_eq_true rfl) (Or.inl rfl) rfl rfl (by decide) (by decide) (fun y8 M9 e10 hI11 => ?_)
    refine V_ifne (tgt := 76) dX4_readBond_71 (by decide) (fun h12 => ?_) (fun h12 => ?_)
    · refine V_aload_n (k := 2) dX4_readBond_76 rfl rfl ?_
      refine V_dup dX4_readBond_77 rfl ?_
      refine V_geti dX4_readBond_78 (v_LP f1).2.1 (v_LP f1).1 vf_X4_136 (by decide) ?_
      refine V_iconst (v := 1) dX4_readBond_81 rfl ?_
      refine V_iadd dX4_readBond_82 ?_
      refine V_puti dX4_readBond_83 (v_LP f1).2.1 (v_LP f1).1 vf_X4_136 (by decide) rfl rfl ?_
      refine V_iload_n (k := 3) dX4_readBond_86 rfl rfl ?_
      refine V_ifeq (tgt := 100) dX4_readBond_87 (by decide) (fun h13 => ?_) (fun h13 => ?_)
      · refine V_aload_n (k := 2) dX4_readBond_100 rfl rfl ?_
        refine V_geti dX4_readBond_101 (v_LP f1).2.1 (v_LP f1).1 vf_X4_85 (by decide) ?_
        refine V_iconst (v := 1) dX4_readBond_104 rfl ?_
        refine V_icmpne (tgt := 118) dX4_readBond_105 (by decide) (fun h14 => ?_) (fun h14 => ?_)
        · refine V_aload_n (k := 2) dX4_readBond_118 rfl rfl ?_
          refine V_iload (k := 0) dX4_readBond_119 rfl ?_
          refine V_iload_n (k := 4) dX4_readBond_121 rfl rfl ?_
          refine V_callVv (q := (RX3, TX3, 12)) (cls := 3) (st0 := []) (kc' := 0) (ks' := 0) dX4_readBond_122 lk_X4_143 rfl (v_LP f1).1 (v_LP f1).2.1 rfl rfl (cX3_need_ok (v_si M9 x1 5 ((M9.1 x1 5) + 1)) x1 s0 x3 f1 hI11) rfl rfl (by decide) (by decide) (Nat.le_of_ble_eq_true rfl) (Or.inl rfl) rfl rfl (by decide) (by decide) (fun  M15 e16 hI17 => ?_)
          refine V_iconst (v := 1) dX4_readBond_125 rfl ?_
          exact V_ret (fun _ => hI17) (Or.inr (Or.inr (Or.inl ⟨rfl, _, rfl⟩))) dX4_readBond_126 (fun ty x h1 h2 => by cases h1; cases h2; rfl) rfl
        · refine V_aload_n (k := 2) dX4_readBond_108 rfl rfl ?_
          refine V_iload_n (k := 4) dX4_readBond_109 rfl rfl ?_
          refine V_iload (k := 0) dX4_readBond_110 rfl ?_
          refine V_callVv (q := (RX3, TX3, 12)) (cls := 3) (st0 := []) (kc' := 0) (ks' := 0) dX4_readBond_112 lk_X4_143 rfl (v_LP f1).1 (v_LP f1).2.1 rfl rfl (cX3_need_ok (v_si M9 x1 5 ((M9.1 x1 5) + 1)) x1 x3 s0 f1 hI11) rfl rfl (by decide) (by decide) (Nat.le_of_ble_eq_true rfl) (Or.inl rfl) rfl rfl (by decide) (by decide) (fun  M18 e19 hI20 => ?_)
          refine V_goto (tgt := 125) dX4_readBond_115 (by decide) ?_
          refine V_iconst (v := 1) dX4_readBond_125 rfl ?_
          exact V_ret (fun _ => hI20) (Or.inr (Or.inr (Or.inl ⟨rfl, _, rfl⟩))) dX4_readBond_126 (fun ty x h1 h2 => by cases h1; cases h2; rfl) rfl
      · refine V_aload_n (k := 2) dX4_readBond_90 rfl rfl ?_
        refine V_iload_n (k := 4) dX4_readBond_91 rfl rfl ?_
        refine V_iload (k := 0) dX4_readBond_92 rfl ?_
        refine V_callVv (q := (RX3, TX3, 12)) (cls := 3) (st0 := []) (kc' := 0) (ks' := 0) dX4_readBond_94 lk_X4_139 rfl (v_LP f1).1 (v_LP f1).2.1 rfl rfl (cX3_bar_ok (v_si M9 x1 5 ((M9.1 x1 5) + 1)) x1 x3 s0 f1 hI11) rfl rfl (by decide) (by decide) (Nat.le_of_ble_eq_true rfl) (Or.inl rfl) rfl rfl (by decide) (by decide) (fun  M21 e22 hI23 => ?_)
        refine V_goto (tgt := 125) dX4_readBond_97 (by decide) ?_
        refine V_iconst (v := 1) dX4_readBond_125 rfl ?_
        exact V_ret (fun _ => hI23) (Or.inr (Or.inr (Or.inl ⟨rfl, _, rfl⟩))) dX4_readBond_126 (fun ty x h1 h2 => by cases h1; cases h2; rfl) rfl
    · refine V_iconst (v := 0) dX4_readBond_74 rfl ?_
      exact V_ret (fun _ => hI11) (Or.inr (Or.inr (Or.inl ⟨rfl, _, rfl⟩))) dX4_readBond_75 (fun ty x h1 h2 => by cases h1; cases h2; rfl) rfl
def fX4_readBond (M : vM) (x1 : Nat) : Option (vR × vM) := if (M.1 x1 5) < 12 then bi (fX4_isWord M 8) fun y25 M26 => bv (fX4_advance M26 ) fun M29 => bi (fX4_readMember M29 (M29.1 x1 4) ((-1)) ((-1))) fun y32 M33 => if (M33.1 3 7) = 0 then bi (fX4_readMember M33 (M33.1 x1 4) ((-1)) y32) fun y37 M38 => fX4_readBond_58 M38 x1 y25 y32 y37 else fX4_readBond_58 M33 x1 y25 y32 0 else bi (fX4_fail M 2) fun y41 M42 => if v_nz y41 = y41 then rI y41 M42 else none
set_option maxRecDepth 20000 in
set_option maxHeartbeats 2000000 in
theorem cX4_readBond_ok {l : Launch} {D : va_G} {dA : Nat → ClassId} (M : vM) (x1 : Nat) (f1 : v_isP x1) (hI : v_WT M.2.2) : Ct l D dA sX4_readBond false 175 6 0 0 175 [.ref 3, .ref x1] M (fX4_readBond M x1) := by
  refine Ct_of (lv := [(0, .ref 3), (1, .ref x1)]) (by decide +kernel) rfl (Nat.le_of_ble_eq_true rfl) rfl (fun h => by cases h) ?_
  refine V_aload_n (k := 1) dX4_readBond_0 rfl rfl ?_
  refine V_geti dX4_readBond_1 (v_LP f1).2.1 (v_LP f1).1 vf_X4_136 (by decide) ?_
  refine V_bipush (v := 12) dX4_readBond_4 rfl ?_
  refine V_icmplt (tgt := 15) dX4_readBond_6 (by decide) (fun h24 => ?_) (fun h24 => ?_)
  · refine V_aload_n (k := 0) dX4_readBond_15 rfl rfl ?_
    refine V_ldcS (sid := 8) (tx := "both") dX4_readBond_16 (by decide +kernel) ?_
    refine V_callVi (q := (RX4, TX4, 9)) (cls := 4) (st0 := []) (kc' := 0) (ks' := 0) dX4_readBond_18 lk_X4_36 rfl (by decide) rfl rfl rfl (cX4_isWord_ok M 8 (by decide) hI) rfl rfl (by decide) (by decide) (Nat.le_of_ble_eq_true rfl) (Or.inl rfl) rfl rfl (by decide) (by decide) (fun y25 M26 e27 hI28 => ?_)
    refine V_istore_n (lv' := [(2, .int y25), (0, .ref 3), (1, .ref x1)]) dX4_readBond_21 rfl (by decide) rfl ?_
    refine V_aload_n (k := 1) dX4_readBond_22 rfl rfl ?_
    refine V_callVv (q := (RX4, TX4, 9)) (cls := 4) (st0 := []) (kc' := 0) (ks' := 0) dX4_readBond_23 lk_X4_28 rfl (by decide) rfl rfl rfl (cX4_advance_ok M26  hI28) rfl rfl (by decide) (by decide) (Nat.le_of_ble_eq_true rfl) (Or.inl rfl) rfl rfl (by decide) (by decide) (fun  M29 e30 hI31 => ?_)
    refine V_aload_n (k := 1) dX4_readBond_26 rfl rfl ?_
    refine V_aload_n (k := 2) dX4_readBond_27 rfl rfl ?_
    refine V_geti dX4_readBond_28 (v_LP f1).2.1 (v_LP f1).1 vf_X4_119 (by decide) ?_
    refine V_iconst (v := (-1)) dX4_readBond_31 rfl ?_
    refine V_iconst (v := (-1)) dX4_readBond_32 rfl ?_
    refine V_callVi (q := (RX4, TX4, 9)) (cls := 4) (st0 := []) (kc' := 0) (ks' := 0) dX4_readBond_33 lk_X4_126 rfl (by decide) rfl rfl rfl (cX4_readMember_ok M29 (M29.1 x1 4) ((-1)) ((-1)) hI31) rfl rfl (by decide) (by decide) (Nat.le_of_ble_eq_true rfl) (Or.inl rfl) rfl rfl (by decide) (by decide) (fun y32 M33 e34 hI35 => ?_)
    refine V_istore_n (lv' := [(3, .int y32), (2, .int y25), (0, .ref 3), (1, .ref x1)]) dX4_readBond_36 rfl (by decide) rfl ?_
    refine V_aload_n (k := 2) dX4_readBond_37 rfl rfl ?_
    refine V_geti dX4_readBond_38 rfl (by decide) vf_X4_22 (by decide) ?_
    refine V_ifne (tgt := 57) dX4_readBond_41 (by decide) (fun h36 => ?_) (fun h36 => ?_)
    · refine V_iconst (v := 0) dX4_readBond_57 rfl ?_
      refine V_sub [2, 3, 1, 0] rfl ?_
      exact vX4_readBond_58 M33 x1 y25 y32 0 f1 hI35
    · refine V_aload_n (k := 2) dX4_readBond_44 rfl rfl ?_
      refine V_aload_n (k := 3) dX4_readBond_45 rfl rfl ?_
      refine V_geti dX4_readBond_46 (v_LP f1).2.1 (v_LP f1).1 vf_X4_119 (by decide) ?_
      refine V_iconst (v := (-1)) dX4_readBond_49 rfl ?_
      refine V_iload_n (k := 0) dX4_readBond_50 rfl rfl ?_
      refine V_callVi (q := (RX4, TX4, 9)) (cls := 4) (st0 := []) (kc' := 0) (ks' := 0) dX4_readBond_51 lk_X4_126 rfl (by decide) rfl rfl rfl (cX4_readMember_ok M33 (M33.1 x1 4) ((-1)) y32 hI35) rfl rfl (by decide) (by decide) (Nat.le_of_ble_eq_true rfl) (Or.inl rfl) rfl rfl (by decide) (by decide) (fun y37 M38 e39 hI40 => ?_)
      refine V_goto (tgt := 58) dX4_readBond_54 (by decide) ?_
      refine V_sub [2, 3, 1, 0] rfl ?_
      exact vX4_readBond_58 M38 x1 y25 y32 y37 f1 hI40
  · refine V_aload_n (k := 0) dX4_readBond_9 rfl rfl ?_
    refine V_iconst (v := 2) dX4_readBond_10 rfl ?_
    refine V_callVi (q := (RX4, TX4, 9)) (cls := 4) (st0 := []) (kc' := 0) (ks' := 0) dX4_readBond_11 lk_X4_52 rfl (by decide) rfl rfl rfl (cX4_fail_ok M 2 hI) rfl rfl (by decide) (by decide) (Nat.le_of_ble_eq_true rfl) (Or.inl rfl) rfl rfl (by decide) (by decide) (fun y41 M42 e43 hI44 => ?_)
    exact V_retz (fun _ => hI44) rfl dX4_readBond_14
def fX4_readMore_17 (M : vM) : Option (vR × vM) := bi (fX4_fail M 1) fun y6 M7 => if v_nz y6 = y6 then rI y6 M7 else none
set_option maxRecDepth 20000 in
set_option maxHeartbeats 2000000 in
theorem vX4_readMore_17 {l : Launch} {D : va_G} {dA : Nat → ClassId} : ∀ (M : vM), v_WT M.2.2 → V l D dA sX4_readMore false 175 7 0 0 17 [(0, .ref 3)] [] 175 M (fX4_readMore_17 M) := by
  intro M hI
  refine V_aload_n (k := 0) dX4_readMore_17 rfl rfl ?_
  refine V_iconst (v := 1) dX4_readMore_18 rfl ?_
  refine V_callVi (q := (RX4, TX4, 9)) (cls := 4) (st0 := []) (kc' := 0) (ks' := 0) dX4_readMore_19 lk_X4_52 rfl (by decide) rfl rfl rfl (cX4_fail_ok M 1 hI) rfl rfl (by decide) (by decide) (Nat.le_of_ble_eq_true rfl) (Or.inl rfl) rfl rfl (by decide) (by decide) (fun y6 M7 e8 hI9 => ?_)
  exact V_retz (fun _ => hI9) rfl dX4_readMore_22
def fX4_readMore (M : vM) : Option (vR × vM) := if (M.1 3 8) < 1 then fX4_readMore_17 M else if (M.1 3 8) ≤ (nI 6) then if v_in ((M.1 3 8) - 1) 6 = true then bi (fX4_isItem M (M.2.2 4 (Int32.toNatClampNeg ((M.1 3 8) - 1)) - 1)) fun y13 M14 => if y13 = 0 then bi (fX4_isBond M14 (M.2.2 4 (Int32.toNatClampNeg ((M.1 3 8) - 1)) - 1)) fun y18 M19 => if y18 = 0 then bi (fX4_fail M19 1) fun y23 M24 => if v_nz y23 = y23 then rI y23 M24 else none else bi (fX4_readBond M19 (M.2.2 4 (Int32.toNatClampNeg ((M.1 3 8) - 1)) - 1)) fun y27 M28 => if v_nz y27 = y27 then rI y27 M28 else none else bi (fX4_readItem M14 (M.2.2 4 (Int32.toNatClampNeg ((M.1 3 8) - 1)) - 1)) fun y31 M32 => if v_nz y31 = y31 then rI y31 M32 else none else none else fX4_readMore_17 M
set_option maxRecDepth 20000 in
set_option maxHeartbeats 2000000 in
theorem cX4_readMore_ok {l : Launch} {D : va_G} {dA : Nat → ClassId} (M : vM) (hI : v_WT M.2.2) : Ct l D dA sX4_readMore false 175 7 0 0 175 [.ref 3, .ref 4] M (fX4_readMore M) := by
  refine Ct_of (lv := [(0, .ref 3), (1, .ref 4)]) (by decide +kernel) rfl (Nat.le_of_ble_eq_true rfl) rfl (fun h => by cases h) ?_
  refine V_aload_n (k := 0) dX4_readMore_0 rfl rfl ?_
  refine V_geti dX4_readMore_1 rfl (by decide) vf_X4_25 (by decide) ?_
  refine V_iconst (v := 1) dX4_readMore_4 rfl ?_
  refine V_icmplt (tgt := 17) dX4_readMore_5 (by decide) (fun h10 => ?_) (fun h10 => ?_)
  · refine V_sub [0] rfl ?_
    exact vX4_readMore_17 M hI
  · refine V_aload_n (k := 0) dX4_readMore_8 rfl rfl ?_
    refine V_geti dX4_readMore_9 rfl (by decide) vf_X4_25 (by decide) ?_
    refine V_aload_n (k := 1) dX4_readMore_12 rfl rfl ?_
    refine V_alen dX4_readMore_13 rfl (by decide) (by decide) ?_
    refine V_icmple (tgt := 23) dX4_readMore_14 (by decide) (fun h11 => ?_) (fun h11 => ?_)
    · refine V_aload_n (k := 1) dX4_readMore_23 rfl rfl ?_
      refine V_aload_n (k := 0) dX4_readMore_24 rfl rfl ?_
      refine V_geti dX4_readMore_25 rfl (by decide) vf_X4_25 (by decide) ?_
      refine V_iconst (v := 1) dX4_readMore_28 rfl ?_
      refine V_isub dX4_readMore_29 ?_
      refine V_aald (k := (M.2.2 4 (Int32.toNatClampNeg ((M.1 3 8) - 1)) - 1)) dX4_readMore_30 rfl (by decide) (by decide) rfl (fun h12 => v_spr hI h12) (fun h12 => ?_)
      refine V_astore_n (lv' := [(2, .ref (M.2.2 4 (Int32.toNatClampNeg ((M.1 3 8) - 1)) - 1)), (0, .ref 3), (1, .ref 4)]) dX4_readMore_31 rfl (by decide) rfl ?_
      refine V_aload_n (k := 1) dX4_readMore_32 rfl rfl ?_
      refine V_aload_n (k := 0) dX4_readMore_33 rfl rfl ?_
      refine V_callVi (q := (RX4, TX4, 9)) (cls := 4) (st0 := []) (kc' := 0) (ks' := 0) dX4_readMore_34 lk_X4_73 rfl (by decide) rfl rfl rfl (cX4_isItem_ok M (M.2.2 4 (Int32.toNatClampNeg ((M.1 3 8) - 1)) - 1) (v_sprP hI h12) hI) rfl rfl (by decide) (by decide) (Nat.le_of_ble_eq_true rfl) (Or.inl rfl) rfl rfl (by decide) (by decide) (fun y13 M14 e15 hI16 => ?_)
      refine V_ifeq (tgt := 46) dX4_readMore_37 (by decide) (fun h17 => ?_) (fun h17 => ?_)
      · refine V_aload_n (k := 1) dX4_readMore_46 rfl rfl ?_
        refine V_aload_n (k := 0) dX4_readMore_47 rfl rfl ?_
        refine V_callVi (q := (RX4, TX4, 9)) (cls := 4) (st0 := []) (kc' := 0) (ks' := 0) dX4_readMore_48 lk_X4_79 rfl (by decide) rfl rfl rfl (cX4_isBond_ok M14 (M.2.2 4 (Int32.toNatClampNeg ((M.1 3 8) - 1)) - 1) (v_sprP hI h12) hI16) rfl rfl (by decide) (by decide) (Nat.le_of_ble_eq_true rfl) (Or.inl rfl) rfl rfl (by decide) (by decide) (fun y18 M19 e20 hI21 => ?_)
        refine V_ifeq (tgt := 62) dX4_readMore_51 (by decide) (fun h22 => ?_) (fun h22 => ?_)
        · refine V_aload_n (k := 1) dX4_readMore_62 rfl rfl ?_
          refine V_iconst (v := 1) dX4_readMore_63 rfl ?_
          refine V_callVi (q := (RX4, TX4, 9)) (cls := 4) (st0 := []) (kc' := 0) (ks' := 0) dX4_readMore_64 lk_X4_52 rfl (by decide) rfl rfl rfl (cX4_fail_ok M19 1 hI21) rfl rfl (by decide) (by decide) (Nat.le_of_ble_eq_true rfl) (Or.inl rfl) rfl rfl (by decide) (by decide) (fun y23 M24 e25 hI26 => ?_)
          exact V_retz (fun _ => hI26) rfl dX4_readMore_67
        · refine V_aload_n (k := 1) dX4_readMore_54 rfl rfl ?_
          refine V_aload_n (k := 0) dX4_readMore_55 rfl rfl ?_
          refine V_callVi (q := (RX4, TX4, 9)) (cls := 4) (st0 := []) (kc' := 0) (ks' := 0) dX4_readMore_56 lk_X4_82 rfl (by decide) rfl rfl rfl (cX4_readBond_ok M19 (M.2.2 4 (Int32.toNatClampNeg ((M.1 3 8) - 1)) - 1) (v_sprP hI h12) hI21) rfl rfl (by decide) (by decide) (Nat.le_of_ble_eq_true rfl) (Or.inl rfl) rfl rfl (by decide) (by decide) (fun y27 M28 e29 hI30 => ?_)
          refine V_goto (tgt := 67) dX4_readMore_59 (by decide) ?_
          exact V_retz (fun _ => hI30) rfl dX4_readMore_67
      · refine V_aload_n (k := 1) dX4_readMore_40 rfl rfl ?_
        refine V_aload_n (k := 0) dX4_readMore_41 rfl rfl ?_
        refine V_callVi (q := (RX4, TX4, 9)) (cls := 4) (st0 := []) (kc' := 0) (ks' := 0) dX4_readMore_42 lk_X4_76 rfl (by decide) rfl rfl rfl (cX4_readItem_ok M14 (M.2.2 4 (Int32.toNatClampNeg ((M.1 3 8) - 1)) - 1) (v_sprP hI h12) hI16) rfl rfl (by decide) (by decide) (Nat.le_of_ble_eq_true rfl) (Or.inl rfl) rfl rfl (by decide) (by decide) (fun y31 M32 e33 hI34 => ?_)
        exact V_retz (fun _ => hI34) rfl dX4_readMore_45
    · refine V_sub [0] rfl ?_
      exact vX4_readMore_17 M hI
def fX4_readTown_87 (k26 : vM → Int32 → Option (vR × vM)) (M : vM) (x3 : Int32) (s0 : Int32) : Option (vR × vM) := if s0 = ((-1)) then bi (fX4_readMore M ) fun y9 M10 => k26 M10 (x3 + 1) else bi (fX4_readHead M s0) fun y13 M14 => k26 M14 (x3 + 1)
set_option maxRecDepth 20000 in
set_option maxHeartbeats 2000000 in
theorem vX4_readTown_87 {l : Launch} {D : va_G} {dA : Nat → ClassId} {k26 : vM → Int32 → Option (vR × vM)} (hk26 : ∀ (M : vM) (x3 : Int32), v_WT M.2.2 → V l D dA sX4_readTown false 175 8 0 0 26 [(0, .ref 3), (2, .ref 4), (3, .int x3)] [] 175 M (k26 M x3)) : ∀ (M : vM) (x3 : Int32) (s0 : Int32), v_WT M.2.2 → V l D dA sX4_readTown false 175 8 0 0 87 [(0, .ref 3), (2, .ref 4), (3, .int x3)] [.int s0] 175 M (fX4_readTown_87 k26 M x3 s0) := by
  intro M x3 s0 hI
  refine V_istore (lv' := [(4, .int s0), (0, .ref 3), (2, .ref 4), (3, .int x3)]) dX4_readTown_87 (by decide) rfl ?_
  refine V_iload (k := 0) dX4_readTown_89 rfl ?_
  refine V_iconst (v := (-1)) dX4_readTown_91 rfl ?_
  refine V_icmpeq (tgt := 106) dX4_readTown_92 (by decide) (fun h8 => ?_) (fun h8 => ?_)
  · refine V_aload_n (k := 1) dX4_readTown_106 rfl rfl ?_
    refine V_aload_n (k := 2) dX4_readTown_107 rfl rfl ?_
    refine V_callVi (q := (RX4, TX4, 9)) (cls := 4) (st0 := []) (kc' := 0) (ks' := 0) dX4_readTown_108 lk_X4_48 rfl (by decide) rfl rfl rfl (cX4_readMore_ok M  hI) rfl rfl (by decide) (by decide) (Nat.le_of_ble_eq_true rfl) (Or.inl rfl) rfl rfl (by decide) (by decide) (fun y9 M10 e11 hI12 => ?_)
    refine V_pop dX4_readTown_111 rfl ?_
    refine V_iinc (k := 3) (v := x3 + 1) (lv' := [(3, .int (x3 + 1)), (4, .int s0), (0, .ref 3), (2, .ref 4)]) dX4_readTown_112 rfl rfl (by decide) rfl ?_
    refine V_goto (tgt := 26) dX4_readTown_115 (by decide) ?_
    refine V_sub [2, 3, 0] rfl ?_
    exact hk26 M10 (x3 + 1) hI12
  · refine V_aload_n (k := 1) dX4_readTown_95 rfl rfl ?_
    refine V_aload_n (k := 2) dX4_readTown_96 rfl rfl ?_
    refine V_iload (k := 0) dX4_readTown_97 rfl ?_
    refine V_callVi (q := (RX4, TX4, 9)) (cls := 4) (st0 := []) (kc' := 0) (ks' := 0) dX4_readTown_99 lk_X4_44 rfl (by decide) rfl rfl rfl (cX4_readHead_ok M s0 hI) rfl rfl (by decide) (by decide) (Nat.le_of_ble_eq_true rfl) (Or.inl rfl) rfl rfl (by decide) (by decide) (fun y13 M14 e15 hI16 => ?_)
    refine V_pop dX4_readTown_102 rfl ?_
    refine V_goto (tgt := 112) dX4_readTown_103 (by decide) ?_
    refine V_iinc (k := 3) (v := x3 + 1) (lv' := [(3, .int (x3 + 1)), (4, .int s0), (0, .ref 3), (2, .ref 4)]) dX4_readTown_112 rfl rfl (by decide) rfl ?_
    refine V_goto (tgt := 26) dX4_readTown_115 (by decide) ?_
    refine V_sub [2, 3, 0] rfl ?_
    exact hk26 M14 (x3 + 1) hI16
def fX4_readTown_26 : Nat → vM → Int32 → Option (vR × vM)
  | 0, _, _ => none
  | n9 + 1, M, x3 => if 700 < x3 then rI (M.1 3 7) M else if (M.1 3 3) = 0 then rI (M.1 3 7) M else if (M.1 3 7) = 0 then bi (fX4_isWord M 0) fun y20 M21 => if y20 = 0 then bi (fX4_isWord M21 1) fun y25 M26 => if y25 = 0 then bi (fX4_isWord M26 2) fun y30 M31 => if y30 = 0 then fX4_readTown_87 (fX4_readTown_26 n9) M31 x3 ((-1)) else fX4_readTown_87 (fX4_readTown_26 n9) M31 x3 2 else fX4_readTown_87 (fX4_readTown_26 n9) M26 x3 1 else fX4_readTown_87 (fX4_readTown_26 n9) M21 x3 0 else rI (M.1 3 7) M
set_option maxRecDepth 20000 in
set_option maxHeartbeats 2000000 in
theorem vX4_readTown_26 {l : Launch} {D : va_G} {dA : Nat → ClassId} : ∀ (n9 : Nat) (M : vM) (x3 : Int32), v_WT M.2.2 → V l D dA sX4_readTown false 175 8 0 0 26 [(0, .ref 3), (2, .ref 4), (3, .int x3)] [] 175 M (fX4_readTown_26 n9 M x3) := by
  intro n9
  induction n9 with
  | zero => intros; exact V_none
  | succ n9 ih =>
    intro M x3 hI
    refine V_iload_n (k := 2) dX4_readTown_26 rfl rfl ?_
    refine V_sipush (v := 700) dX4_readTown_27 rfl ?_
    refine V_icmpgt (tgt := 118) dX4_readTown_30 (by decide) (fun h17 => ?_) (fun h17 => ?_)
    · refine V_aload_n (k := 0) dX4_readTown_118 rfl rfl ?_
      refine V_geti dX4_readTown_119 rfl (by decide) vf_X4_22 (by decide) ?_
      exact V_ret (fun _ => hI) (Or.inr (Or.inl ⟨rfl, _, rfl⟩)) dX4_readTown_122 (fun ty x h1 h2 => by cases h1; rfl) rfl
    · refine V_aload_n (k := 0) dX4_readTown_33 rfl rfl ?_
      refine V_geti dX4_readTown_34 rfl (by decide) vf_X4_31 (by decide) ?_
      refine V_ifeq (tgt := 118) dX4_readTown_37 (by decide) (fun h18 => ?_) (fun h18 => ?_)
      · refine V_aload_n (k := 0) dX4_readTown_118 rfl rfl ?_
        refine V_geti dX4_readTown_119 rfl (by decide) vf_X4_22 (by decide) ?_
        exact V_ret (fun _ => hI) (Or.inr (Or.inl ⟨rfl, _, rfl⟩)) dX4_readTown_122 (fun ty x h1 h2 => by cases h1; rfl) rfl
      · refine V_aload_n (k := 0) dX4_readTown_40 rfl rfl ?_
        refine V_geti dX4_readTown_41 rfl (by decide) vf_X4_22 (by decide) ?_
        refine V_ifne (tgt := 118) dX4_readTown_44 (by decide) (fun h19 => ?_) (fun h19 => ?_)
        · refine V_aload_n (k := 0) dX4_readTown_118 rfl rfl ?_
          refine V_geti dX4_readTown_119 rfl (by decide) vf_X4_22 (by decide) ?_
          exact V_ret (fun _ => hI) (Or.inr (Or.inl ⟨rfl, _, rfl⟩)) dX4_readTown_122 (fun ty x h1 h2 => by cases h1; rfl) rfl
        · refine V_aload_n (k := 0) dX4_readTown_47 rfl rfl ?_
          refine V_ldcS (sid := 0) (tx := "net") dX4_readTown_48 (by decide +kernel) ?_
          refine V_callVi (q := (RX4, TX4, 9)) (cls := 4) (st0 := []) (kc' := 0) (ks' := 0) dX4_readTown_50 lk_X4_36 rfl (by decide) rfl rfl rfl (cX4_isWord_ok M 0 (by decide) hI) rfl rfl (by decide) (by decide) (Nat.le_of_ble_eq_true rfl) (Or.inl rfl) rfl rfl (by decide) (by decide) (fun y20 M21 e22 hI23 => ?_)
          refine V_ifeq (tgt := 60) dX4_readTown_53 (by decide) (fun h24 => ?_) (fun h24 => ?_)
          · refine V_aload_n (k := 0) dX4_readTown_60 rfl rfl ?_
            refine V_ldcS (sid := 1) (tx := "set") dX4_readTown_61 (by decide +kernel) ?_
            refine V_callVi (q := (RX4, TX4, 9)) (cls := 4) (st0 := []) (kc' := 0) (ks' := 0) dX4_readTown_63 lk_X4_36 rfl (by decide) rfl rfl rfl (cX4_isWord_ok M21 1 (by decide) hI23) rfl rfl (by decide) (by decide) (Nat.le_of_ble_eq_true rfl) (Or.inl rfl) rfl rfl (by decide) (by decide) (fun y25 M26 e27 hI28 => ?_)
            refine V_ifeq (tgt := 73) dX4_readTown_66 (by decide) (fun h29 => ?_) (fun h29 => ?_)
            · refine V_aload_n (k := 0) dX4_readTown_73 rfl rfl ?_
              refine V_ldcS (sid := 2) (tx := "order") dX4_readTown_74 (by decide +kernel) ?_
              refine V_callVi (q := (RX4, TX4, 9)) (cls := 4) (st0 := []) (kc' := 0) (ks' := 0) dX4_readTown_76 lk_X4_36 rfl (by decide) rfl rfl rfl (cX4_isWord_ok M26 2 (by decide) hI28) rfl rfl (by decide) (by decide) (Nat.le_of_ble_eq_true rfl) (Or.inl rfl) rfl rfl (by decide) (by decide) (fun y30 M31 e32 hI33 => ?_)
              refine V_ifeq (tgt := 86) dX4_readTown_79 (by decide) (fun h34 => ?_) (fun h34 => ?_)
              · refine V_iconst (v := (-1)) dX4_readTown_86 rfl ?_
                refine V_sub [0, 1, 2] rfl ?_
                exact vX4_readTown_87 (ih) M31 x3 ((-1)) hI33
              · refine V_iconst (v := 2) dX4_readTown_82 rfl ?_
                refine V_goto (tgt := 87) dX4_readTown_83 (by decide) ?_
                refine V_sub [0, 1, 2] rfl ?_
                exact vX4_readTown_87 (ih) M31 x3 2 hI33
            · refine V_iconst (v := 1) dX4_readTown_69 rfl ?_
              refine V_goto (tgt := 87) dX4_readTown_70 (by decide) ?_
              refine V_sub [0, 1, 2] rfl ?_
              exact vX4_readTown_87 (ih) M26 x3 1 hI28
          · refine V_iconst (v := 0) dX4_readTown_56 rfl ?_
            refine V_goto (tgt := 87) dX4_readTown_57 (by decide) ?_
            refine V_sub [0, 1, 2] rfl ?_
            exact vX4_readTown_87 (ih) M21 x3 0 hI23
def fX4_readTown (M : vM) (x1 : Int32) : Option (vR × vM) := bv (fX4_advance (v_si (v_si (v_si (v_si M 3 1 x1) 3 2 0) 3 7 0) 3 8 0) ) fun M35 => fX4_readTown_26 FU M35 0
set_option maxRecDepth 20000 in
set_option maxHeartbeats 2000000 in
theorem cX4_readTown_ok {l : Launch} {D : va_G} {dA : Nat → ClassId} (M : vM) (x1 : Int32) (hI : v_WT M.2.2) : Ct l D dA sX4_readTown false 175 8 0 0 175 [.ref 3, .int x1, .ref 4] M (fX4_readTown M x1) := by
  refine Ct_of (lv := [(0, .ref 3), (1, .int x1), (2, .ref 4)]) (by decide +kernel) rfl (Nat.le_of_ble_eq_true rfl) rfl (fun h => by cases h) ?_
  refine V_aload_n (k := 0) dX4_readTown_0 rfl rfl ?_
  refine V_iload_n (k := 1) dX4_readTown_1 rfl rfl ?_
  refine V_puti dX4_readTown_2 rfl (by decide) vf_X4_15 (by decide) rfl rfl ?_
  refine V_aload_n (k := 0) dX4_readTown_5 rfl rfl ?_
  refine V_iconst (v := 0) dX4_readTown_6 rfl ?_
  refine V_puti dX4_readTown_7 rfl (by decide) vf_X4_19 (by decide) rfl rfl ?_
  refine V_aload_n (k := 0) dX4_readTown_10 rfl rfl ?_
  refine V_iconst (v := 0) dX4_readTown_11 rfl ?_
  refine V_puti dX4_readTown_12 rfl (by decide) vf_X4_22 (by decide) rfl rfl ?_
  refine V_aload_n (k := 0) dX4_readTown_15 rfl rfl ?_
  refine V_iconst (v := 0) dX4_readTown_16 rfl ?_
  refine V_puti dX4_readTown_17 rfl (by decide) vf_X4_25 (by decide) rfl rfl ?_
  refine V_aload_n (k := 0) dX4_readTown_20 rfl rfl ?_
  refine V_callVv (q := (RX4, TX4, 9)) (cls := 4) (st0 := []) (kc' := 0) (ks' := 0) dX4_readTown_21 lk_X4_28 rfl (by decide) rfl rfl rfl (cX4_advance_ok (v_si (v_si (v_si (v_si M 3 1 x1) 3 2 0) 3 7 0) 3 8 0)  hI) rfl rfl (by decide) (by decide) (Nat.le_of_ble_eq_true rfl) (Or.inl rfl) rfl rfl (by decide) (by decide) (fun  M35 e36 hI37 => ?_)
  refine V_iconst (v := 0) dX4_readTown_24 rfl ?_
  refine V_istore_n (lv' := [(3, .int 0), (0, .ref 3), (1, .int x1), (2, .ref 4)]) dX4_readTown_25 rfl (by decide) rfl ?_
  refine V_sub [1, 3, 0] rfl ?_
  exact vX4_readTown_26 FU M35 0 hI37
def fX10_town (M : vM) (x1 : Int32) : Option (vR × vM) := if x1 < 0 then rT 2 M else if x1 ≤ (M.1 1 1) then bi (fX4_readTown M x1) fun y6 M7 => if y6 = 0 then bv (fX10_settleTown (v_si (v_si M7 1 1 0) 0 13 ((-1))) ((v_si (v_si M7 1 1 0) 0 13 ((-1))).1 3 8)) fun M11 => rI 0 M11 else bv (fX1_refuse (v_si (v_si M7 1 1 0) 0 13 ((v_si M7 1 1 0).1 3 4)) 6 0) fun M14 => rI y6 M14 else rT 2 M
set_option maxRecDepth 20000 in
set_option maxHeartbeats 2000000 in
theorem cX10_town_ok {l : Launch} {D : va_G} {dA : Nat → ClassId} (hT : l.stackTraces = false) (M : vM) (x1 : Int32) (hI : v_WT M.2.2) : Ct l D dA sX10_town false 175 20 1 6 175 [.ref 0, .int x1] M (fX10_town M x1) := by
  refine Ct_of (lv := [(0, .ref 0), (1, .int x1)]) (by decide +kernel) rfl (Nat.le_of_ble_eq_true rfl) rfl (fun h => by cases h) ?_
  refine V_iload_n (k := 1) dX10_town_0 rfl rfl ?_
  refine V_iflt (tgt := 15) dX10_town_1 (by decide) (fun h4 => ?_) (fun h4 => ?_)
  · exact V_throw (k := 2) (sid := 21) (text := "the tape has not so many bytes") (fun _ => hI) hT (by decide +kernel) gw560 gw96 (by decide +kernel) (v_th th_iae) th_iaeg dX10_town_15 dX10_town_18 dX10_town_19 dX10_town_21 dX10_town_24 rfl (by decide) (by decide) (by decide) (Nat.le_of_ble_eq_true rfl)
  · refine V_iload_n (k := 1) dX10_town_4 rfl rfl ?_
    refine V_aload_n (k := 0) dX10_town_5 rfl rfl ?_
    refine V_getr (k := 1) dX10_town_6 rfl (by decide) vf_X10_12 (by decide) (v_fin hI 0 rfl) ?_
    refine V_geti dX10_town_9 rfl (by decide) vf_X10_94 (by decide) ?_
    refine V_icmple (tgt := 25) dX10_town_12 (by decide) (fun h5 => ?_) (fun h5 => ?_)
    · refine V_aload_n (k := 0) dX10_town_25 rfl rfl ?_
      refine V_getr (k := 3) dX10_town_26 rfl (by decide) vf_X10_21 (by decide) (v_fin hI 1 rfl) ?_
      refine V_iload_n (k := 1) dX10_town_29 rfl rfl ?_
      refine V_aload_n (k := 0) dX10_town_30 rfl rfl ?_
      refine V_getr (k := 4) dX10_town_31 rfl (by decide) vf_X10_27 (by decide) (v_fin hI 2 rfl) ?_
      refine V_callVi (q := (RX4, TX4, 9)) (cls := 4) (st0 := []) (kc' := 1) (ks' := 6) dX10_town_34 lk_X10_108 rfl (by decide) rfl rfl rfl (cX4_readTown_ok M x1 hI) rfl rfl (by decide) (by decide) (Nat.le_of_ble_eq_true rfl) (Or.inl rfl) rfl rfl (by decide) (by decide) (fun y6 M7 e8 hI9 => ?_)
      refine V_istore_n (lv' := [(2, .int y6), (0, .ref 0), (1, .int x1)]) dX10_town_37 rfl (by decide) rfl ?_
      refine V_aload_n (k := 1) dX10_town_38 rfl rfl ?_
      refine V_getr (k := 1) dX10_town_39 rfl (by decide) vf_X10_12 (by decide) (v_fin hI9 0 rfl) ?_
      refine V_iconst (v := 0) dX10_town_42 rfl ?_
      refine V_puti dX10_town_43 rfl (by decide) vf_X10_94 (by decide) rfl rfl ?_
      refine V_iload_n (k := 0) dX10_town_46 rfl rfl ?_
      refine V_ifeq (tgt := 71) dX10_town_47 (by decide) (fun h10 => ?_) (fun h10 => ?_)
      · refine V_aload_n (k := 1) dX10_town_71 rfl rfl ?_
        refine V_iconst (v := (-1)) dX10_town_72 rfl ?_
        refine V_puti dX10_town_73 rfl (by decide) vf_X10_90 (by decide) rfl rfl ?_
        refine V_aload_n (k := 1) dX10_town_76 rfl rfl ?_
        refine V_aload_n (k := 1) dX10_town_77 rfl rfl ?_
        refine V_getr (k := 3) dX10_town_78 rfl (by decide) vf_X10_21 (by decide) (v_fin hI9 1 rfl) ?_
        refine V_geti dX10_town_81 rfl (by decide) vf_X10_118 (by decide) ?_
        refine V_callVv (q := (RX10, TX10, 15)) (cls := 10) (st0 := []) (kc' := 1) (ks' := 6) dX10_town_84 lk_X10_120 rfl (by decide) rfl rfl rfl (cX10_settleTown_ok (v_si (v_si M7 1 1 0) 0 13 ((-1))) ((v_si (v_si M7 1 1 0) 0 13 ((-1))).1 3 8) hI9) rfl rfl (by decide) (by decide) (Nat.le_of_ble_eq_true rfl) (Or.inl rfl) rfl rfl (by decide) (by decide) (fun  M11 e12 hI13 => ?_)
        refine V_iconst (v := 0) dX10_town_87 rfl ?_
        exact V_ret (fun _ => hI13) (Or.inr (Or.inl ⟨rfl, _, rfl⟩)) dX10_town_88 (fun ty x h1 h2 => by cases h1; rfl) rfl
      · refine V_aload_n (k := 1) dX10_town_50 rfl rfl ?_
        refine V_aload_n (k := 1) dX10_town_51 rfl rfl ?_
        refine V_getr (k := 3) dX10_town_52 rfl (by decide) vf_X10_21 (by decide) (v_fin hI9 1 rfl) ?_
        refine V_geti dX10_town_55 rfl (by decide) vf_X10_112 (by decide) ?_
        refine V_puti dX10_town_58 rfl (by decide) vf_X10_90 (by decide) rfl rfl ?_
        refine V_aload_n (k := 1) dX10_town_61 rfl rfl ?_
        refine V_getr (k := 6) dX10_town_62 rfl (by decide) vf_X10_40 (by decide) (v_fin hI9 4 rfl) ?_
        refine V_iconst (v := 0) dX10_town_65 rfl ?_
        refine V_callVv (q := (RX1, TX1, 9)) (cls := 1) (st0 := []) (kc' := 1) (ks' := 6) dX10_town_66 lk_X10_115 rfl (by decide) rfl rfl rfl (cX1_refuse_ok (v_si (v_si M7 1 1 0) 0 13 ((v_si M7 1 1 0).1 3 4)) 6 0 (Or.inl rfl) hI9) rfl rfl (by decide) (by decide) (Nat.le_of_ble_eq_true rfl) (Or.inl rfl) rfl rfl (by decide) (by decide) (fun  M14 e15 hI16 => ?_)
        refine V_iload_n (k := 0) dX10_town_69 rfl rfl ?_
        exact V_ret (fun _ => hI16) (Or.inr (Or.inl ⟨rfl, _, rfl⟩)) dX10_town_70 (fun ty x h1 h2 => by cases h1; rfl) rfl
    · exact V_throw (k := 2) (sid := 21) (text := "the tape has not so many bytes") (fun _ => hI) hT (by decide +kernel) gw560 gw96 (by decide +kernel) (v_th th_iae) th_iaeg dX10_town_15 dX10_town_18 dX10_town_19 dX10_town_21 dX10_town_24 rfl (by decide) (by decide) (by decide) (Nat.le_of_ble_eq_true rfl)
def fX9_rankOf_14 : Nat → vM → Nat → Int32 → Int32 → Int32 → Option (vR × vM)
  | 0, _, _, _, _, _ => none
  | n9 + 1, M, x0, x1, x2, x3 => if x1 ≤ x3 then rI x2 M else bi (fX9_isSpent M x0 x3) fun y5 M6 => if y5 = 0 then fX9_rankOf_14 n9 M6 x0 x1 (x2 + 1) (x3 + 1) else fX9_rankOf_14 n9 M6 x0 x1 x2 (x3 + 1)
set_option maxRecDepth 20000 in
set_option maxHeartbeats 2000000 in
theorem vX9_rankOf_14 {l : Launch} {D : va_G} {dA : Nat → ClassId} : ∀ (n9 : Nat) (M : vM) (x0 : Nat) (x1 : Int32) (x2 : Int32) (x3 : Int32) (f0 : v_isW x0), v_WT M.2.2 → V l D dA sX9_rankOf false 175 3 0 0 14 [(0, .ref x0), (1, .int x1), (2, .int x2), (3, .int x3)] [] 175 M (fX9_rankOf_14 n9 M x0 x1 x2 x3) := by
  intro n9
  induction n9 with
  | zero => intros; exact V_none
  | succ n9 ih =>
    intro M x0 x1 x2 x3 f0 hI
    refine V_iload_n (k := 3) dX9_rankOf_14 rfl rfl ?_
    refine V_iload_n (k := 1) dX9_rankOf_15 rfl rfl ?_
    refine V_icmpge (tgt := 36) dX9_rankOf_16 (by decide) (fun h4 => ?_) (fun h4 => ?_)
    · refine V_iload_n (k := 2) dX9_rankOf_36 rfl rfl ?_
      exact V_ret (fun _ => hI) (Or.inr (Or.inl ⟨rfl, _, rfl⟩)) dX9_rankOf_37 (fun ty x h1 h2 => by cases h1; rfl) rfl
    · refine V_aload_n (k := 0) dX9_rankOf_19 rfl rfl ?_
      refine V_iload_n (k := 3) dX9_rankOf_20 rfl rfl ?_
      refine V_callVi (q := (RX9, TX9, 6)) (cls := 9) (st0 := []) (kc' := 0) (ks' := 0) dX9_rankOf_21 lk_X9_101 rfl (v_LW f0).1 (v_LW f0).2.1 rfl rfl (cX9_isSpent_ok M x0 x3 f0 hI) rfl rfl (by decide) (by decide) (Nat.le_of_ble_eq_true rfl) (Or.inl rfl) rfl rfl (by decide) (by decide) (fun y5 M6 e7 hI8 => ?_)
      refine V_ifne (tgt := 30) dX9_rankOf_24 (by decide) (fun h9 => ?_) (fun h9 => ?_)
      · refine V_iinc (k := 3) (v := x3 + 1) (lv' := [(3, .int (x3 + 1)), (0, .ref x0), (1, .int x1), (2, .int x2)]) dX9_rankOf_30 rfl rfl (by decide) rfl ?_
        refine V_goto (tgt := 14) dX9_rankOf_33 (by decide) ?_
        refine V_sub [1, 2, 3, 0] rfl ?_
        exact ih M6 x0 x1 x2 (x3 + 1) f0 hI8
      · refine V_iinc (k := 2) (v := x2 + 1) (lv' := [(2, .int (x2 + 1)), (0, .ref x0), (1, .int x1), (3, .int x3)]) dX9_rankOf_27 rfl rfl (by decide) rfl ?_
        refine V_iinc (k := 3) (v := x3 + 1) (lv' := [(3, .int (x3 + 1)), (2, .int (x2 + 1)), (0, .ref x0), (1, .int x1)]) dX9_rankOf_30 rfl rfl (by decide) rfl ?_
        refine V_goto (tgt := 14) dX9_rankOf_33 (by decide) ?_
        refine V_sub [2, 3, 1, 0] rfl ?_
        exact ih M6 x0 x1 (x2 + 1) (x3 + 1) f0 hI8
def fX9_rankOf (M : vM) (x0 : Nat) (x1 : Int32) : Option (vR × vM) := bi (fX9_isSpent M x0 x1) fun y10 M11 => if y10 = 0 then fX9_rankOf_14 FU M11 x0 x1 0 0 else rI ((-1)) M11
set_option maxRecDepth 20000 in
set_option maxHeartbeats 2000000 in
theorem cX9_rankOf_ok {l : Launch} {D : va_G} {dA : Nat → ClassId} (M : vM) (x0 : Nat) (x1 : Int32) (f0 : v_isW x0) (hI : v_WT M.2.2) : Ct l D dA sX9_rankOf false 175 3 0 0 175 [.ref x0, .int x1] M (fX9_rankOf M x0 x1) := by
  refine Ct_of (lv := [(0, .ref x0), (1, .int x1)]) (by decide +kernel) rfl (Nat.le_of_ble_eq_true rfl) rfl (fun h => by cases h) ?_
  refine V_aload_n (k := 0) dX9_rankOf_0 rfl rfl ?_
  refine V_iload_n (k := 1) dX9_rankOf_1 rfl rfl ?_
  refine V_callVi (q := (RX9, TX9, 6)) (cls := 9) (st0 := []) (kc' := 0) (ks' := 0) dX9_rankOf_2 lk_X9_101 rfl (v_LW f0).1 (v_LW f0).2.1 rfl rfl (cX9_isSpent_ok M x0 x1 f0 hI) rfl rfl (by decide) (by decide) (Nat.le_of_ble_eq_true rfl) (Or.inl rfl) rfl rfl (by decide) (by decide) (fun y10 M11 e12 hI13 => ?_)
  refine V_ifeq (tgt := 10) dX9_rankOf_5 (by decide) (fun h14 => ?_) (fun h14 => ?_)
  · refine V_iconst (v := 0) dX9_rankOf_10 rfl ?_
    refine V_istore_n (lv' := [(2, .int 0), (0, .ref x0), (1, .int x1)]) dX9_rankOf_11 rfl (by decide) rfl ?_
    refine V_iconst (v := 0) dX9_rankOf_12 rfl ?_
    refine V_istore_n (lv' := [(3, .int 0), (2, .int 0), (0, .ref x0), (1, .int x1)]) dX9_rankOf_13 rfl (by decide) rfl ?_
    refine V_sub [2, 3, 1, 0] rfl ?_
    exact vX9_rankOf_14 FU M11 x0 x1 0 0 f0 hI13
  · refine V_iconst (v := (-1)) dX9_rankOf_8 rfl ?_
    exact V_ret (fun _ => hI13) (Or.inr (Or.inl ⟨rfl, _, rfl⟩)) dX9_rankOf_9 (fun ty x h1 h2 => by cases h1; rfl) rfl
def fX10_way (M : vM) (x1 : Int32) (x2 : Int32) (x3 : Int32) : Option (vR × vM) := br (fX10_workOf M x1) fun y6 M7 => bv (fX10_refuseUnlessWay M7 y6 x2) fun M10 => if x3 = 0 then bi (fX9_costOf M10 y6 x2) fun y14 M15 => rI y14 M15 else if x3 = 1 then bi (fX9_markOf M10 y6 x2) fun y19 M20 => rI y19 M20 else if x3 = 2 then bi (fX9_isSpent M10 y6 x2) fun y24 M25 => if y24 = 0 then rI 0 M25 else rI 1 M25 else if x3 = 3 then bi (fX9_rankOf M10 y6 x2) fun y30 M31 => rI y30 M31 else rT 1 M10
set_option maxRecDepth 20000 in
set_option maxHeartbeats 2000000 in
theorem cX10_way_ok {l : Launch} {D : va_G} {dA : Nat → ClassId} (hT : l.stackTraces = false) (M : vM) (x1 : Int32) (x2 : Int32) (x3 : Int32) (hI : v_WT M.2.2) : Ct l D dA sX10_way false 175 7 3 18 175 [.ref 0, .int x1, .int x2, .int x3] M (fX10_way M x1 x2 x3) := by
  refine Ct_of (lv := [(0, .ref 0), (1, .int x1), (2, .int x2), (3, .int x3)]) (by decide +kernel) rfl (Nat.le_of_ble_eq_true rfl) rfl (fun h => by cases h) ?_
  refine V_aload_n (k := 0) dX10_way_0 rfl rfl ?_
  refine V_iload_n (k := 1) dX10_way_1 rfl rfl ?_
  refine V_callVr (q := (RX10, TX10, 15)) (cls := 10) (st0 := []) (kc' := 2) (ks' := 12) dX10_way_2 lk_X10_158 rfl (by decide) rfl rfl rfl (cX10_workOf_ok hT M x1 hI) rfl rfl (by decide) (by decide) (Nat.le_of_ble_eq_true rfl) (Or.inl rfl) rfl rfl (by decide) (by decide) (fun y6 M7 e8 hI9 => ?_)
  have wy6 := wX10_workOf_ret e8
  refine V_astore (lv' := [(4, .ref y6), (0, .ref 0), (1, .int x1), (2, .int x2), (3, .int x3)]) dX10_way_5 (by decide) rfl ?_
  refine V_aload (k := 0) dX10_way_7 rfl ?_
  refine V_iload_n (k := 3) dX10_way_9 rfl rfl ?_
  refine V_callSv (st0 := []) (kc' := 1) (ks' := 6) dX10_way_10 lk_X10_192 rfl (cX10_refuseUnlessWay_ok hT M7 y6 x2 wy6 hI9) rfl rfl (by decide) (by decide) (Nat.le_of_ble_eq_true rfl) (Or.inl rfl) rfl rfl (by decide) (by decide) (fun  M10 e11 hI12 => ?_)
  refine V_iload_n (k := 4) dX10_way_13 rfl rfl ?_
  refine V_tcase (k := 0) (tgt := 44) dX10_way_14 (by decide) (by decide) rfl (by decide) (fun h13 => ?_) (fun h13 => ?_)
  · refine V_aload (k := 0) dX10_way_44 rfl ?_
    refine V_iload_n (k := 3) dX10_way_46 rfl rfl ?_
    refine V_callVi (q := (RX9, TX9, 6)) (cls := 9) (st0 := []) (kc' := 1) (ks' := 6) dX10_way_47 lk_X10_196 rfl (v_LW wy6).1 (v_LW wy6).2.1 rfl rfl (cX9_costOf_ok M10 y6 x2 wy6 hI12) rfl rfl (by decide) (by decide) (Nat.le_of_ble_eq_true rfl) (Or.inl rfl) rfl rfl (by decide) (by decide) (fun y14 M15 e16 hI17 => ?_)
    exact V_ret (fun _ => hI17) (Or.inr (Or.inl ⟨rfl, _, rfl⟩)) dX10_way_50 (fun ty x h1 h2 => by cases h1; rfl) rfl
  refine V_tcase (k := 1) (tgt := 51) dX10_way_14 (by decide) (by decide) rfl (by decide) (fun h18 => ?_) (fun h18 => ?_)
  · refine V_aload (k := 0) dX10_way_51 rfl ?_
    refine V_iload_n (k := 3) dX10_way_53 rfl rfl ?_
    refine V_callVi (q := (RX9, TX9, 6)) (cls := 9) (st0 := []) (kc' := 1) (ks' := 6) dX10_way_54 lk_X10_199 rfl (v_LW wy6).1 (v_LW wy6).2.1 rfl rfl (cX9_markOf_ok M10 y6 x2 wy6 hI12) rfl rfl (by decide) (by decide) (Nat.le_of_ble_eq_true rfl) (Or.inl rfl) rfl rfl (by decide) (by decide) (fun y19 M20 e21 hI22 => ?_)
    exact V_ret (fun _ => hI22) (Or.inr (Or.inl ⟨rfl, _, rfl⟩)) dX10_way_57 (fun ty x h1 h2 => by cases h1; rfl) rfl
  refine V_tcase (k := 2) (tgt := 58) dX10_way_14 (by decide) (by decide) rfl (by decide) (fun h23 => ?_) (fun h23 => ?_)
  · refine V_aload (k := 0) dX10_way_58 rfl ?_
    refine V_iload_n (k := 3) dX10_way_60 rfl rfl ?_
    refine V_callVi (q := (RX9, TX9, 6)) (cls := 9) (st0 := []) (kc' := 1) (ks' := 6) dX10_way_61 lk_X10_202 rfl (v_LW wy6).1 (v_LW wy6).2.1 rfl rfl (cX9_isSpent_ok M10 y6 x2 wy6 hI12) rfl rfl (by decide) (by decide) (Nat.le_of_ble_eq_true rfl) (Or.inl rfl) rfl rfl (by decide) (by decide) (fun y24 M25 e26 hI27 => ?_)
    refine V_ifeq (tgt := 71) dX10_way_64 (by decide) (fun h28 => ?_) (fun h28 => ?_)
    · refine V_iconst (v := 0) dX10_way_71 rfl ?_
      exact V_ret (fun _ => hI27) (Or.inr (Or.inl ⟨rfl, _, rfl⟩)) dX10_way_72 (fun ty x h1 h2 => by cases h1; rfl) rfl
    · refine V_iconst (v := 1) dX10_way_67 rfl ?_
      refine V_goto (tgt := 72) dX10_way_68 (by decide) ?_
      exact V_ret (fun _ => hI27) (Or.inr (Or.inl ⟨rfl, _, rfl⟩)) dX10_way_72 (fun ty x h1 h2 => by cases h1; rfl) rfl
  refine V_tcase (k := 3) (tgt := 73) dX10_way_14 (by decide) (by decide) rfl (by decide) (fun h29 => ?_) (fun h29 => ?_)
  · refine V_aload (k := 0) dX10_way_73 rfl ?_
    refine V_iload_n (k := 3) dX10_way_75 rfl rfl ?_
    refine V_callVi (q := (RX9, TX9, 6)) (cls := 9) (st0 := []) (kc' := 1) (ks' := 6) dX10_way_76 lk_X10_206 rfl (v_LW wy6).1 (v_LW wy6).2.1 rfl rfl (cX9_rankOf_ok M10 y6 x2 wy6 hI12) rfl rfl (by decide) (by decide) (Nat.le_of_ble_eq_true rfl) (Or.inl rfl) rfl rfl (by decide) (by decide) (fun y30 M31 e32 hI33 => ?_)
    exact V_ret (fun _ => hI33) (Or.inr (Or.inl ⟨rfl, _, rfl⟩)) dX10_way_79 (fun ty x h1 h2 => by cases h1; rfl) rfl
  refine V_tdef (tgt := 80) dX10_way_14 (v_tout (m := 3) (by decide) (lt_s (lt_s (lt_s (lt_s lt_0 h13) h18) h23) h29)) (by decide) ?_
  exact V_throwN (sid := 18) (text := "no such what") (fun _ => hI12) hT rfl (by decide +kernel) dX10_way_80 dX10_way_83 dX10_way_84 dX10_way_86 dX10_way_89 rfl (by decide) (by decide) (by decide) (Nat.le_of_ble_eq_true rfl)
