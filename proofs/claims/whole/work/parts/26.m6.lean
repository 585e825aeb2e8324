def fX11_left_26 (M : vM) : Option (vR × vM) := bi (fX11_fail M 1) fun y3 M4 => rI y3 M4
set_option maxRecDepth 20000 in
set_option maxHeartbeats 2000000 in
theorem vX11_left_26 {l : Launch} {D : va_G} {dA : Nat → ClassId} : ∀ (M : vM), v_WT M.2.2 → V l D dA sX11_left false 175 3 0 0 26 [(0, .ref 130)] [] 175 M (fX11_left_26 M) := by
  intro M hI
  refine V_aload_n (k := 0) dX11_left_26 rfl rfl ?_
  refine V_iconst (v := 1) dX11_left_27 rfl ?_
  refine V_callVi (q := (RX11, TX11, 61)) (cls := 11) (st0 := []) (kc' := 0) (ks' := 0) dX11_left_28 lk_X11_287 rfl (by decide) rfl rfl rfl (cX11_fail_ok M 1 hI) rfl rfl (by decide) (by decide) (Nat.le_of_ble_eq_true rfl) (Or.inl rfl) rfl rfl (by decide) (by decide) (fun y3 M4 e5 hI6 => ?_)
  exact V_ret (fun _ => hI6) (Or.inr (Or.inl ⟨rfl, _, rfl⟩)) dX11_left_31 (fun ty x h1 h2 => by cases h1; rfl) rfl
def fX11_left (M : vM) (x1 : Int32) (x2 : Int32) : Option (vR × vM) := bi (fX11_isWork (v_si M 130 1 0) x1) fun y7 M8 => if y7 = 0 then fX11_left_26 M8 else if x2 < 0 then fX11_left_26 M8 else bi (fX11_leftAt M8 x1 x2) fun y13 M14 => rI y13 M14
set_option maxRecDepth 20000 in
set_option maxHeartbeats 2000000 in
theorem cX11_left_ok {l : Launch} {D : va_G} {dA : Nat → ClassId} (M : vM) (x1 : Int32) (x2 : Int32) (hI : v_WT M.2.2) : Ct l D dA sX11_left false 175 3 0 0 175 [.ref 130, .int x1, .int x2] M (fX11_left M x1 x2) := by
  refine Ct_of (lv := [(0, .ref 130), (1, .int x1), (2, .int x2)]) (by decide +kernel) rfl (Nat.le_of_ble_eq_true rfl) rfl (fun h => by cases h) ?_
  refine V_aload_n (k := 0) dX11_left_0 rfl rfl ?_
  refine V_iconst (v := 0) dX11_left_1 rfl ?_
  refine V_puti dX11_left_2 rfl (by decide) vf_X11_154 (by decide) rfl rfl ?_
  refine V_aload_n (k := 0) dX11_left_5 rfl rfl ?_
  refine V_iload_n (k := 1) dX11_left_6 rfl rfl ?_
  refine V_callVi (q := (RX11, TX11, 61)) (cls := 11) (st0 := []) (kc' := 0) (ks' := 0) dX11_left_7 lk_X11_164 rfl (by decide) rfl rfl rfl (cX11_isWork_ok (v_si M 130 1 0) x1 hI) rfl rfl (by decide) (by decide) (Nat.le_of_ble_eq_true rfl) (Or.inl rfl) rfl rfl (by decide) (by decide) (fun y7 M8 e9 hI10 => ?_)
  refine V_ifeq (tgt := 26) dX11_left_10 (by decide) (fun h11 => ?_) (fun h11 => ?_)
  · refine V_sub [0] rfl ?_
    exact vX11_left_26 M8 hI10
  · refine V_iload_n (k := 2) dX11_left_13 rfl rfl ?_
    refine V_iflt (tgt := 26) dX11_left_14 (by decide) (fun h12 => ?_) (fun h12 => ?_)
    · refine V_sub [0] rfl ?_
      exact vX11_left_26 M8 hI10
    · refine V_aload_n (k := 0) dX11_left_17 rfl rfl ?_
      refine V_iload_n (k := 1) dX11_left_18 rfl rfl ?_
      refine V_iload_n (k := 2) dX11_left_19 rfl rfl ?_
      refine V_callVi (q := (RX11, TX11, 61)) (cls := 11) (st0 := []) (kc' := 0) (ks' := 0) dX11_left_20 lk_X11_378 rfl (by decide) rfl rfl rfl (cX11_leftAt_ok M8 x1 x2 hI10) rfl rfl (by decide) (by decide) (Nat.le_of_ble_eq_true rfl) (Or.inl rfl) rfl rfl (by decide) (by decide) (fun y13 M14 e15 hI16 => ?_)
      refine V_goto (tgt := 31) dX11_left_23 (by decide) ?_
      exact V_ret (fun _ => hI16) (Or.inr (Or.inl ⟨rfl, _, rfl⟩)) dX11_left_31 (fun ty x h1 h2 => by cases h1; rfl) rfl
def fX11_more_31 (M : vM) : Option (vR × vM) := bi (fX11_fail M 1) fun y46 M47 => rI y46 M47
set_option maxRecDepth 20000 in
set_option maxHeartbeats 2000000 in
theorem vX11_more_31 {l : Launch} {D : va_G} {dA : Nat → ClassId} : ∀ (M : vM), v_WT M.2.2 → V l D dA sX11_more false 175 3 0 0 31 [(0, .ref 130)] [] 175 M (fX11_more_31 M) := by
  intro M hI
  refine V_aload_n (k := 0) dX11_more_31 rfl rfl ?_
  refine V_iconst (v := 1) dX11_more_32 rfl ?_
  refine V_callVi (q := (RX11, TX11, 61)) (cls := 11) (st0 := []) (kc' := 0) (ks' := 0) dX11_more_33 lk_X11_287 rfl (by decide) rfl rfl rfl (cX11_fail_ok M 1 hI) rfl rfl (by decide) (by decide) (Nat.le_of_ble_eq_true rfl) (Or.inl rfl) rfl rfl (by decide) (by decide) (fun y46 M47 e48 hI49 => ?_)
  exact V_ret (fun _ => hI49) (Or.inr (Or.inl ⟨rfl, _, rfl⟩)) dX11_more_36 (fun ty x h1 h2 => by cases h1; rfl) rfl
def fX11_more_59 (k39 : vM → Int32 → Int32 → Int32 → Option (vR × vM)) (M : vM) (x1 : Int32) (x2 : Int32) (x3 : Int32) (s1 : Int32) (s2 : Int32) : Option (vR × vM) := if v_in s1 12 = true then if v_in x1 12 = true then if x3 = (((v_si M 164 (Int32.toNatClampNeg s1) s2).1 133 (Int32.toNatClampNeg x1)) - 1) then if v_in x3 12 = true then k39 (v_si (v_si M 164 (Int32.toNatClampNeg s1) s2) 165 (Int32.toNatClampNeg x3) 1) x1 x2 (x3 + 1) else none else if v_in x3 12 = true then k39 (v_si (v_si M 164 (Int32.toNatClampNeg s1) s2) 165 (Int32.toNatClampNeg x3) 0) x1 x2 (x3 + 1) else none else none else none
set_option maxRecDepth 20000 in
set_option maxHeartbeats 2000000 in
theorem vX11_more_59 {l : Launch} {D : va_G} {dA : Nat → ClassId} {k39 : vM → Int32 → Int32 → Int32 → Option (vR × vM)} (hk39 : ∀ (M : vM) (x1 : Int32) (x2 : Int32) (x3 : Int32), v_WT M.2.2 → V l D dA sX11_more false 175 3 0 0 39 [(0, .ref 130), (1, .int x1), (2, .int x2), (3, .int x3)] [] 175 M (k39 M x1 x2 x3)) : ∀ (M : vM) (x1 : Int32) (x2 : Int32) (x3 : Int32) (s1 : Int32) (s2 : Int32), v_WT M.2.2 → V l D dA sX11_more false 175 3 0 0 59 [(0, .ref 130), (1, .int x1), (2, .int x2), (3, .int x3)] [.int s2, .int s1, .ref 164] 175 M (fX11_more_59 k39 M x1 x2 x3 s1 s2) := by
  intro M x1 x2 x3 s1 s2 hI
  refine V_iast dX11_more_59 rfl (by decide) (fun h50 => ?_)
  refine V_aload_n (k := 0) dX11_more_60 rfl rfl ?_
  refine V_getr (k := 165) dX11_more_61 rfl (by decide) vf_X11_127 (by decide) (v_fin hI 152 rfl) ?_
  refine V_iload_n (k := 3) dX11_more_64 rfl rfl ?_
  refine V_iload_n (k := 3) dX11_more_65 rfl rfl ?_
  refine V_aload_n (k := 0) dX11_more_66 rfl rfl ?_
  refine V_getr (k := 133) dX11_more_67 rfl (by decide) vf_X11_25 (by decide) (v_fin hI 120 rfl) ?_
  refine V_iload_n (k := 1) dX11_more_70 rfl rfl ?_
  refine V_iald dX11_more_71 rfl (by decide) (fun h51 => ?_)
  refine V_iconst (v := 1) dX11_more_72 rfl ?_
  refine V_isub dX11_more_73 ?_
  refine V_icmpne (tgt := 81) dX11_more_74 (by decide) (fun h52 => ?_) (fun h52 => ?_)
  · refine V_iconst (v := 0) dX11_more_81 rfl ?_
    refine V_iast dX11_more_82 rfl (by decide) (fun h53 => ?_)
    refine V_iinc (k := 3) (v := x3 + 1) (lv' := [(3, .int (x3 + 1)), (0, .ref 130), (1, .int x1), (2, .int x2)]) dX11_more_83 rfl rfl (by decide) rfl ?_
    refine V_goto (tgt := 39) dX11_more_86 (by decide) ?_
    refine V_sub [1, 2, 3, 0] rfl ?_
    exact hk39 (v_si (v_si M 164 (Int32.toNatClampNeg s1) s2) 165 (Int32.toNatClampNeg x3) 0) x1 x2 (x3 + 1) hI
  · refine V_iconst (v := 1) dX11_more_77 rfl ?_
    refine V_goto (tgt := 82) dX11_more_78 (by decide) ?_
    refine V_iast dX11_more_82 rfl (by decide) (fun h54 => ?_)
    refine V_iinc (k := 3) (v := x3 + 1) (lv' := [(3, .int (x3 + 1)), (0, .ref 130), (1, .int x1), (2, .int x2)]) dX11_more_83 rfl rfl (by decide) rfl ?_
    refine V_goto (tgt := 39) dX11_more_86 (by decide) ?_
    refine V_sub [1, 2, 3, 0] rfl ?_
    exact hk39 (v_si (v_si M 164 (Int32.toNatClampNeg s1) s2) 165 (Int32.toNatClampNeg x3) 1) x1 x2 (x3 + 1) hI
def fX11_more_104 (k91 : vM → Int32 → Int32 → Int32 → Option (vR × vM)) : Nat → vM → Int32 → Int32 → Int32 → Int32 → Option (vR × vM)
  | 0, _, _, _, _, _ => none
  | n9 + 1, M, x1, x2, x3, x4 => if v_in x1 12 = true then if (M.1 136 (Int32.toNatClampNeg x1)) ≤ x4 then k91 M x1 x2 (x3 + 1) else if v_in ((20 * x1) + x4) 240 = true then if (M.1 140 (Int32.toNatClampNeg ((20 * x1) + x4))) = x3 then if v_in x3 12 = true then if v_in ((20 * x1) + x4) 240 = true then if v_in (M.1 139 (Int32.toNatClampNeg ((20 * x1) + x4))) 12 = true then if v_in x3 12 = true then fX11_more_104 k91 n9 (v_si M 164 (Int32.toNatClampNeg x3) ((M.1 164 (Int32.toNatClampNeg x3)) + (M.1 164 (Int32.toNatClampNeg (M.1 139 (Int32.toNatClampNeg ((20 * x1) + x4))))))) x1 x2 x3 (x4 + 1) else none else none else none else none else fX11_more_104 k91 n9 M x1 x2 x3 (x4 + 1) else none else none
set_option maxRecDepth 20000 in
set_option maxHeartbeats 2000000 in
theorem vX11_more_104 {l : Launch} {D : va_G} {dA : Nat → ClassId} {k91 : vM → Int32 → Int32 → Int32 → Option (vR × vM)} (hk91 : ∀ (M : vM) (x1 : Int32) (x2 : Int32) (x3 : Int32), v_WT M.2.2 → V l D dA sX11_more false 175 3 0 0 91 [(0, .ref 130), (1, .int x1), (2, .int x2), (3, .int x3)] [] 175 M (k91 M x1 x2 x3)) : ∀ (n9 : Nat) (M : vM) (x1 : Int32) (x2 : Int32) (x3 : Int32) (x4 : Int32), v_WT M.2.2 → V l D dA sX11_more false 175 3 0 0 104 [(0, .ref 130), (1, .int x1), (2, .int x2), (3, .int x3), (4, .int x4)] [] 175 M (fX11_more_104 k91 n9 M x1 x2 x3 x4) := by
  intro n9
  induction n9 with
  | zero => intros; exact V_none
  | succ n9 ih =>
    intro M x1 x2 x3 x4 hI
    refine V_iload (k := 4) dX11_more_104 rfl ?_
    refine V_aload_n (k := 0) dX11_more_106 rfl rfl ?_
    refine V_getr (k := 136) dX11_more_107 rfl (by decide) vf_X11_34 (by decide) (v_fin hI 123 rfl) ?_
    refine V_iload_n (k := 1) dX11_more_110 rfl rfl ?_
    refine V_iald dX11_more_111 rfl (by decide) (fun h55 => ?_)
    refine V_icmpge (tgt := 163) dX11_more_112 (by decide) (fun h56 => ?_) (fun h56 => ?_)
    · refine V_iinc (k := 3) (v := x3 + 1) (lv' := [(3, .int (x3 + 1)), (0, .ref 130), (1, .int x1), (2, .int x2), (4, .int x4)]) dX11_more_163 rfl rfl (by decide) rfl ?_
      refine V_goto (tgt := 91) dX11_more_166 (by decide) ?_
      refine V_sub [1, 2, 3, 0] rfl ?_
      exact hk91 M x1 x2 (x3 + 1) hI
    · refine V_aload_n (k := 0) dX11_more_115 rfl rfl ?_
      refine V_getr (k := 140) dX11_more_116 rfl (by decide) vf_X11_46 (by decide) (v_fin hI 127 rfl) ?_
      refine V_bipush (v := 20) dX11_more_119 rfl ?_
      refine V_iload_n (k := 1) dX11_more_121 rfl rfl ?_
      refine V_imul dX11_more_122 ?_
      refine V_iload (k := 4) dX11_more_123 rfl ?_
      refine V_iadd dX11_more_125 ?_
      refine V_iald dX11_more_126 rfl (by decide) (fun h57 => ?_)
      refine V_iload_n (k := 3) dX11_more_127 rfl rfl ?_
      refine V_icmpne (tgt := 157) dX11_more_128 (by decide) (fun h58 => ?_) (fun h58 => ?_)
      · refine V_iinc (k := 4) (v := x4 + 1) (lv' := [(4, .int (x4 + 1)), (0, .ref 130), (1, .int x1), (2, .int x2), (3, .int x3)]) dX11_more_157 rfl rfl (by decide) rfl ?_
        refine V_goto (tgt := 104) dX11_more_160 (by decide) ?_
        refine V_sub [1, 2, 3, 4, 0] rfl ?_
        exact ih M x1 x2 x3 (x4 + 1) hI
      · refine V_aload_n (k := 0) dX11_more_131 rfl rfl ?_
        refine V_getr (k := 164) dX11_more_132 rfl (by decide) vf_X11_124 (by decide) (v_fin hI 151 rfl) ?_
        refine V_iload_n (k := 3) dX11_more_135 rfl rfl ?_
        refine V_dup2 dX11_more_136 rfl rfl ?_
        refine V_iald dX11_more_137 rfl (by decide) (fun h59 => ?_)
        refine V_aload_n (k := 0) dX11_more_138 rfl rfl ?_
        refine V_getr (k := 164) dX11_more_139 rfl (by decide) vf_X11_124 (by decide) (v_fin hI 151 rfl) ?_
        refine V_aload_n (k := 0) dX11_more_142 rfl rfl ?_
        refine V_getr (k := 139) dX11_more_143 rfl (by decide) vf_X11_43 (by decide) (v_fin hI 126 rfl) ?_
        refine V_bipush (v := 20) dX11_more_146 rfl ?_
        refine V_iload_n (k := 1) dX11_more_148 rfl rfl ?_
        refine V_imul dX11_more_149 ?_
        refine V_iload (k := 4) dX11_more_150 rfl ?_
        refine V_iadd dX11_more_152 ?_
        refine V_iald dX11_more_153 rfl (by decide) (fun h60 => ?_)
        refine V_iald dX11_more_154 rfl (by decide) (fun h61 => ?_)
        refine V_iadd dX11_more_155 ?_
        refine V_iast dX11_more_156 rfl (by decide) (fun h62 => ?_)
        refine V_iinc (k := 4) (v := x4 + 1) (lv' := [(4, .int (x4 + 1)), (0, .ref 130), (1, .int x1), (2, .int x2), (3, .int x3)]) dX11_more_157 rfl rfl (by decide) rfl ?_
        refine V_goto (tgt := 104) dX11_more_160 (by decide) ?_
        refine V_sub [1, 2, 3, 4, 0] rfl ?_
        exact ih (v_si M 164 (Int32.toNatClampNeg x3) ((M.1 164 (Int32.toNatClampNeg x3)) + (M.1 164 (Int32.toNatClampNeg (M.1 139 (Int32.toNatClampNeg ((20 * x1) + x4))))))) x1 x2 x3 (x4 + 1) hI
def fX11_more_185 (k178 : vM → Int32 → Int32 → Int32 → Option (vR × vM)) : Nat → vM → Int32 → Int32 → Int32 → Int32 → Option (vR × vM)
  | 0, _, _, _, _, _ => none
  | n9 + 1, M, x1, x2, x3, x4 => if v_in x1 12 = true then if (M.1 136 (Int32.toNatClampNeg x1)) ≤ x4 then k178 M x1 x2 (x3 + (-1)) else if v_in ((20 * x1) + x4) 240 = true then if (M.1 139 (Int32.toNatClampNeg ((20 * x1) + x4))) = x3 then if v_in x3 12 = true then if v_in ((20 * x1) + x4) 240 = true then if v_in (M.1 140 (Int32.toNatClampNeg ((20 * x1) + x4))) 12 = true then if v_in x3 12 = true then fX11_more_185 k178 n9 (v_si M 165 (Int32.toNatClampNeg x3) ((M.1 165 (Int32.toNatClampNeg x3)) + (M.1 165 (Int32.toNatClampNeg (M.1 140 (Int32.toNatClampNeg ((20 * x1) + x4))))))) x1 x2 x3 (x4 + 1) else none else none else none else none else fX11_more_185 k178 n9 M x1 x2 x3 (x4 + 1) else none else none
set_option maxRecDepth 20000 in
set_option maxHeartbeats 2000000 in
theorem vX11_more_185 {l : Launch} {D : va_G} {dA : Nat → ClassId} {k178 : vM → Int32 → Int32 → Int32 → Option (vR × vM)} (hk178 : ∀ (M : vM) (x1 : Int32) (x2 : Int32) (x3 : Int32), v_WT M.2.2 → V l D dA sX11_more false 175 3 0 0 178 [(0, .ref 130), (1, .int x1), (2, .int x2), (3, .int x3)] [] 175 M (k178 M x1 x2 x3)) : ∀ (n9 : Nat) (M : vM) (x1 : Int32) (x2 : Int32) (x3 : Int32) (x4 : Int32), v_WT M.2.2 → V l D dA sX11_more false 175 3 0 0 185 [(0, .ref 130), (1, .int x1), (2, .int x2), (3, .int x3), (4, .int x4)] [] 175 M (fX11_more_185 k178 n9 M x1 x2 x3 x4) := by
  intro n9
  induction n9 with
  | zero => intros; exact V_none
  | succ n9 ih =>
    intro M x1 x2 x3 x4 hI
    refine V_iload (k := 4) dX11_more_185 rfl ?_
    refine V_aload_n (k := 0) dX11_more_187 rfl rfl ?_
    refine V_getr (k := 136) dX11_more_188 rfl (by decide) vf_X11_34 (by decide) (v_fin hI 123 rfl) ?_
    refine V_iload_n (k := 1) dX11_more_191 rfl rfl ?_
    refine V_iald dX11_more_192 rfl (by decide) (fun h63 => ?_)
    refine V_icmpge (tgt := 244) dX11_more_193 (by decide) (fun h64 => ?_) (fun h64 => ?_)
    · refine V_iinc (k := 3) (v := x3 + (-1)) (lv' := [(3, .int (x3 + (-1))), (0, .ref 130), (1, .int x1), (2, .int x2), (4, .int x4)]) dX11_more_244 rfl rfl (by decide) rfl ?_
      refine V_goto (tgt := 178) dX11_more_247 (by decide) ?_
      refine V_sub [1, 2, 3, 0] rfl ?_
      exact hk178 M x1 x2 (x3 + (-1)) hI
    · refine V_aload_n (k := 0) dX11_more_196 rfl rfl ?_
      refine V_getr (k := 139) dX11_more_197 rfl (by decide) vf_X11_43 (by decide) (v_fin hI 126 rfl) ?_
      refine V_bipush (v := 20) dX11_more_200 rfl ?_
      refine V_iload_n (k := 1) dX11_more_202 rfl rfl ?_
      refine V_imul dX11_more_203 ?_
      refine V_iload (k := 4) dX11_more_204 rfl ?_
      refine V_iadd dX11_more_206 ?_
      refine V_iald dX11_more_207 rfl (by decide) (fun h65 => ?_)
      refine V_iload_n (k := 3) dX11_more_208 rfl rfl ?_
      refine V_icmpne (tgt := 238) dX11_more_209 (by decide) (fun h66 => ?_) (fun h66 => ?_)
      · refine V_iinc (k := 4) (v := x4 + 1) (lv' := [(4, .int (x4 + 1)), (0, .ref 130), (1, .int x1), (2, .int x2), (3, .int x3)]) dX11_more_238 rfl rfl (by decide) rfl ?_
        refine V_goto (tgt := 185) dX11_more_241 (by decide) ?_
        refine V_sub [1, 2, 3, 4, 0] rfl ?_
        exact ih M x1 x2 x3 (x4 + 1) hI
      · refine V_aload_n (k := 0) dX11_more_212 rfl rfl ?_
        refine V_getr (k := 165) dX11_more_213 rfl (by decide) vf_X11_127 (by decide) (v_fin hI 152 rfl) ?_
        refine V_iload_n (k := 3) dX11_more_216 rfl rfl ?_
        refine V_dup2 dX11_more_217 rfl rfl ?_
        refine V_iald dX11_more_218 rfl (by decide) (fun h67 => ?_)
        refine V_aload_n (k := 0) dX11_more_219 rfl rfl ?_
        refine V_getr (k := 165) dX11_more_220 rfl (by decide) vf_X11_127 (by decide) (v_fin hI 152 rfl) ?_
        refine V_aload_n (k := 0) dX11_more_223 rfl rfl ?_
        refine V_getr (k := 140) dX11_more_224 rfl (by decide) vf_X11_46 (by decide) (v_fin hI 127 rfl) ?_
        refine V_bipush (v := 20) dX11_more_227 rfl ?_
        refine V_iload_n (k := 1) dX11_more_229 rfl rfl ?_
        refine V_imul dX11_more_230 ?_
        refine V_iload (k := 4) dX11_more_231 rfl ?_
        refine V_iadd dX11_more_233 ?_
        refine V_iald dX11_more_234 rfl (by decide) (fun h68 => ?_)
        refine V_iald dX11_more_235 rfl (by decide) (fun h69 => ?_)
        refine V_iadd dX11_more_236 ?_
        refine V_iast dX11_more_237 rfl (by decide) (fun h70 => ?_)
        refine V_iinc (k := 4) (v := x4 + 1) (lv' := [(4, .int (x4 + 1)), (0, .ref 130), (1, .int x1), (2, .int x2), (3, .int x3)]) dX11_more_238 rfl rfl (by decide) rfl ?_
        refine V_goto (tgt := 185) dX11_more_241 (by decide) ?_
        refine V_sub [1, 2, 3, 4, 0] rfl ?_
        exact ih (v_si M 165 (Int32.toNatClampNeg x3) ((M.1 165 (Int32.toNatClampNeg x3)) + (M.1 165 (Int32.toNatClampNeg (M.1 140 (Int32.toNatClampNeg ((20 * x1) + x4))))))) x1 x2 x3 (x4 + 1) hI
def fX11_more_275 (k258 : vM → Int32 → Int32 → Int32 → Int32 → Int32 → Option (vR × vM)) : Nat → vM → Int32 → Int32 → Int32 → Int32 → Int32 → Int32 → Option (vR × vM)
  | 0, _, _, _, _, _, _, _ => none
  | n9 + 1, M, x1, x2, x3, x4, x5, x6 => if v_in x1 12 = true then if (M.1 133 (Int32.toNatClampNeg x1)) ≤ x6 then k258 M x1 x2 x3 x4 (x5 + 1) else if v_in x5 12 = true then if v_in x6 12 = true then if v_in x3 12 = true then if v_in x4 12 = true then if ((M.1 164 (Int32.toNatClampNeg x3)) * (M.1 165 (Int32.toNatClampNeg x4))) < ((M.1 164 (Int32.toNatClampNeg x5)) * (M.1 165 (Int32.toNatClampNeg x6))) then fX11_more_275 k258 n9 M x1 x2 x5 x6 x5 (x6 + 1) else fX11_more_275 k258 n9 M x1 x2 x3 x4 x5 (x6 + 1) else none else none else none else none else none
set_option maxRecDepth 20000 in
set_option maxHeartbeats 2000000 in
theorem vX11_more_275 {l : Launch} {D : va_G} {dA : Nat → ClassId} {k258 : vM → Int32 → Int32 → Int32 → Int32 → Int32 → Option (vR × vM)} (hk258 : ∀ (M : vM) (x1 : Int32) (x2 : Int32) (x3 : Int32) (x4 : Int32) (x5 : Int32), v_WT M.2.2 → V l D dA sX11_more false 175 3 0 0 258 [(0, .ref 130), (1, .int x1), (2, .int x2), (3, .int x3), (4, .int x4), (5, .int x5)] [] 175 M (k258 M x1 x2 x3 x4 x5)) : ∀ (n9 : Nat) (M : vM) (x1 : Int32) (x2 : Int32) (x3 : Int32) (x4 : Int32) (x5 : Int32) (x6 : Int32), v_WT M.2.2 → V l D dA sX11_more false 175 3 0 0 275 [(0, .ref 130), (1, .int x1), (2, .int x2), (3, .int x3), (4, .int x4), (5, .int x5), (6, .int x6)] [] 175 M (fX11_more_275 k258 n9 M x1 x2 x3 x4 x5 x6) := by
  intro n9
  induction n9 with
  | zero => intros; exact V_none
  | succ n9 ih =>
    intro M x1 x2 x3 x4 x5 x6 hI
    refine V_iload (k := 6) dX11_more_275 rfl ?_
    refine V_aload_n (k := 0) dX11_more_277 rfl rfl ?_
    refine V_getr (k := 133) dX11_more_278 rfl (by decide) vf_X11_25 (by decide) (v_fin hI 120 rfl) ?_
    refine V_iload_n (k := 1) dX11_more_281 rfl rfl ?_
    refine V_iald dX11_more_282 rfl (by decide) (fun h71 => ?_)
    refine V_icmpge (tgt := 334) dX11_more_283 (by decide) (fun h72 => ?_) (fun h72 => ?_)
    · refine V_iinc (k := 5) (v := x5 + 1) (lv' := [(5, .int (x5 + 1)), (0, .ref 130), (1, .int x1), (2, .int x2), (3, .int x3), (4, .int x4), (6, .int x6)]) dX11_more_334 rfl rfl (by decide) rfl ?_
      refine V_goto (tgt := 258) dX11_more_337 (by decide) ?_
      refine V_sub [1, 2, 3, 4, 5, 0] rfl ?_
      exact hk258 M x1 x2 x3 x4 (x5 + 1) hI
    · refine V_aload_n (k := 0) dX11_more_286 rfl rfl ?_
      refine V_getr (k := 164) dX11_more_287 rfl (by decide) vf_X11_124 (by decide) (v_fin hI 151 rfl) ?_
      refine V_iload (k := 5) dX11_more_290 rfl ?_
      refine V_iald dX11_more_292 rfl (by decide) (fun h73 => ?_)
      refine V_aload_n (k := 0) dX11_more_293 rfl rfl ?_
      refine V_getr (k := 165) dX11_more_294 rfl (by decide) vf_X11_127 (by decide) (v_fin hI 152 rfl) ?_
      refine V_iload (k := 6) dX11_more_297 rfl ?_
      refine V_iald dX11_more_299 rfl (by decide) (fun h74 => ?_)
      refine V_imul dX11_more_300 ?_
      refine V_aload_n (k := 0) dX11_more_301 rfl rfl ?_
      refine V_getr (k := 164) dX11_more_302 rfl (by decide) vf_X11_124 (by decide) (v_fin hI 151 rfl) ?_
      refine V_iload_n (k := 3) dX11_more_305 rfl rfl ?_
      refine V_iald dX11_more_306 rfl (by decide) (fun h75 => ?_)
      refine V_aload_n (k := 0) dX11_more_307 rfl rfl ?_
      refine V_getr (k := 165) dX11_more_308 rfl (by decide) vf_X11_127 (by decide) (v_fin hI 152 rfl) ?_
      refine V_iload (k := 4) dX11_more_311 rfl ?_
      refine V_iald dX11_more_313 rfl (by decide) (fun h76 => ?_)
      refine V_imul dX11_more_314 ?_
      refine V_icmpgt (tgt := 321) dX11_more_315 (by decide) (fun h77 => ?_) (fun h77 => ?_)
      · refine V_iload (k := 5) dX11_more_321 rfl ?_
        refine V_istore_n (lv' := [(3, .int x5), (0, .ref 130), (1, .int x1), (2, .int x2), (4, .int x4), (5, .int x5), (6, .int x6)]) dX11_more_323 rfl (by decide) rfl ?_
        refine V_iload (k := 6) dX11_more_324 rfl ?_
        refine V_istore (lv' := [(4, .int x6), (3, .int x5), (0, .ref 130), (1, .int x1), (2, .int x2), (5, .int x5), (6, .int x6)]) dX11_more_326 (by decide) rfl ?_
        refine V_iinc (k := 6) (v := x6 + 1) (lv' := [(6, .int (x6 + 1)), (4, .int x6), (3, .int x5), (0, .ref 130), (1, .int x1), (2, .int x2), (5, .int x5)]) dX11_more_328 rfl rfl (by decide) rfl ?_
        refine V_goto (tgt := 275) dX11_more_331 (by decide) ?_
        refine V_sub [3, 4, 5, 2, 1, 6, 0] rfl ?_
        exact ih M x1 x2 x5 x6 x5 (x6 + 1) hI
      · refine V_goto (tgt := 328) dX11_more_318 (by decide) ?_
        refine V_iinc (k := 6) (v := x6 + 1) (lv' := [(6, .int (x6 + 1)), (0, .ref 130), (1, .int x1), (2, .int x2), (3, .int x3), (4, .int x4), (5, .int x5)]) dX11_more_328 rfl rfl (by decide) rfl ?_
        refine V_goto (tgt := 275) dX11_more_331 (by decide) ?_
        refine V_sub [1, 2, 3, 4, 5, 6, 0] rfl ?_
        exact ih M x1 x2 x3 x4 x5 (x6 + 1) hI
def fX11_more_258 : Nat → vM → Int32 → Int32 → Int32 → Int32 → Int32 → Option (vR × vM)
  | 0, _, _, _, _, _, _ => none
  | n9 + 1, M, x1, x2, x3, x4, x5 => if v_in x1 12 = true then if (M.1 133 (Int32.toNatClampNeg x1)) ≤ x5 then if x2 = 0 then rI x3 M else if x2 = 1 then rI x4 M else if v_in x1 6 = true then if v_in x3 12 = true then if v_in x4 12 = true then rI ((M.1 145 (Int32.toNatClampNeg x1)) + ((M.1 164 (Int32.toNatClampNeg x3)) * (M.1 165 (Int32.toNatClampNeg x4)))) M else none else none else none else fX11_more_275 (fX11_more_258 n9) FU M x1 x2 x3 x4 x5 (x5 + 1) else none
set_option maxRecDepth 20000 in
set_option maxHeartbeats 2000000 in
theorem vX11_more_258 {l : Launch} {D : va_G} {dA : Nat → ClassId} : ∀ (n9 : Nat) (M : vM) (x1 : Int32) (x2 : Int32) (x3 : Int32) (x4 : Int32) (x5 : Int32), v_WT M.2.2 → V l D dA sX11_more false 175 3 0 0 258 [(0, .ref 130), (1, .int x1), (2, .int x2), (3, .int x3), (4, .int x4), (5, .int x5)] [] 175 M (fX11_more_258 n9 M x1 x2 x3 x4 x5) := by
  intro n9
  induction n9 with
  | zero => intros; exact V_none
  | succ n9 ih =>
    intro M x1 x2 x3 x4 x5 hI
    refine V_iload (k := 5) dX11_more_258 rfl ?_
    refine V_aload_n (k := 0) dX11_more_260 rfl rfl ?_
    refine V_getr (k := 133) dX11_more_261 rfl (by decide) vf_X11_25 (by decide) (v_fin hI 120 rfl) ?_
    refine V_iload_n (k := 1) dX11_more_264 rfl rfl ?_
    refine V_iald dX11_more_265 rfl (by decide) (fun h78 => ?_)
    refine V_icmpge (tgt := 340) dX11_more_266 (by decide) (fun h79 => ?_) (fun h79 => ?_)
    · refine V_iload_n (k := 2) dX11_more_340 rfl rfl ?_
      refine V_ifne (tgt := 348) dX11_more_341 (by decide) (fun h80 => ?_) (fun h80 => ?_)
      · refine V_iload_n (k := 2) dX11_more_348 rfl rfl ?_
        refine V_iconst (v := 1) dX11_more_349 rfl ?_
        refine V_icmpne (tgt := 358) dX11_more_350 (by decide) (fun h81 => ?_) (fun h81 => ?_)
        · refine V_aload_n (k := 0) dX11_more_358 rfl rfl ?_
          refine V_getr (k := 145) dX11_more_359 rfl (by decide) vf_X11_61 (by decide) (v_fin hI 132 rfl) ?_
          refine V_iload_n (k := 1) dX11_more_362 rfl rfl ?_
          refine V_iald dX11_more_363 rfl (by decide) (fun h82 => ?_)
          refine V_aload_n (k := 0) dX11_more_364 rfl rfl ?_
          refine V_getr (k := 164) dX11_more_365 rfl (by decide) vf_X11_124 (by decide) (v_fin hI 151 rfl) ?_
          refine V_iload_n (k := 3) dX11_more_368 rfl rfl ?_
          refine V_iald dX11_more_369 rfl (by decide) (fun h83 => ?_)
          refine V_aload_n (k := 0) dX11_more_370 rfl rfl ?_
          refine V_getr (k := 165) dX11_more_371 rfl (by decide) vf_X11_127 (by decide) (v_fin hI 152 rfl) ?_
          refine V_iload (k := 4) dX11_more_374 rfl ?_
          refine V_iald dX11_more_376 rfl (by decide) (fun h84 => ?_)
          refine V_imul dX11_more_377 ?_
          refine V_iadd dX11_more_378 ?_
          exact V_ret (fun _ => hI) (Or.inr (Or.inl ⟨rfl, _, rfl⟩)) dX11_more_379 (fun ty x h1 h2 => by cases h1; rfl) rfl
        · refine V_iload (k := 4) dX11_more_353 rfl ?_
          refine V_goto (tgt := 379) dX11_more_355 (by decide) ?_
          exact V_ret (fun _ => hI) (Or.inr (Or.inl ⟨rfl, _, rfl⟩)) dX11_more_379 (fun ty x h1 h2 => by cases h1; rfl) rfl
      · refine V_iload_n (k := 3) dX11_more_344 rfl rfl ?_
        refine V_goto (tgt := 379) dX11_more_345 (by decide) ?_
        exact V_ret (fun _ => hI) (Or.inr (Or.inl ⟨rfl, _, rfl⟩)) dX11_more_379 (fun ty x h1 h2 => by cases h1; rfl) rfl
    · refine V_iload (k := 5) dX11_more_269 rfl ?_
      refine V_iconst (v := 1) dX11_more_271 rfl ?_
      refine V_iadd dX11_more_272 ?_
      refine V_istore (lv' := [(6, .int (x5 + 1)), (0, .ref 130), (1, .int x1), (2, .int x2), (3, .int x3), (4, .int x4), (5, .int x5)]) dX11_more_273 (by decide) rfl ?_
      refine V_sub [1, 2, 3, 4, 5, 6, 0] rfl ?_
      exact vX11_more_275 (ih) FU M x1 x2 x3 x4 x5 (x5 + 1) hI
def fX11_more_178 : Nat → vM → Int32 → Int32 → Int32 → Option (vR × vM)
  | 0, _, _, _, _ => none
  | n9 + 1, M, x1, x2, x3 => if x3 < 0 then fX11_more_258 FU M x1 x2 0 1 0 else fX11_more_185 (fX11_more_178 n9) FU M x1 x2 x3 0
set_option maxRecDepth 20000 in
set_option maxHeartbeats 2000000 in
theorem vX11_more_178 {l : Launch} {D : va_G} {dA : Nat → ClassId} : ∀ (n9 : Nat) (M : vM) (x1 : Int32) (x2 : Int32) (x3 : Int32), v_WT M.2.2 → V l D dA sX11_more false 175 3 0 0 178 [(0, .ref 130), (1, .int x1), (2, .int x2), (3, .int x3)] [] 175 M (fX11_more_178 n9 M x1 x2 x3) := by
  intro n9
  induction n9 with
  | zero => intros; exact V_none
  | succ n9 ih =>
    intro M x1 x2 x3 hI
    refine V_iload_n (k := 3) dX11_more_178 rfl rfl ?_
    refine V_iflt (tgt := 250) dX11_more_179 (by decide) (fun h85 => ?_) (fun h85 => ?_)
    · refine V_iconst (v := 0) dX11_more_250 rfl ?_
      refine V_istore_n (lv' := [(3, .int 0), (0, .ref 130), (1, .int x1), (2, .int x2)]) dX11_more_251 rfl (by decide) rfl ?_
      refine V_iconst (v := 1) dX11_more_252 rfl ?_
      refine V_istore (lv' := [(4, .int 1), (3, .int 0), (0, .ref 130), (1, .int x1), (2, .int x2)]) dX11_more_253 (by decide) rfl ?_
      refine V_iconst (v := 0) dX11_more_255 rfl ?_
      refine V_istore (lv' := [(5, .int 0), (4, .int 1), (3, .int 0), (0, .ref 130), (1, .int x1), (2, .int x2)]) dX11_more_256 (by decide) rfl ?_
      refine V_sub [3, 4, 5, 2, 1, 0] rfl ?_
      exact vX11_more_258 FU M x1 x2 0 1 0 hI
    · refine V_iconst (v := 0) dX11_more_182 rfl ?_
      refine V_istore (lv' := [(4, .int 0), (0, .ref 130), (1, .int x1), (2, .int x2), (3, .int x3)]) dX11_more_183 (by decide) rfl ?_
      refine V_sub [1, 2, 3, 4, 0] rfl ?_
      exact vX11_more_185 (ih) FU M x1 x2 x3 0 hI
def fX11_more_91 : Nat → vM → Int32 → Int32 → Int32 → Option (vR × vM)
  | 0, _, _, _, _ => none
  | n9 + 1, M, x1, x2, x3 => if v_in x1 12 = true then if (M.1 133 (Int32.toNatClampNeg x1)) ≤ x3 then if v_in x1 12 = true then fX11_more_178 FU M x1 x2 ((M.1 133 (Int32.toNatClampNeg x1)) - 2) else none else fX11_more_104 (fX11_more_91 n9) FU M x1 x2 x3 0 else none
set_option maxRecDepth 20000 in
set_option maxHeartbeats 2000000 in
theorem vX11_more_91 {l : Launch} {D : va_G} {dA : Nat → ClassId} : ∀ (n9 : Nat) (M : vM) (x1 : Int32) (x2 : Int32) (x3 : Int32), v_WT M.2.2 → V l D dA sX11_more false 175 3 0 0 91 [(0, .ref 130), (1, .int x1), (2, .int x2), (3, .int x3)] [] 175 M (fX11_more_91 n9 M x1 x2 x3) := by
  intro n9
  induction n9 with
  | zero => intros; exact V_none
  | succ n9 ih =>
    intro M x1 x2 x3 hI
    refine V_iload_n (k := 3) dX11_more_91 rfl rfl ?_
    refine V_aload_n (k := 0) dX11_more_92 rfl rfl ?_
    refine V_getr (k := 133) dX11_more_93 rfl (by decide) vf_X11_25 (by decide) (v_fin hI 120 rfl) ?_
    refine V_iload_n (k := 1) dX11_more_96 rfl rfl ?_
    refine V_iald dX11_more_97 rfl (by decide) (fun h86 => ?_)
    refine V_icmpge (tgt := 169) dX11_more_98 (by decide) (fun h87 => ?_) (fun h87 => ?_)
    · refine V_aload_n (k := 0) dX11_more_169 rfl rfl ?_
      refine V_getr (k := 133) dX11_more_170 rfl (by decide) vf_X11_25 (by decide) (v_fin hI 120 rfl) ?_
      refine V_iload_n (k := 1) dX11_more_173 rfl rfl ?_
      refine V_iald dX11_more_174 rfl (by decide) (fun h88 => ?_)
      refine V_iconst (v := 2) dX11_more_175 rfl ?_
      refine V_isub dX11_more_176 ?_
      refine V_istore_n (lv' := [(3, .int ((M.1 133 (Int32.toNatClampNeg x1)) - 2)), (0, .ref 130), (1, .int x1), (2, .int x2)]) dX11_more_177 rfl (by decide) rfl ?_
      refine V_sub [1, 2, 3, 0] rfl ?_
      exact vX11_more_178 FU M x1 x2 ((M.1 133 (Int32.toNatClampNeg x1)) - 2) hI
    · refine V_iconst (v := 0) dX11_more_101 rfl ?_
      refine V_istore (lv' := [(4, .int 0), (0, .ref 130), (1, .int x1), (2, .int x2), (3, .int x3)]) dX11_more_102 (by decide) rfl ?_
      refine V_sub [1, 2, 3, 4, 0] rfl ?_
      exact vX11_more_104 (ih) FU M x1 x2 x3 0 hI
def fX11_more_39 : Nat → vM → Int32 → Int32 → Int32 → Option (vR × vM)
  | 0, _, _, _, _ => none
  | n9 + 1, M, x1, x2, x3 => if 12 ≤ x3 then fX11_more_91 FU M x1 x2 1 else if x3 = 0 then fX11_more_59 (fX11_more_39 n9) M x1 x2 x3 x3 1 else fX11_more_59 (fX11_more_39 n9) M x1 x2 x3 x3 0
set_option maxRecDepth 20000 in
set_option maxHeartbeats 2000000 in
theorem vX11_more_39 {l : Launch} {D : va_G} {dA : Nat → ClassId} : ∀ (n9 : Nat) (M : vM) (x1 : Int32) (x2 : Int32) (x3 : Int32), v_WT M.2.2 → V l D dA sX11_more false 175 3 0 0 39 [(0, .ref 130), (1, .int x1), (2, .int x2), (3, .int x3)] [] 175 M (fX11_more_39 n9 M x1 x2 x3) := by
  intro n9
  induction n9 with
  | zero => intros; exact V_none
  | succ n9 ih =>
    intro M x1 x2 x3 hI
    refine V_iload_n (k := 3) dX11_more_39 rfl rfl ?_
    refine V_bipush (v := 12) dX11_more_40 rfl ?_
    refine V_icmpge (tgt := 89) dX11_more_42 (by decide) (fun h89 => ?_) (fun h89 => ?_)
    · refine V_iconst (v := 1) dX11_more_89 rfl ?_
      refine V_istore_n (lv' := [(3, .int 1), (0, .ref 130), (1, .int x1), (2, .int x2)]) dX11_more_90 rfl (by decide) rfl ?_
      refine V_sub [1, 2, 3, 0] rfl ?_
      exact vX11_more_91 FU M x1 x2 1 hI
    · refine V_aload_n (k := 0) dX11_more_45 rfl rfl ?_
      refine V_getr (k := 164) dX11_more_46 rfl (by decide) vf_X11_124 (by decide) (v_fin hI 151 rfl) ?_
      refine V_iload_n (k := 3) dX11_more_49 rfl rfl ?_
      refine V_iload_n (k := 3) dX11_more_50 rfl rfl ?_
      refine V_ifne (tgt := 58) dX11_more_51 (by decide) (fun h90 => ?_) (fun h90 => ?_)
      · refine V_iconst (v := 0) dX11_more_58 rfl ?_
        refine V_sub [0, 1, 2, 3] rfl ?_
        exact vX11_more_59 (ih) M x1 x2 x3 x3 0 hI
      · refine V_iconst (v := 1) dX11_more_54 rfl ?_
        refine V_goto (tgt := 59) dX11_more_55 (by decide) ?_
        refine V_sub [0, 1, 2, 3] rfl ?_
        exact vX11_more_59 (ih) M x1 x2 x3 x3 1 hI
def fX11_more (M : vM) (x1 : Int32) (x2 : Int32) : Option (vR × vM) := bi (fX11_isWork (v_si M 130 1 0) x1) fun y91 M92 => if y91 = 0 then fX11_more_31 M92 else if v_in x1 12 = true then if (M92.1 132 (Int32.toNatClampNeg x1)) = 0 then bi (fX11_isIn M92 x2 0 2) fun y98 M99 => if y98 = 0 then fX11_more_31 M99 else fX11_more_39 FU M99 x1 x2 0 else fX11_more_31 M92 else none
set_option maxRecDepth 20000 in
set_option maxHeartbeats 2000000 in
theorem cX11_more_ok {l : Launch} {D : va_G} {dA : Nat → ClassId} (M : vM) (x1 : Int32) (x2 : Int32) (hI : v_WT M.2.2) : Ct l D dA sX11_more false 175 3 0 0 175 [.ref 130, .int x1, .int x2] M (fX11_more M x1 x2) := by
  refine Ct_of (lv := [(0, .ref 130), (1, .int x1), (2, .int x2)]) (by decide +kernel) rfl (Nat.le_of_ble_eq_true rfl) rfl (fun h => by cases h) ?_
  refine V_aload_n (k := 0) dX11_more_0 rfl rfl ?_
  refine V_iconst (v := 0) dX11_more_1 rfl ?_
  refine V_puti dX11_more_2 rfl (by decide) vf_X11_154 (by decide) rfl rfl ?_
  refine V_aload_n (k := 0) dX11_more_5 rfl rfl ?_
  refine V_iload_n (k := 1) dX11_more_6 rfl rfl ?_
  refine V_callVi (q := (RX11, TX11, 61)) (cls := 11) (st0 := []) (kc' := 0) (ks' := 0) dX11_more_7 lk_X11_164 rfl (by decide) rfl rfl rfl (cX11_isWork_ok (v_si M 130 1 0) x1 hI) rfl rfl (by decide) (by decide) (Nat.le_of_ble_eq_true rfl) (Or.inl rfl) rfl rfl (by decide) (by decide) (fun y91 M92 e93 hI94 => ?_)
  refine V_ifeq (tgt := 31) dX11_more_10 (by decide) (fun h95 => ?_) (fun h95 => ?_)
  · refine V_sub [0] rfl ?_
    exact vX11_more_31 M92 hI94
  · refine V_aload_n (k := 0) dX11_more_13 rfl rfl ?_
    refine V_getr (k := 132) dX11_more_14 rfl (by decide) vf_X11_21 (by decide) (v_fin hI94 119 rfl) ?_
    refine V_iload_n (k := 1) dX11_more_17 rfl rfl ?_
    refine V_iald dX11_more_18 rfl (by decide) (fun h96 => ?_)
    refine V_ifne (tgt := 31) dX11_more_19 (by decide) (fun h97 => ?_) (fun h97 => ?_)
    · refine V_sub [0] rfl ?_
      exact vX11_more_31 M92 hI94
    · refine V_iload_n (k := 2) dX11_more_22 rfl rfl ?_
      refine V_iconst (v := 0) dX11_more_23 rfl ?_
      refine V_iconst (v := 2) dX11_more_24 rfl ?_
      refine V_callSi (st0 := []) (kc' := 0) (ks' := 0) dX11_more_25 lk_X11_160 rfl (cX11_isIn_ok M92 x2 0 2 hI94) rfl rfl (by decide) (by decide) (Nat.le_of_ble_eq_true rfl) (Or.inl rfl) rfl rfl (by decide) (by decide) (fun y98 M99 e100 hI101 => ?_)
      refine V_ifne (tgt := 37) dX11_more_28 (by decide) (fun h102 => ?_) (fun h102 => ?_)
      · refine V_iconst (v := 0) dX11_more_37 rfl ?_
        refine V_istore_n (lv' := [(3, .int 0), (0, .ref 130), (1, .int x1), (2, .int x2)]) dX11_more_38 rfl (by decide) rfl ?_
        refine V_sub [1, 2, 3, 0] rfl ?_
        exact vX11_more_39 FU M99 x1 x2 0 hI101
      · refine V_sub [0] rfl ?_
        exact vX11_more_31 M99 hI101
def fX11_near_42 : Nat → vM → Int32 → Int32 → Int32 → Int32 → Int32 → Option (vR × vM)
  | 0, _, _, _, _, _, _ => none
  | n9 + 1, M, x1, x2, x3, x4, x5 => if v_in x1 6 = true then if (M.1 145 (Int32.toNatClampNeg x1)) ≤ x5 then rI x4 M else bi (fX11_markOf M x1 x5) fun y8 M9 => bi (fX11_markOf M9 x1 x2) fun y12 M13 => bi (fX11_bitsOf M13 (y8 ^^^ y12)) fun y16 M17 => if x3 ≤ y16 then fX11_near_42 n9 M17 x1 x2 x3 (x4 + 0) (x5 + 1) else fX11_near_42 n9 M17 x1 x2 x3 (x4 + 1) (x5 + 1) else none
set_option maxRecDepth 20000 in
set_option maxHeartbeats 2000000 in
theorem vX11_near_42 {l : Launch} {D : va_G} {dA : Nat → ClassId} : ∀ (n9 : Nat) (M : vM) (x1 : Int32) (x2 : Int32) (x3 : Int32) (x4 : Int32) (x5 : Int32), v_WT M.2.2 → V l D dA sX11_near false 175 4 0 0 42 [(0, .ref 130), (1, .int x1), (2, .int x2), (3, .int x3), (4, .int x4), (5, .int x5)] [] 175 M (fX11_near_42 n9 M x1 x2 x3 x4 x5) := by
  intro n9
  induction n9 with
  | zero => intros; exact V_none
  | succ n9 ih =>
    intro M x1 x2 x3 x4 x5 hI
    refine V_iload (k := 5) dX11_near_42 rfl ?_
    refine V_aload_n (k := 0) dX11_near_44 rfl rfl ?_
    refine V_getr (k := 145) dX11_near_45 rfl (by decide) vf_X11_61 (by decide) (v_fin hI 132 rfl) ?_
    refine V_iload_n (k := 1) dX11_near_48 rfl rfl ?_
    refine V_iald dX11_near_49 rfl (by decide) (fun h6 => ?_)
    refine V_icmpge (tgt := 90) dX11_near_50 (by decide) (fun h7 => ?_) (fun h7 => ?_)
    · refine V_iload (k := 4) dX11_near_90 rfl ?_
      exact V_ret (fun _ => hI) (Or.inr (Or.inl ⟨rfl, _, rfl⟩)) dX11_near_92 (fun ty x h1 h2 => by cases h1; rfl) rfl
    · refine V_iload (k := 4) dX11_near_53 rfl ?_
      refine V_aload_n (k := 0) dX11_near_55 rfl rfl ?_
      refine V_iload_n (k := 1) dX11_near_56 rfl rfl ?_
      refine V_iload (k := 5) dX11_near_57 rfl ?_
      refine V_callVi (q := (RX11, TX11, 61)) (cls := 11) (st0 := [.int x4]) (kc' := 0) (ks' := 0) dX11_near_59 lk_X11_349 rfl (by decide) rfl rfl rfl (cX11_markOf_ok M x1 x5 hI) rfl rfl (by decide) (by decide) (Nat.le_of_ble_eq_true rfl) (Or.inl rfl) rfl rfl (by decide) (by decide) (fun y8 M9 e10 hI11 => ?_)
      refine V_aload_n (k := 0) dX11_near_62 rfl rfl ?_
      refine V_iload_n (k := 1) dX11_near_63 rfl rfl ?_
      refine V_iload_n (k := 2) dX11_near_64 rfl rfl ?_
      refine V_callVi (q := (RX11, TX11, 61)) (cls := 11) (st0 := [.int y8, .int x4]) (kc' := 0) (ks' := 0) dX11_near_65 lk_X11_349 rfl (by decide) rfl rfl rfl (cX11_markOf_ok M9 x1 x2 hI11) rfl rfl (by decide) (by decide) (Nat.le_of_ble_eq_true rfl) (Or.inl rfl) rfl rfl (by decide) (by decide) (fun y12 M13 e14 hI15 => ?_)
      refine V_ixor dX11_near_68 ?_
      refine V_callSi (st0 := [.int x4]) (kc' := 0) (ks' := 0) dX11_near_69 lk_X11_324 rfl (cX11_bitsOf_ok M13 (y8 ^^^ y12) hI15) rfl rfl (by decide) (by decide) (Nat.le_of_ble_eq_true rfl) (Or.inl rfl) rfl rfl (by decide) (by decide) (fun y16 M17 e18 hI19 => ?_)
      refine V_iload_n (k := 3) dX11_near_72 rfl rfl ?_
      refine V_icmpge (tgt := 80) dX11_near_73 (by decide) (fun h20 => ?_) (fun h20 => ?_)
      · refine V_iconst (v := 0) dX11_near_80 rfl ?_
        refine V_iadd dX11_near_81 ?_
        refine V_istore (lv' := [(4, .int (x4 + 0)), (0, .ref 130), (1, .int x1), (2, .int x2), (3, .int x3), (5, .int x5)]) dX11_near_82 (by decide) rfl ?_
        refine V_iinc (k := 5) (v := x5 + 1) (lv' := [(5, .int (x5 + 1)), (4, .int (x4 + 0)), (0, .ref 130), (1, .int x1), (2, .int x2), (3, .int x3)]) dX11_near_84 rfl rfl (by decide) rfl ?_
        refine V_goto (tgt := 42) dX11_near_87 (by decide) ?_
        refine V_sub [2, 3, 4, 5, 1, 0] rfl ?_
        exact ih M17 x1 x2 x3 (x4 + 0) (x5 + 1) hI19
      · refine V_iconst (v := 1) dX11_near_76 rfl ?_
        refine V_goto (tgt := 81) dX11_near_77 (by decide) ?_
        refine V_iadd dX11_near_81 ?_
        refine V_istore (lv' := [(4, .int (x4 + 1)), (0, .ref 130), (1, .int x1), (2, .int x2), (3, .int x3), (5, .int x5)]) dX11_near_82 (by decide) rfl ?_
        refine V_iinc (k := 5) (v := x5 + 1) (lv' := [(5, .int (x5 + 1)), (4, .int (x4 + 1)), (0, .ref 130), (1, .int x1), (2, .int x2), (3, .int x3)]) dX11_near_84 rfl rfl (by decide) rfl ?_
        refine V_goto (tgt := 42) dX11_near_87 (by decide) ?_
        refine V_sub [2, 3, 4, 5, 1, 0] rfl ?_
        exact ih M17 x1 x2 x3 (x4 + 1) (x5 + 1) hI19
def fX11_near (M : vM) (x1 : Int32) (x2 : Int32) (x3 : Int32) : Option (vR × vM) := bi (fX11_isWay (v_si M 130 1 0) x1 x2) fun y21 M22 => if y21 = 0 then bi (fX11_fail M22 1) fun y35 M36 => rI y35 M36 else bi (fX11_isIn M22 x3 0 30) fun y26 M27 => if y26 = 0 then bi (fX11_fail M27 2) fun y31 M32 => rI y31 M32 else fX11_near_42 FU M27 x1 x2 x3 0 0
set_option maxRecDepth 20000 in
set_option maxHeartbeats 2000000 in
theorem cX11_near_ok {l : Launch} {D : va_G} {dA : Nat → ClassId} (M : vM) (x1 : Int32) (x2 : Int32) (x3 : Int32) (hI : v_WT M.2.2) : Ct l D dA sX11_near false 175 4 0 0 175 [.ref 130, .int x1, .int x2, .int x3] M (fX11_near M x1 x2 x3) := by
  refine Ct_of (lv := [(0, .ref 130), (1, .int x1), (2, .int x2), (3, .int x3)]) (by decide +kernel) rfl (Nat.le_of_ble_eq_true rfl) rfl (fun h => by cases h) ?_
  refine V_aload_n (k := 0) dX11_near_0 rfl rfl ?_
  refine V_iconst (v := 0) dX11_near_1 rfl ?_
  refine V_puti dX11_near_2 rfl (by decide) vf_X11_154 (by decide) rfl rfl ?_
  refine V_aload_n (k := 0) dX11_near_5 rfl rfl ?_
  refine V_iload_n (k := 1) dX11_near_6 rfl rfl ?_
  refine V_iload_n (k := 2) dX11_near_7 rfl rfl ?_
  refine V_callVi (q := (RX11, TX11, 61)) (cls := 11) (st0 := []) (kc' := 0) (ks' := 0) dX11_near_8 lk_X11_362 rfl (by decide) rfl rfl rfl (cX11_isWay_ok (v_si M 130 1 0) x1 x2 hI) rfl rfl (by decide) (by decide) (Nat.le_of_ble_eq_true rfl) (Or.inl rfl) rfl rfl (by decide) (by decide) (fun y21 M22 e23 hI24 => ?_)
  refine V_ifne (tgt := 20) dX11_near_11 (by decide) (fun h25 => ?_) (fun h25 => ?_)
  · refine V_iload_n (k := 3) dX11_near_20 rfl rfl ?_
    refine V_iconst (v := 0) dX11_near_21 rfl ?_
    refine V_bipush (v := 30) dX11_near_22 rfl ?_
    refine V_callSi (st0 := []) (kc' := 0) (ks' := 0) dX11_near_24 lk_X11_160 rfl (cX11_isIn_ok M22 x3 0 30 hI24) rfl rfl (by decide) (by decide) (Nat.le_of_ble_eq_true rfl) (Or.inl rfl) rfl rfl (by decide) (by decide) (fun y26 M27 e28 hI29 => ?_)
    refine V_ifne (tgt := 36) dX11_near_27 (by decide) (fun h30 => ?_) (fun h30 => ?_)
    · refine V_iconst (v := 0) dX11_near_36 rfl ?_
      refine V_istore (lv' := [(4, .int 0), (0, .ref 130), (1, .int x1), (2, .int x2), (3, .int x3)]) dX11_near_37 (by decide) rfl ?_
      refine V_iconst (v := 0) dX11_near_39 rfl ?_
      refine V_istore (lv' := [(5, .int 0), (4, .int 0), (0, .ref 130), (1, .int x1), (2, .int x2), (3, .int x3)]) dX11_near_40 (by decide) rfl ?_
      refine V_sub [2, 3, 4, 5, 1, 0] rfl ?_
      exact vX11_near_42 FU M27 x1 x2 x3 0 0 hI29
    · refine V_aload_n (k := 0) dX11_near_30 rfl rfl ?_
      refine V_iconst (v := 2) dX11_near_31 rfl ?_
      refine V_callVi (q := (RX11, TX11, 61)) (cls := 11) (st0 := []) (kc' := 0) (ks' := 0) dX11_near_32 lk_X11_287 rfl (by decide) rfl rfl rfl (cX11_fail_ok M27 2 hI29) rfl rfl (by decide) (by decide) (Nat.le_of_ble_eq_true rfl) (Or.inl rfl) rfl rfl (by decide) (by decide) (fun y31 M32 e33 hI34 => ?_)
      exact V_ret (fun _ => hI34) (Or.inr (Or.inl ⟨rfl, _, rfl⟩)) dX11_near_35 (fun ty x h1 h2 => by cases h1; rfl) rfl
  · refine V_aload_n (k := 0) dX11_near_14 rfl rfl ?_
    refine V_iconst (v := 1) dX11_near_15 rfl ?_
    refine V_callVi (q := (RX11, TX11, 61)) (cls := 11) (st0 := []) (kc' := 0) (ks' := 0) dX11_near_16 lk_X11_287 rfl (by decide) rfl rfl rfl (cX11_fail_ok M22 1 hI24) rfl rfl (by decide) (by decide) (Nat.le_of_ble_eq_true rfl) (Or.inl rfl) rfl rfl (by decide) (by decide) (fun y35 M36 e37 hI38 => ?_)
    exact V_ret (fun _ => hI38) (Or.inr (Or.inl ⟨rfl, _, rfl⟩)) dX11_near_19 (fun ty x h1 h2 => by cases h1; rfl) rfl
def fX11_numberLeft_22 : Nat → vM → Int32 → Int32 → Int32 → Int32 → Option (vR × vM)
  | 0, _, _, _, _, _ => none
  | n9 + 1, M, x1, x2, x3, x4 => if x2 ≤ x4 then rI x3 M else if v_in ((2000 * x1) + x4) 12000 = true then if (M.1 148 (Int32.toNatClampNeg ((2000 * x1) + x4))) = 0 then fX11_numberLeft_22 n9 M x1 x2 (x3 + 1) (x4 + 1) else fX11_numberLeft_22 n9 M x1 x2 (x3 + 0) (x4 + 1) else none
set_option maxRecDepth 20000 in
set_option maxHeartbeats 2000000 in
theorem vX11_numberLeft_22 {l : Launch} {D : va_G} {dA : Nat → ClassId} : ∀ (n9 : Nat) (M : vM) (x1 : Int32) (x2 : Int32) (x3 : Int32) (x4 : Int32), v_WT M.2.2 → V l D dA sX11_numberLeft false 175 1 0 0 22 [(0, .ref 130), (1, .int x1), (2, .int x2), (3, .int x3), (4, .int x4)] [] 175 M (fX11_numberLeft_22 n9 M x1 x2 x3 x4) := by
  intro n9
  induction n9 with
  | zero => intros; exact V_none
  | succ n9 ih =>
    intro M x1 x2 x3 x4 hI
    refine V_iload (k := 4) dX11_numberLeft_22 rfl ?_
    refine V_iload_n (k := 2) dX11_numberLeft_24 rfl rfl ?_
    refine V_icmpge (tgt := 58) dX11_numberLeft_25 (by decide) (fun h6 => ?_) (fun h6 => ?_)
    · refine V_iload_n (k := 3) dX11_numberLeft_58 rfl rfl ?_
      exact V_ret (fun _ => hI) (Or.inr (Or.inl ⟨rfl, _, rfl⟩)) dX11_numberLeft_59 (fun ty x h1 h2 => by cases h1; rfl) rfl
    · refine V_iload_n (k := 3) dX11_numberLeft_28 rfl rfl ?_
      refine V_aload_n (k := 0) dX11_numberLeft_29 rfl rfl ?_
      refine V_getr (k := 148) dX11_numberLeft_30 rfl (by decide) vf_X11_70 (by decide) (v_fin hI 135 rfl) ?_
      refine V_sipush (v := 2000) dX11_numberLeft_33 rfl ?_
      refine V_iload_n (k := 1) dX11_numberLeft_36 rfl rfl ?_
      refine V_imul dX11_numberLeft_37 ?_
      refine V_iload (k := 4) dX11_numberLeft_38 rfl ?_
      refine V_iadd dX11_numberLeft_40 ?_
      refine V_zald dX11_numberLeft_41 rfl (by decide) (fun h7 => ?_)
      refine V_ifeq (tgt := 49) dX11_numberLeft_42 (by decide) (fun h8 => ?_) (fun h8 => ?_)
      · refine V_iconst (v := 1) dX11_numberLeft_49 rfl ?_
        refine V_iadd dX11_numberLeft_50 ?_
        refine V_istore_n (lv' := [(3, .int (x3 + 1)), (0, .ref 130), (1, .int x1), (2, .int x2), (4, .int x4)]) dX11_numberLeft_51 rfl (by decide) rfl ?_
        refine V_iinc (k := 4) (v := x4 + 1) (lv' := [(4, .int (x4 + 1)), (3, .int (x3 + 1)), (0, .ref 130), (1, .int x1), (2, .int x2)]) dX11_numberLeft_52 rfl rfl (by decide) rfl ?_
        refine V_goto (tgt := 22) dX11_numberLeft_55 (by decide) ?_
        refine V_sub [2, 3, 4, 1, 0] rfl ?_
        exact ih M x1 x2 (x3 + 1) (x4 + 1) hI
      · refine V_iconst (v := 0) dX11_numberLeft_45 rfl ?_
        refine V_goto (tgt := 50) dX11_numberLeft_46 (by decide) ?_
        refine V_iadd dX11_numberLeft_50 ?_
        refine V_istore_n (lv' := [(3, .int (x3 + 0)), (0, .ref 130), (1, .int x1), (2, .int x2), (4, .int x4)]) dX11_numberLeft_51 rfl (by decide) rfl ?_
        refine V_iinc (k := 4) (v := x4 + 1) (lv' := [(4, .int (x4 + 1)), (3, .int (x3 + 0)), (0, .ref 130), (1, .int x1), (2, .int x2)]) dX11_numberLeft_52 rfl rfl (by decide) rfl ?_
        refine V_goto (tgt := 22) dX11_numberLeft_55 (by decide) ?_
        refine V_sub [2, 3, 4, 1, 0] rfl ?_
        exact ih M x1 x2 (x3 + 0) (x4 + 1) hI
def fX11_numberLeft (M : vM) (x1 : Int32) (x2 : Int32) : Option (vR × vM) := if v_in ((2000 * x1) + x2) 12000 = true then if (M.1 148 (Int32.toNatClampNeg ((2000 * x1) + x2))) = 0 then fX11_numberLeft_22 FU M x1 x2 0 0 else rI ((-1)) M else none
set_option maxRecDepth 20000 in
set_option maxHeartbeats 2000000 in
theorem cX11_numberLeft_ok {l : Launch} {D : va_G} {dA : Nat → ClassId} (M : vM) (x1 : Int32) (x2 : Int32) (hI : v_WT M.2.2) : Ct l D dA sX11_numberLeft false 175 1 0 0 175 [.ref 130, .int x1, .int x2] M (fX11_numberLeft M x1 x2) := by
  refine Ct_of (lv := [(0, .ref 130), (1, .int x1), (2, .int x2)]) (by decide +kernel) rfl (Nat.le_of_ble_eq_true rfl) rfl (fun h => by cases h) ?_
  refine V_aload_n (k := 0) dX11_numberLeft_0 rfl rfl ?_
  refine V_getr (k := 148) dX11_numberLeft_1 rfl (by decide) vf_X11_70 (by decide) (v_fin hI 135 rfl) ?_
  refine V_sipush (v := 2000) dX11_numberLeft_4 rfl ?_
  refine V_iload_n (k := 1) dX11_numberLeft_7 rfl rfl ?_
  refine V_imul dX11_numberLeft_8 ?_
  refine V_iload_n (k := 2) dX11_numberLeft_9 rfl rfl ?_
  refine V_iadd dX11_numberLeft_10 ?_
  refine V_zald dX11_numberLeft_11 rfl (by decide) (fun h9 => ?_)
  refine V_ifeq (tgt := 17) dX11_numberLeft_12 (by decide) (fun h10 => ?_) (fun h10 => ?_)
  · refine V_iconst (v := 0) dX11_numberLeft_17 rfl ?_
    refine V_istore_n (lv' := [(3, .int 0), (0, .ref 130), (1, .int x1), (2, .int x2)]) dX11_numberLeft_18 rfl (by decide) rfl ?_
    refine V_iconst (v := 0) dX11_numberLeft_19 rfl ?_
    refine V_istore (lv' := [(4, .int 0), (3, .int 0), (0, .ref 130), (1, .int x1), (2, .int x2)]) dX11_numberLeft_20 (by decide) rfl ?_
    refine V_sub [2, 3, 4, 1, 0] rfl ?_
    exact vX11_numberLeft_22 FU M x1 x2 0 0 hI
  · refine V_iconst (v := (-1)) dX11_numberLeft_15 rfl ?_
    exact V_ret (fun _ => hI) (Or.inr (Or.inl ⟨rfl, _, rfl⟩)) dX11_numberLeft_16 (fun ty x h1 h2 => by cases h1; rfl) rfl
def fX11_stepOn_76 : Nat → vM → Option (vR × vM)
  | 0, _ => none
  | n9 + 1, M => bi (fX11_byteAt M (M.1 130 32)) fun y9 M10 => bi (fX11_isLetter M10 y9) fun y13 M14 => if y13 = 0 then rV (v_si (v_si M14 130 34 1) 130 37 ((v_si M14 130 34 1).1 130 32)) else fX11_stepOn_76 n9 (v_si M14 130 32 ((M14.1 130 32) + 1))
set_option maxRecDepth 20000 in
set_option maxHeartbeats 2000000 in
theorem vX11_stepOn_76 {l : Launch} {D : va_G} {dA : Nat → ClassId} : ∀ (n9 : Nat) (M : vM), v_WT M.2.2 → V l D dA sX11_stepOn false 175 2 0 0 76 [(0, .ref 130)] [] 175 M (fX11_stepOn_76 n9 M) := by
  intro n9
  induction n9 with
  | zero => intros; exact V_none
  | succ n9 ih =>
    intro M hI
    refine V_aload_n (k := 0) dX11_stepOn_76 rfl rfl ?_
    refine V_aload_n (k := 0) dX11_stepOn_77 rfl rfl ?_
    refine V_geti dX11_stepOn_78 rfl (by decide) vf_X11_174 (by decide) ?_
    refine V_callVi (q := (RX11, TX11, 61)) (cls := 11) (st0 := []) (kc' := 0) (ks' := 0) dX11_stepOn_81 lk_X11_177 rfl (by decide) rfl rfl rfl (cX11_byteAt_ok M (M.1 130 32) hI) rfl rfl (by decide) (by decide) (Nat.le_of_ble_eq_true rfl) (Or.inl rfl) rfl rfl (by decide) (by decide) (fun y9 M10 e11 hI12 => ?_)
    refine V_callSi (st0 := []) (kc' := 0) (ks' := 0) dX11_stepOn_84 lk_X11_187 rfl (cX11_isLetter_ok M10 y9 hI12) rfl rfl (by decide) (by decide) (Nat.le_of_ble_eq_true rfl) (Or.inl rfl) rfl rfl (by decide) (by decide) (fun y13 M14 e15 hI16 => ?_)
    refine V_ifeq (tgt := 103) dX11_stepOn_87 (by decide) (fun h17 => ?_) (fun h17 => ?_)
    · refine V_aload_n (k := 0) dX11_stepOn_103 rfl rfl ?_
      refine V_iconst (v := 1) dX11_stepOn_104 rfl ?_
      refine V_puti dX11_stepOn_105 rfl (by decide) vf_X11_184 (by decide) rfl rfl ?_
      refine V_goto (tgt := 211) dX11_stepOn_108 (by decide) ?_
      refine V_aload_n (k := 0) dX11_stepOn_211 rfl rfl ?_
      refine V_aload_n (k := 0) dX11_stepOn_212 rfl rfl ?_
      refine V_geti dX11_stepOn_213 rfl (by decide) vf_X11_174 (by decide) ?_
      refine V_puti dX11_stepOn_216 rfl (by decide) vf_X11_203 (by decide) rfl rfl ?_
      exact V_ret (fun _ => hI16) (Or.inl ⟨rfl, rfl⟩) dX11_stepOn_219 (fun ty x h1 h2 => by cases h1) rfl
    · refine V_aload_n (k := 0) dX11_stepOn_90 rfl rfl ?_
      refine V_dup dX11_stepOn_91 rfl ?_
      refine V_geti dX11_stepOn_92 rfl (by decide) vf_X11_174 (by decide) ?_
      refine V_iconst (v := 1) dX11_stepOn_95 rfl ?_
      refine V_iadd dX11_stepOn_96 ?_
      refine V_puti dX11_stepOn_97 rfl (by decide) vf_X11_174 (by decide) rfl rfl ?_
      refine V_goto (tgt := 76) dX11_stepOn_100 (by decide) ?_
      refine V_sub [0] rfl ?_
      exact ih (v_si M14 130 32 ((M14.1 130 32) + 1)) hI16
def fX11_stepOn_123 : Nat → vM → Option (vR × vM)
  | 0, _ => none
  | n9 + 1, M => bi (fX11_byteAt M (M.1 130 32)) fun y18 M19 => bi (fX11_isDigit M19 y18) fun y22 M23 => if y22 = 0 then rV (v_si (v_si M23 130 34 2) 130 37 ((v_si M23 130 34 2).1 130 32)) else bi (fX11_byteAt M23 (M23.1 130 32)) fun y27 M28 => fX11_stepOn_123 n9 (v_si (v_si M28 130 35 (if ((10 * (M23.1 130 35)) + y27) - 48 < 100000 then ((10 * (M23.1 130 35)) + y27) - 48 else 100000)) 130 32 (((v_si M28 130 35 (if ((10 * (M23.1 130 35)) + y27) - 48 < 100000 then ((10 * (M23.1 130 35)) + y27) - 48 else 100000)).1 130 32) + 1))
set_option maxRecDepth 20000 in
set_option maxHeartbeats 2000000 in
theorem vX11_stepOn_123 {l : Launch} {D : va_G} {dA : Nat → ClassId} : ∀ (n9 : Nat) (M : vM), v_WT M.2.2 → V l D dA sX11_stepOn false 175 2 0 0 123 [(0, .ref 130)] [] 175 M (fX11_stepOn_123 n9 M) := by
  intro n9
  induction n9 with
  | zero => intros; exact V_none
  | succ n9 ih =>
    intro M hI
    refine V_aload_n (k := 0) dX11_stepOn_123 rfl rfl ?_
    refine V_aload_n (k := 0) dX11_stepOn_124 rfl rfl ?_
    refine V_geti dX11_stepOn_125 rfl (by decide) vf_X11_174 (by decide) ?_
    refine V_callVi (q := (RX11, TX11, 61)) (cls := 11) (st0 := []) (kc' := 0) (ks' := 0) dX11_stepOn_128 lk_X11_177 rfl (by decide) rfl rfl rfl (cX11_byteAt_ok M (M.1 130 32) hI) rfl rfl (by decide) (by decide) (Nat.le_of_ble_eq_true rfl) (Or.inl rfl) rfl rfl (by decide) (by decide) (fun y18 M19 e20 hI21 => ?_)
    refine V_callSi (st0 := []) (kc' := 0) (ks' := 0) dX11_stepOn_131 lk_X11_190 rfl (cX11_isDigit_ok M19 y18 hI21) rfl rfl (by decide) (by decide) (Nat.le_of_ble_eq_true rfl) (Or.inl rfl) rfl rfl (by decide) (by decide) (fun y22 M23 e24 hI25 => ?_)
    refine V_ifeq (tgt := 178) dX11_stepOn_134 (by decide) (fun h26 => ?_) (fun h26 => ?_)
    · refine V_aload_n (k := 0) dX11_stepOn_178 rfl rfl ?_
      refine V_iconst (v := 2) dX11_stepOn_179 rfl ?_
      refine V_puti dX11_stepOn_180 rfl (by decide) vf_X11_184 (by decide) rfl rfl ?_
      refine V_goto (tgt := 211) dX11_stepOn_183 (by decide) ?_
      refine V_aload_n (k := 0) dX11_stepOn_211 rfl rfl ?_
      refine V_aload_n (k := 0) dX11_stepOn_212 rfl rfl ?_
      refine V_geti dX11_stepOn_213 rfl (by decide) vf_X11_174 (by decide) ?_
      refine V_puti dX11_stepOn_216 rfl (by decide) vf_X11_203 (by decide) rfl rfl ?_
      exact V_ret (fun _ => hI25) (Or.inl ⟨rfl, rfl⟩) dX11_stepOn_219 (fun ty x h1 h2 => by cases h1) rfl
    · refine V_aload_n (k := 0) dX11_stepOn_137 rfl rfl ?_
      refine V_ldc dX11_stepOn_138 gw1460 ?_
      refine V_bipush (v := 10) dX11_stepOn_140 rfl ?_
      refine V_aload_n (k := 0) dX11_stepOn_142 rfl rfl ?_
      refine V_geti dX11_stepOn_143 rfl (by decide) vf_X11_193 (by decide) ?_
      refine V_imul dX11_stepOn_146 ?_
      refine V_aload_n (k := 0) dX11_stepOn_147 rfl rfl ?_
      refine V_aload_n (k := 0) dX11_stepOn_148 rfl rfl ?_
      refine V_geti dX11_stepOn_149 rfl (by decide) vf_X11_174 (by decide) ?_
      refine V_callVi (q := (RX11, TX11, 61)) (cls := 11) (st0 := [.int (10 * (M23.1 130 35)), .int 100000, .ref 130]) (kc' := 0) (ks' := 0) dX11_stepOn_152 lk_X11_177 rfl (by decide) rfl rfl rfl (cX11_byteAt_ok M23 (M23.1 130 32) hI25) rfl rfl (by decide) (by decide) (Nat.le_of_ble_eq_true rfl) (Or.inl rfl) rfl rfl (by decide) (by decide) (fun y27 M28 e29 hI30 => ?_)
      refine V_iadd dX11_stepOn_155 ?_
      refine V_bipush (v := 48) dX11_stepOn_156 rfl ?_
      refine V_isub dX11_stepOn_158 ?_
      refine V_mmin dX11_stepOn_159 gw1461 gw793 gw101 gw794 (by decide) (Nat.le_of_ble_eq_true rfl) ?_
      refine V_puti dX11_stepOn_162 rfl (by decide) vf_X11_193 (by decide) rfl rfl ?_
      refine V_aload_n (k := 0) dX11_stepOn_165 rfl rfl ?_
      refine V_dup dX11_stepOn_166 rfl ?_
      refine V_geti dX11_stepOn_167 rfl (by decide) vf_X11_174 (by decide) ?_
      refine V_iconst (v := 1) dX11_stepOn_170 rfl ?_
      refine V_iadd dX11_stepOn_171 ?_
      refine V_puti dX11_stepOn_172 rfl (by decide) vf_X11_174 (by decide) rfl rfl ?_
      refine V_goto (tgt := 123) dX11_stepOn_175 (by decide) ?_
      refine V_sub [0] rfl ?_
      exact ih (v_si (v_si M28 130 35 (if ((10 * (M23.1 130 35)) + y27) - 48 < 100000 then ((10 * (M23.1 130 35)) + y27) - 48 else 100000)) 130 32 (((v_si M28 130 35 (if ((10 * (M23.1 130 35)) + y27) - 48 < 100000 then ((10 * (M23.1 130 35)) + y27) - 48 else 100000)).1 130 32) + 1)) hI30
def fX11_stepOn_0 : Nat → vM → Option (vR × vM)
  | 0, _ => none
  | n9 + 1, M => bi (fX11_byteAt M (M.1 130 32)) fun y31 M32 => if y31 = 32 then fX11_stepOn_0 n9 (v_si M32 130 32 ((M32.1 130 32) + 1)) else bi (fX11_byteAt M32 (M32.1 130 32)) fun y36 M37 => if y36 = 10 then fX11_stepOn_0 n9 (v_si M37 130 32 ((M37.1 130 32) + 1)) else bi (fX11_byteAt (v_si M37 130 36 (M37.1 130 32)) ((v_si M37 130 36 (M37.1 130 32)).1 130 32)) fun y41 M42 => if y41 = ((-1)) then rV (v_si (v_si M42 130 34 0) 130 37 ((v_si M42 130 34 0).1 130 32)) else bi (fX11_isLetter M42 y41) fun y46 M47 => if y46 = 0 then bi (fX11_isDigit M47 y41) fun y51 M52 => if y51 = 0 then if y41 = 59 then rV (v_si (v_si (v_si M52 130 32 ((M52.1 130 32) + 1)) 130 34 3) 130 37 ((v_si (v_si M52 130 32 ((M52.1 130 32) + 1)) 130 34 3).1 130 32)) else rV (v_si (v_si (v_si M52 130 32 ((M52.1 130 32) + 1)) 130 34 4) 130 37 ((v_si (v_si M52 130 32 ((M52.1 130 32) + 1)) 130 34 4).1 130 32)) else fX11_stepOn_123 FU (v_si M52 130 35 0) else fX11_stepOn_76 FU M47
set_option maxRecDepth 20000 in
set_option maxHeartbeats 2000000 in
theorem vX11_stepOn_0 {l : Launch} {D : va_G} {dA : Nat → ClassId} : ∀ (n9 : Nat) (M : vM), v_WT M.2.2 → V l D dA sX11_stepOn false 175 2 0 0 0 [(0, .ref 130)] [] 175 M (fX11_stepOn_0 n9 M) := by
  intro n9
  induction n9 with
  | zero => intros; exact V_none
  | succ n9 ih =>
    intro M hI
    refine V_aload_n (k := 0) dX11_stepOn_0 rfl rfl ?_
    refine V_aload_n (k := 0) dX11_stepOn_1 rfl rfl ?_
    refine V_geti dX11_stepOn_2 rfl (by decide) vf_X11_174 (by decide) ?_
    refine V_callVi (q := (RX11, TX11, 61)) (cls := 11) (st0 := []) (kc' := 0) (ks' := 0) dX11_stepOn_5 lk_X11_177 rfl (by decide) rfl rfl rfl (cX11_byteAt_ok M (M.1 130 32) hI) rfl rfl (by decide) (by decide) (Nat.le_of_ble_eq_true rfl) (Or.inl rfl) rfl rfl (by decide) (by decide) (fun y31 M32 e33 hI34 => ?_)
    refine V_bipush (v := 32) dX11_stepOn_8 rfl ?_
    refine V_icmpeq (tgt := 26) dX11_stepOn_10 (by decide) (fun h35 => ?_) (fun h35 => ?_)
    · refine V_aload_n (k := 0) dX11_stepOn_26 rfl rfl ?_
      refine V_dup dX11_stepOn_27 rfl ?_
      refine V_geti dX11_stepOn_28 rfl (by decide) vf_X11_174 (by decide) ?_
      refine V_iconst (v := 1) dX11_stepOn_31 rfl ?_
      refine V_iadd dX11_stepOn_32 ?_
      refine V_puti dX11_stepOn_33 rfl (by decide) vf_X11_174 (by decide) rfl rfl ?_
      refine V_goto (tgt := 0) dX11_stepOn_36 (by decide) ?_
      refine V_sub [0] rfl ?_
      exact ih (v_si M32 130 32 ((M32.1 130 32) + 1)) hI34
    · refine V_aload_n (k := 0) dX11_stepOn_13 rfl rfl ?_
      refine V_aload_n (k := 0) dX11_stepOn_14 rfl rfl ?_
      refine V_geti dX11_stepOn_15 rfl (by decide) vf_X11_174 (by decide) ?_
      refine V_callVi (q := (RX11, TX11, 61)) (cls := 11) (st0 := []) (kc' := 0) (ks' := 0) dX11_stepOn_18 lk_X11_177 rfl (by decide) rfl rfl rfl (cX11_byteAt_ok M32 (M32.1 130 32) hI34) rfl rfl (by decide) (by decide) (Nat.le_of_ble_eq_true rfl) (Or.inl rfl) rfl rfl (by decide) (by decide) (fun y36 M37 e38 hI39 => ?_)
      refine V_bipush (v := 10) dX11_stepOn_21 rfl ?_
      refine V_icmpne (tgt := 39) dX11_stepOn_23 (by decide) (fun h40 => ?_) (fun h40 => ?_)
      · refine V_aload_n (k := 0) dX11_stepOn_39 rfl rfl ?_
        refine V_aload_n (k := 0) dX11_stepOn_40 rfl rfl ?_
        refine V_geti dX11_stepOn_41 rfl (by decide) vf_X11_174 (by decide) ?_
        refine V_puti dX11_stepOn_44 rfl (by decide) vf_X11_181 (by decide) rfl rfl ?_
        refine V_aload_n (k := 0) dX11_stepOn_47 rfl rfl ?_
        refine V_aload_n (k := 0) dX11_stepOn_48 rfl rfl ?_
        refine V_geti dX11_stepOn_49 rfl (by decide) vf_X11_174 (by decide) ?_
        refine V_callVi (q := (RX11, TX11, 61)) (cls := 11) (st0 := []) (kc' := 0) (ks' := 0) dX11_stepOn_52 lk_X11_177 rfl (by decide) rfl rfl rfl (cX11_byteAt_ok (v_si M37 130 36 (M37.1 130 32)) ((v_si M37 130 36 (M37.1 130 32)).1 130 32) hI39) rfl rfl (by decide) (by decide) (Nat.le_of_ble_eq_true rfl) (Or.inl rfl) rfl rfl (by decide) (by decide) (fun y41 M42 e43 hI44 => ?_)
        refine V_istore_n (lv' := [(1, .int y41), (0, .ref 130)]) dX11_stepOn_55 rfl (by decide) rfl ?_
        refine V_iload_n (k := 0) dX11_stepOn_56 rfl rfl ?_
        refine V_iconst (v := (-1)) dX11_stepOn_57 rfl ?_
        refine V_icmpne (tgt := 69) dX11_stepOn_58 (by decide) (fun h45 => ?_) (fun h45 => ?_)
        · refine V_iload_n (k := 0) dX11_stepOn_69 rfl rfl ?_
          refine V_callSi (st0 := []) (kc' := 0) (ks' := 0) dX11_stepOn_70 lk_X11_187 rfl (cX11_isLetter_ok M42 y41 hI44) rfl rfl (by decide) (by decide) (Nat.le_of_ble_eq_true rfl) (Or.inl rfl) rfl rfl (by decide) (by decide) (fun y46 M47 e48 hI49 => ?_)
          refine V_ifeq (tgt := 111) dX11_stepOn_73 (by decide) (fun h50 => ?_) (fun h50 => ?_)
          · refine V_iload_n (k := 0) dX11_stepOn_111 rfl rfl ?_
            refine V_callSi (st0 := []) (kc' := 0) (ks' := 0) dX11_stepOn_112 lk_X11_190 rfl (cX11_isDigit_ok M47 y41 hI49) rfl rfl (by decide) (by decide) (Nat.le_of_ble_eq_true rfl) (Or.inl rfl) rfl rfl (by decide) (by decide) (fun y51 M52 e53 hI54 => ?_)
            refine V_ifeq (tgt := 186) dX11_stepOn_115 (by decide) (fun h55 => ?_) (fun h55 => ?_)
            · refine V_aload_n (k := 1) dX11_stepOn_186 rfl rfl ?_
              refine V_dup dX11_stepOn_187 rfl ?_
              refine V_geti dX11_stepOn_188 rfl (by decide) vf_X11_174 (by decide) ?_
              refine V_iconst (v := 1) dX11_stepOn_191 rfl ?_
              refine V_iadd dX11_stepOn_192 ?_
              refine V_puti dX11_stepOn_193 rfl (by decide) vf_X11_174 (by decide) rfl rfl ?_
              refine V_aload_n (k := 1) dX11_stepOn_196 rfl rfl ?_
              refine V_iload_n (k := 0) dX11_stepOn_197 rfl rfl ?_
              refine V_bipush (v := 59) dX11_stepOn_198 rfl ?_
              refine V_icmpne (tgt := 207) dX11_stepOn_200 (by decide) (fun h56 => ?_) (fun h56 => ?_)
              · refine V_iconst (v := 4) dX11_stepOn_207 rfl ?_
                refine V_puti dX11_stepOn_208 rfl (by decide) vf_X11_184 (by decide) rfl rfl ?_
                refine V_aload_n (k := 1) dX11_stepOn_211 rfl rfl ?_
                refine V_aload_n (k := 1) dX11_stepOn_212 rfl rfl ?_
                refine V_geti dX11_stepOn_213 rfl (by decide) vf_X11_174 (by decide) ?_
                refine V_puti dX11_stepOn_216 rfl (by decide) vf_X11_203 (by decide) rfl rfl ?_
                exact V_ret (fun _ => hI54) (Or.inl ⟨rfl, rfl⟩) dX11_stepOn_219 (fun ty x h1 h2 => by cases h1) rfl
              · refine V_iconst (v := 3) dX11_stepOn_203 rfl ?_
                refine V_goto (tgt := 208) dX11_stepOn_204 (by decide) ?_
                refine V_puti dX11_stepOn_208 rfl (by decide) vf_X11_184 (by decide) rfl rfl ?_
                refine V_aload_n (k := 1) dX11_stepOn_211 rfl rfl ?_
                refine V_aload_n (k := 1) dX11_stepOn_212 rfl rfl ?_
                refine V_geti dX11_stepOn_213 rfl (by decide) vf_X11_174 (by decide) ?_
                refine V_puti dX11_stepOn_216 rfl (by decide) vf_X11_203 (by decide) rfl rfl ?_
                exact V_ret (fun _ => hI54) (Or.inl ⟨rfl, rfl⟩) dX11_stepOn_219 (fun ty x h1 h2 => by cases h1) rfl
            · refine V_aload_n (k := 1) dX11_stepOn_118 rfl rfl ?_
              refine V_iconst (v := 0) dX11_stepOn_119 rfl ?_
              refine V_puti dX11_stepOn_120 rfl (by decide) vf_X11_193 (by decide) rfl rfl ?_
              refine V_sub [1] rfl ?_
              exact vX11_stepOn_123 FU (v_si M52 130 35 0) hI54
          · refine V_sub [1] rfl ?_
            exact vX11_stepOn_76 FU M47 hI49
        · refine V_aload_n (k := 1) dX11_stepOn_61 rfl rfl ?_
          refine V_iconst (v := 0) dX11_stepOn_62 rfl ?_
          refine V_puti dX11_stepOn_63 rfl (by decide) vf_X11_184 (by decide) rfl rfl ?_
          refine V_goto (tgt := 211) dX11_stepOn_66 (by decide) ?_
          refine V_aload_n (k := 1) dX11_stepOn_211 rfl rfl ?_
          refine V_aload_n (k := 1) dX11_stepOn_212 rfl rfl ?_
          refine V_geti dX11_stepOn_213 rfl (by decide) vf_X11_174 (by decide) ?_
          refine V_puti dX11_stepOn_216 rfl (by decide) vf_X11_203 (by decide) rfl rfl ?_
          exact V_ret (fun _ => hI44) (Or.inl ⟨rfl, rfl⟩) dX11_stepOn_219 (fun ty x h1 h2 => by cases h1) rfl
      · refine V_aload_n (k := 0) dX11_stepOn_26 rfl rfl ?_
        refine V_dup dX11_stepOn_27 rfl ?_
        refine V_geti dX11_stepOn_28 rfl (by decide) vf_X11_174 (by decide) ?_
        refine V_iconst (v := 1) dX11_stepOn_31 rfl ?_
        refine V_iadd dX11_stepOn_32 ?_
        refine V_puti dX11_stepOn_33 rfl (by decide) vf_X11_174 (by decide) rfl rfl ?_
        refine V_goto (tgt := 0) dX11_stepOn_36 (by decide) ?_
        refine V_sub [0] rfl ?_
        exact ih (v_si M37 130 32 ((M37.1 130 32) + 1)) hI39
def fX11_stepOn (M : vM) : Option (vR × vM) := fX11_stepOn_0 FU M
set_option maxRecDepth 20000 in
set_option maxHeartbeats 2000000 in
theorem cX11_stepOn_ok {l : Launch} {D : va_G} {dA : Nat → ClassId} (M : vM) (hI : v_WT M.2.2) : Ct l D dA sX11_stepOn false 175 2 0 0 175 [.ref 130] M (fX11_stepOn M) := by
  refine Ct_of (lv := [(0, .ref 130)]) (by decide +kernel) rfl (Nat.le_of_ble_eq_true rfl) rfl (fun h => by cases h) ?_
  refine V_sub [0] rfl ?_
  exact vX11_stepOn_0 FU M hI
def fX11_person_41 (M : vM) : Option (vR × vM) := if v_in 3 4 = true then if v_in 3 4 = true then rI ((-1)) (v_si M 156 (Int32.toNatClampNeg 3) ((M.1 156 (Int32.toNatClampNeg 3)) + 1)) else none else none
set_option maxRecDepth 20000 in
set_option maxHeartbeats 2000000 in
theorem vX11_person_41 {l : Launch} {D : va_G} {dA : Nat → ClassId} : ∀ (M : vM), v_WT M.2.2 → V l D dA sX11_person false 175 3 0 0 41 [(0, .ref 130)] [] 175 M (fX11_person_41 M) := by
  intro M hI
  refine V_aload_n (k := 0) dX11_person_41 rfl rfl ?_
  refine V_getr (k := 156) dX11_person_42 rfl (by decide) vf_X11_95 (by decide) (v_fin hI 143 rfl) ?_
  refine V_iconst (v := 3) dX11_person_45 rfl ?_
  refine V_dup2 dX11_person_46 rfl rfl ?_
  refine V_iald dX11_person_47 rfl (by decide) (fun h12 => ?_)
  refine V_iconst (v := 1) dX11_person_48 rfl ?_
  refine V_iadd dX11_person_49 ?_
  refine V_iast dX11_person_50 rfl (by decide) (fun h13 => ?_)
  refine V_iconst (v := (-1)) dX11_person_51 rfl ?_
  exact V_ret (fun _ => hI) (Or.inr (Or.inl ⟨rfl, _, rfl⟩)) dX11_person_52 (fun ty x h1 h2 => by cases h1; rfl) rfl
def fX11_person (M : vM) (x1 : Int32) (x2 : Int32) : Option (vR × vM) := bi (fX11_isWork (v_si M 130 1 0) x1) fun y14 M15 => if y14 = 0 then bi (fX11_fail M15 1) fun y31 M32 => rI y31 M32 else if v_in x1 6 = true then if (M15.1 153 (Int32.toNatClampNeg x1)) = 12 then fX11_person_41 M15 else bi (fX11_isIn M15 x2 0 9999) fun y21 M22 => if y21 = 0 then fX11_person_41 M22 else if v_in x1 6 = true then if v_in ((12 * x1) + (M22.1 153 (Int32.toNatClampNeg x1))) 72 = true then if v_in x1 6 = true then if v_in x1 6 = true then if v_in x1 6 = true then rI ((v_si (v_si M22 154 (Int32.toNatClampNeg ((12 * x1) + (M22.1 153 (Int32.toNatClampNeg x1)))) x2) 153 (Int32.toNatClampNeg x1) (((v_si M22 154 (Int32.toNatClampNeg ((12 * x1) + (M22.1 153 (Int32.toNatClampNeg x1)))) x2).1 153 (Int32.toNatClampNeg x1)) + 1)).1 153 (Int32.toNatClampNeg x1)) (v_si (v_si M22 154 (Int32.toNatClampNeg ((12 * x1) + (M22.1 153 (Int32.toNatClampNeg x1)))) x2) 153 (Int32.toNatClampNeg x1) (((v_si M22 154 (Int32.toNatClampNeg ((12 * x1) + (M22.1 153 (Int32.toNatClampNeg x1)))) x2).1 153 (Int32.toNatClampNeg x1)) + 1)) else none else none else none else none else none else none
set_option maxRecDepth 20000 in
set_option maxHeartbeats 2000000 in
theorem cX11_person_ok {l : Launch} {D : va_G} {dA : Nat → ClassId} (M : vM) (x1 : Int32) (x2 : Int32) (hI : v_WT M.2.2) : Ct l D dA sX11_person false 175 3 0 0 175 [.ref 130, .int x1, .int x2] M (fX11_person M x1 x2) := by
  refine Ct_of (lv := [(0, .ref 130), (1, .int x1), (2, .int x2)]) (by decide +kernel) rfl (Nat.le_of_ble_eq_true rfl) rfl (fun h => by cases h) ?_
  refine V_aload_n (k := 0) dX11_person_0 rfl rfl ?_
  refine V_iconst (v := 0) dX11_person_1 rfl ?_
  refine V_puti dX11_person_2 rfl (by decide) vf_X11_154 (by decide) rfl rfl ?_
  refine V_aload_n (k := 0) dX11_person_5 rfl rfl ?_
  refine V_iload_n (k := 1) dX11_person_6 rfl rfl ?_
  refine V_callVi (q := (RX11, TX11, 61)) (cls := 11) (st0 := []) (kc' := 0) (ks' := 0) dX11_person_7 lk_X11_164 rfl (by decide) rfl rfl rfl (cX11_isWork_ok (v_si M 130 1 0) x1 hI) rfl rfl (by decide) (by decide) (Nat.le_of_ble_eq_true rfl) (Or.inl rfl) rfl rfl (by decide) (by decide) (fun y14 M15 e16 hI17 => ?_)
  refine V_ifne (tgt := 19) dX11_person_10 (by decide) (fun h18 => ?_) (fun h18 => ?_)
  · refine V_aload_n (k := 0) dX11_person_19 rfl rfl ?_
    refine V_getr (k := 153) dX11_person_20 rfl (by decide) vf_X11_86 (by decide) (v_fin hI17 140 rfl) ?_
    refine V_iload_n (k := 1) dX11_person_23 rfl rfl ?_
    refine V_iald dX11_person_24 rfl (by decide) (fun h19 => ?_)
    refine V_bipush (v := 12) dX11_person_25 rfl ?_
    refine V_icmpeq (tgt := 41) dX11_person_27 (by decide) (fun h20 => ?_) (fun h20 => ?_)
    · refine V_sub [0] rfl ?_
      exact vX11_person_41 M15 hI17
    · refine V_iload_n (k := 2) dX11_person_30 rfl rfl ?_
      refine V_iconst (v := 0) dX11_person_31 rfl ?_
      refine V_sipush (v := 9999) dX11_person_32 rfl ?_
      refine V_callSi (st0 := []) (kc' := 0) (ks' := 0) dX11_person_35 lk_X11_160 rfl (cX11_isIn_ok M15 x2 0 9999 hI17) rfl rfl (by decide) (by decide) (Nat.le_of_ble_eq_true rfl) (Or.inl rfl) rfl rfl (by decide) (by decide) (fun y21 M22 e23 hI24 => ?_)
      refine V_ifne (tgt := 53) dX11_person_38 (by decide) (fun h25 => ?_) (fun h25 => ?_)
      · refine V_aload_n (k := 0) dX11_person_53 rfl rfl ?_
        refine V_getr (k := 154) dX11_person_54 rfl (by decide) vf_X11_89 (by decide) (v_fin hI24 141 rfl) ?_
        refine V_bipush (v := 12) dX11_person_57 rfl ?_
        refine V_iload_n (k := 1) dX11_person_59 rfl rfl ?_
        refine V_imul dX11_person_60 ?_
        refine V_aload_n (k := 0) dX11_person_61 rfl rfl ?_
        refine V_getr (k := 153) dX11_person_62 rfl (by decide) vf_X11_86 (by decide) (v_fin hI24 140 rfl) ?_
        refine V_iload_n (k := 1) dX11_person_65 rfl rfl ?_
        refine V_iald dX11_person_66 rfl (by decide) (fun h26 => ?_)
        refine V_iadd dX11_person_67 ?_
        refine V_iload_n (k := 2) dX11_person_68 rfl rfl ?_
        refine V_iast dX11_person_69 rfl (by decide) (fun h27 => ?_)
        refine V_aload_n (k := 0) dX11_person_70 rfl rfl ?_
        refine V_getr (k := 153) dX11_person_71 rfl (by decide) vf_X11_86 (by decide) (v_fin hI24 140 rfl) ?_
        refine V_iload_n (k := 1) dX11_person_74 rfl rfl ?_
        refine V_dup2 dX11_person_75 rfl rfl ?_
        refine V_iald dX11_person_76 rfl (by decide) (fun h28 => ?_)
        refine V_iconst (v := 1) dX11_person_77 rfl ?_
        refine V_iadd dX11_person_78 ?_
        refine V_iast dX11_person_79 rfl (by decide) (fun h29 => ?_)
        refine V_aload_n (k := 0) dX11_person_80 rfl rfl ?_
        refine V_getr (k := 153) dX11_person_81 rfl (by decide) vf_X11_86 (by decide) (v_fin hI24 140 rfl) ?_
        refine V_iload_n (k := 1) dX11_person_84 rfl rfl ?_
        refine V_iald dX11_person_85 rfl (by decide) (fun h30 => ?_)
        exact V_ret (fun _ => hI24) (Or.inr (Or.inl ⟨rfl, _, rfl⟩)) dX11_person_86 (fun ty x h1 h2 => by cases h1; rfl) rfl
      · refine V_sub [0] rfl ?_
        exact vX11_person_41 M22 hI24
  · refine V_aload_n (k := 0) dX11_person_13 rfl rfl ?_
    refine V_iconst (v := 1) dX11_person_14 rfl ?_
    refine V_callVi (q := (RX11, TX11, 61)) (cls := 11) (st0 := []) (kc' := 0) (ks' := 0) dX11_person_15 lk_X11_287 rfl (by decide) rfl rfl rfl (cX11_fail_ok M15 1 hI17) rfl rfl (by decide) (by decide) (Nat.le_of_ble_eq_true rfl) (Or.inl rfl) rfl rfl (by decide) (by decide) (fun y31 M32 e33 hI34 => ?_)
    exact V_ret (fun _ => hI34) (Or.inr (Or.inl ⟨rfl, _, rfl⟩)) dX11_person_18 (fun ty x h1 h2 => by cases h1; rfl) rfl
def fX11_wrong (M : vM) (x1 : Int32) : Option (vR × vM) := if (M.1 130 38) = 0 then rV (v_si (v_si M 130 38 x1) 130 39 ((v_si M 130 38 x1).1 130 36)) else rV M
set_option maxRecDepth 20000 in
set_option maxHeartbeats 2000000 in
theorem cX11_wrong_ok {l : Launch} {D : va_G} {dA : Nat → ClassId} (M : vM) (x1 : Int32) (hI : v_WT M.2.2) : Ct l D dA sX11_wrong false 175 1 0 0 175 [.ref 130, .int x1] M (fX11_wrong M x1) := by
  refine Ct_of (lv := [(0, .ref 130), (1, .int x1)]) (by decide +kernel) rfl (Nat.le_of_ble_eq_true rfl) rfl (fun h => by cases h) ?_
  refine V_aload_n (k := 0) dX11_wrong_0 rfl rfl ?_
  refine V_geti dX11_wrong_1 rfl (by decide) vf_X11_206 (by decide) ?_
  refine V_ifeq (tgt := 8) dX11_wrong_4 (by decide) (fun h2 => ?_) (fun h2 => ?_)
  · refine V_aload_n (k := 0) dX11_wrong_8 rfl rfl ?_
    refine V_iload_n (k := 1) dX11_wrong_9 rfl rfl ?_
    refine V_puti dX11_wrong_10 rfl (by decide) vf_X11_206 (by decide) rfl rfl ?_
    refine V_aload_n (k := 0) dX11_wrong_13 rfl rfl ?_
    refine V_aload_n (k := 0) dX11_wrong_14 rfl rfl ?_
    refine V_geti dX11_wrong_15 rfl (by decide) vf_X11_181 (by decide) ?_
    refine V_puti dX11_wrong_18 rfl (by decide) vf_X11_209 (by decide) rfl rfl ?_
    exact V_ret (fun _ => hI) (Or.inl ⟨rfl, rfl⟩) dX11_wrong_21 (fun ty x h1 h2 => by cases h1) rfl
  · exact V_ret (fun _ => hI) (Or.inl ⟨rfl, rfl⟩) dX11_wrong_7 (fun ty x h1 h2 => by cases h1) rfl
def fX11_readNumber_54 (k59 : vM → Option (vR × vM)) (M : vM) : Option (vR × vM) := bv (fX11_wrong M 2) fun M7 => k59 M7
set_option maxRecDepth 20000 in
set_option maxHeartbeats 2000000 in
theorem vX11_readNumber_54 {l : Launch} {D : va_G} {dA : Nat → ClassId} {k59 : vM → Option (vR × vM)} (hk59 : ∀ (M : vM), v_WT M.2.2 → V l D dA sX11_readNumber false 175 3 0 0 59 [(0, .ref 130)] [] 175 M (k59 M)) : ∀ (M : vM), v_WT M.2.2 → V l D dA sX11_readNumber false 175 3 0 0 54 [(0, .ref 130)] [] 175 M (fX11_readNumber_54 k59 M) := by
  intro M hI
  refine V_aload_n (k := 0) dX11_readNumber_54 rfl rfl ?_
  refine V_iconst (v := 2) dX11_readNumber_55 rfl ?_
  refine V_callVv (q := (RX11, TX11, 61)) (cls := 11) (st0 := []) (kc' := 0) (ks' := 0) dX11_readNumber_56 lk_X11_226 rfl (by decide) rfl rfl rfl (cX11_wrong_ok M 2 hI) rfl rfl (by decide) (by decide) (Nat.le_of_ble_eq_true rfl) (Or.inl rfl) rfl rfl (by decide) (by decide) (fun  M7 e8 hI9 => ?_)
  refine V_sub [0] rfl ?_
  exact hk59 M7 hI9
def fX11_readNumber_59 (M : vM) : Option (vR × vM) := if (M.1 130 38) = 0 then bv (fX11_stepOn M ) fun M11 => rI (M.1 130 35) M11 else rI (M.1 130 35) M
set_option maxRecDepth 20000 in
set_option maxHeartbeats 2000000 in
theorem vX11_readNumber_59 {l : Launch} {D : va_G} {dA : Nat → ClassId} : ∀ (M : vM), v_WT M.2.2 → V l D dA sX11_readNumber false 175 3 0 0 59 [(0, .ref 130)] [] 175 M (fX11_readNumber_59 M) := by
  intro M hI
  refine V_aload_n (k := 0) dX11_readNumber_59 rfl rfl ?_
  refine V_geti dX11_readNumber_60 rfl (by decide) vf_X11_193 (by decide) ?_
  refine V_istore_n (lv' := [(3, .int (M.1 130 35)), (0, .ref 130)]) dX11_readNumber_63 rfl (by decide) rfl ?_
  refine V_aload_n (k := 1) dX11_readNumber_64 rfl rfl ?_
  refine V_geti dX11_readNumber_65 rfl (by decide) vf_X11_206 (by decide) ?_
  refine V_ifne (tgt := 75) dX11_readNumber_68 (by decide) (fun h10 => ?_) (fun h10 => ?_)
  · refine V_iload_n (k := 0) dX11_readNumber_75 rfl rfl ?_
    exact V_ret (fun _ => hI) (Or.inr (Or.inl ⟨rfl, _, rfl⟩)) dX11_readNumber_76 (fun ty x h1 h2 => by cases h1; rfl) rfl
  · refine V_aload_n (k := 1) dX11_readNumber_71 rfl rfl ?_
    refine V_callVv (q := (RX11, TX11, 61)) (cls := 11) (st0 := []) (kc' := 0) (ks' := 0) dX11_readNumber_72 lk_X11_223 rfl (by decide) rfl rfl rfl (cX11_stepOn_ok M  hI) rfl rfl (by decide) (by decide) (Nat.le_of_ble_eq_true rfl) (Or.inl rfl) rfl rfl (by decide) (by decide) (fun  M11 e12 hI13 => ?_)
    refine V_iload_n (k := 0) dX11_readNumber_75 rfl rfl ?_
    exact V_ret (fun _ => hI13) (Or.inr (Or.inl ⟨rfl, _, rfl⟩)) dX11_readNumber_76 (fun ty x h1 h2 => by cases h1; rfl) rfl
def fX11_readNumber (M : vM) (x1 : Int32) (x2 : Int32) : Option (vR × vM) := if (M.1 130 38) = 0 then if (M.1 130 34) = 2 then if 4 < ((M.1 130 37) - (M.1 130 36)) then fX11_readNumber_54 (fX11_readNumber_59) M else if (M.1 130 35) < x1 then fX11_readNumber_54 (fX11_readNumber_59) M else if (M.1 130 35) ≤ x2 then fX11_readNumber_59 M else fX11_readNumber_54 (fX11_readNumber_59) M else bv (fX11_wrong M 1) fun M19 => fX11_readNumber_59 M19 else rI 0 M
set_option maxRecDepth 20000 in
set_option maxHeartbeats 2000000 in
theorem cX11_readNumber_ok {l : Launch} {D : va_G} {dA : Nat → ClassId} (M : vM) (x1 : Int32) (x2 : Int32) (hI : v_WT M.2.2) : Ct l D dA sX11_readNumber false 175 3 0 0 175 [.ref 130, .int x1, .int x2] M (fX11_readNumber M x1 x2) := by
  refine Ct_of (lv := [(0, .ref 130), (1, .int x1), (2, .int x2)]) (by decide +kernel) rfl (Nat.le_of_ble_eq_true rfl) rfl (fun h => by cases h) ?_
  refine V_aload_n (k := 0) dX11_readNumber_0 rfl rfl ?_
  refine V_geti dX11_readNumber_1 rfl (by decide) vf_X11_206 (by decide) ?_
  refine V_ifeq (tgt := 9) dX11_readNumber_4 (by decide) (fun h14 => ?_) (fun h14 => ?_)
  · refine V_aload_n (k := 0) dX11_readNumber_9 rfl rfl ?_
    refine V_geti dX11_readNumber_10 rfl (by decide) vf_X11_184 (by decide) ?_
    refine V_iconst (v := 2) dX11_readNumber_13 rfl ?_
    refine V_icmpeq (tgt := 25) dX11_readNumber_14 (by decide) (fun h15 => ?_) (fun h15 => ?_)
    · refine V_aload_n (k := 0) dX11_readNumber_25 rfl rfl ?_
      refine V_geti dX11_readNumber_26 rfl (by decide) vf_X11_203 (by decide) ?_
      refine V_aload_n (k := 0) dX11_readNumber_29 rfl rfl ?_
      refine V_geti dX11_readNumber_30 rfl (by decide) vf_X11_181 (by decide) ?_
      refine V_isub dX11_readNumber_33 ?_
      refine V_iconst (v := 4) dX11_readNumber_34 rfl ?_
      refine V_icmpgt (tgt := 54) dX11_readNumber_35 (by decide) (fun h16 => ?_) (fun h16 => ?_)
      · refine V_sub [0] rfl ?_
        exact vX11_readNumber_54 (vX11_readNumber_59) M hI
      · refine V_aload_n (k := 0) dX11_readNumber_38 rfl rfl ?_
        refine V_geti dX11_readNumber_39 rfl (by decide) vf_X11_193 (by decide) ?_
        refine V_iload_n (k := 1) dX11_readNumber_42 rfl rfl ?_
        refine V_icmplt (tgt := 54) dX11_readNumber_43 (by decide) (fun h17 => ?_) (fun h17 => ?_)
        · refine V_sub [0] rfl ?_
          exact vX11_readNumber_54 (vX11_readNumber_59) M hI
        · refine V_aload_n (k := 0) dX11_readNumber_46 rfl rfl ?_
          refine V_geti dX11_readNumber_47 rfl (by decide) vf_X11_193 (by decide) ?_
          refine V_iload_n (k := 2) dX11_readNumber_50 rfl rfl ?_
          refine V_icmple (tgt := 59) dX11_readNumber_51 (by decide) (fun h18 => ?_) (fun h18 => ?_)
          · refine V_sub [0] rfl ?_
            exact vX11_readNumber_59 M hI
          · refine V_sub [0] rfl ?_
            exact vX11_readNumber_54 (vX11_readNumber_59) M hI
    · refine V_aload_n (k := 0) dX11_readNumber_17 rfl rfl ?_
      refine V_iconst (v := 1) dX11_readNumber_18 rfl ?_
      refine V_callVv (q := (RX11, TX11, 61)) (cls := 11) (st0 := []) (kc' := 0) (ks' := 0) dX11_readNumber_19 lk_X11_226 rfl (by decide) rfl rfl rfl (cX11_wrong_ok M 1 hI) rfl rfl (by decide) (by decide) (Nat.le_of_ble_eq_true rfl) (Or.inl rfl) rfl rfl (by decide) (by decide) (fun  M19 e20 hI21 => ?_)
      refine V_goto (tgt := 59) dX11_readNumber_22 (by decide) ?_
      refine V_sub [0] rfl ?_
      exact vX11_readNumber_59 M19 hI21
  · refine V_iconst (v := 0) dX11_readNumber_7 rfl ?_
    exact V_ret (fun _ => hI) (Or.inr (Or.inl ⟨rfl, _, rfl⟩)) dX11_readNumber_8 (fun ty x h1 h2 => by cases h1; rfl) rfl
def fX11_semi_20 (M : vM) : Option (vR × vM) := if (M.1 130 38) = 0 then bv (fX11_stepOn M ) fun M5 => rV M5 else rV M
set_option maxRecDepth 20000 in
set_option maxHeartbeats 2000000 in
theorem vX11_semi_20 {l : Launch} {D : va_G} {dA : Nat → ClassId} : ∀ (M : vM), v_WT M.2.2 → V l D dA sX11_semi false 175 3 0 0 20 [(0, .ref 130)] [] 175 M (fX11_semi_20 M) := by
  intro M hI
  refine V_aload_n (k := 0) dX11_semi_20 rfl rfl ?_
  refine V_geti dX11_semi_21 rfl (by decide) vf_X11_206 (by decide) ?_
  refine V_ifne (tgt := 31) dX11_semi_24 (by decide) (fun h4 => ?_) (fun h4 => ?_)
  · exact V_ret (fun _ => hI) (Or.inl ⟨rfl, rfl⟩) dX11_semi_31 (fun ty x h1 h2 => by cases h1) rfl
  · refine V_aload_n (k := 0) dX11_semi_27 rfl rfl ?_
    refine V_callVv (q := (RX11, TX11, 61)) (cls := 11) (st0 := []) (kc' := 0) (ks' := 0) dX11_semi_28 lk_X11_223 rfl (by decide) rfl rfl rfl (cX11_stepOn_ok M  hI) rfl rfl (by decide) (by decide) (Nat.le_of_ble_eq_true rfl) (Or.inl rfl) rfl rfl (by decide) (by decide) (fun  M5 e6 hI7 => ?_)
    exact V_ret (fun _ => hI7) (Or.inl ⟨rfl, rfl⟩) dX11_semi_31 (fun ty x h1 h2 => by cases h1) rfl
def fX11_semi (M : vM) : Option (vR × vM) := if (M.1 130 38) = 0 then if (M.1 130 34) = 3 then fX11_semi_20 M else bv (fX11_wrong M 1) fun M10 => fX11_semi_20 M10 else fX11_semi_20 M
set_option maxRecDepth 20000 in
set_option maxHeartbeats 2000000 in
theorem cX11_semi_ok {l : Launch} {D : va_G} {dA : Nat → ClassId} (M : vM) (hI : v_WT M.2.2) : Ct l D dA sX11_semi false 175 3 0 0 175 [.ref 130] M (fX11_semi M) := by
  refine Ct_of (lv := [(0, .ref 130)]) (by decide +kernel) rfl (Nat.le_of_ble_eq_true rfl) rfl (fun h => by cases h) ?_
  refine V_aload_n (k := 0) dX11_semi_0 rfl rfl ?_
  refine V_geti dX11_semi_1 rfl (by decide) vf_X11_206 (by decide) ?_
  refine V_ifne (tgt := 20) dX11_semi_4 (by decide) (fun h8 => ?_) (fun h8 => ?_)
  · refine V_sub [0] rfl ?_
    exact vX11_semi_20 M hI
  · refine V_aload_n (k := 0) dX11_semi_7 rfl rfl ?_
    refine V_geti dX11_semi_8 rfl (by decide) vf_X11_184 (by decide) ?_
    refine V_iconst (v := 3) dX11_semi_11 rfl ?_
    refine V_icmpeq (tgt := 20) dX11_semi_12 (by decide) (fun h9 => ?_) (fun h9 => ?_)
    · refine V_sub [0] rfl ?_
      exact vX11_semi_20 M hI
    · refine V_aload_n (k := 0) dX11_semi_15 rfl rfl ?_
      refine V_iconst (v := 1) dX11_semi_16 rfl ?_
      refine V_callVv (q := (RX11, TX11, 61)) (cls := 11) (st0 := []) (kc' := 0) (ks' := 0) dX11_semi_17 lk_X11_226 rfl (by decide) rfl rfl rfl (cX11_wrong_ok M 1 hI) rfl rfl (by decide) (by decide) (Nat.le_of_ble_eq_true rfl) (Or.inl rfl) rfl rfl (by decide) (by decide) (fun  M10 e11 hI12 => ?_)
      refine V_sub [0] rfl ?_
      exact vX11_semi_20 M10 hI12
def fX11_readOne_90 (k95 : vM → Option (vR × vM)) (M : vM) : Option (vR × vM) := bv (fX11_wrong M 4) fun M10 => k95 M10
set_option maxRecDepth 20000 in
set_option maxHeartbeats 2000000 in
theorem vX11_readOne_90 {l : Launch} {D : va_G} {dA : Nat → ClassId} {k95 : vM → Option (vR × vM)} (hk95 : ∀ (M : vM), v_WT M.2.2 → V l D dA sX11_readOne false 175 3 0 0 95 [(0, .ref 130)] [] 175 M (k95 M)) : ∀ (M : vM), v_WT M.2.2 → V l D dA sX11_readOne false 175 3 0 0 90 [(0, .ref 130)] [] 175 M (fX11_readOne_90 k95 M) := by
  intro M hI
  refine V_aload_n (k := 0) dX11_readOne_90 rfl rfl ?_
  refine V_iconst (v := 4) dX11_readOne_91 rfl ?_
  refine V_callVv (q := (RX11, TX11, 61)) (cls := 11) (st0 := []) (kc' := 0) (ks' := 0) dX11_readOne_92 lk_X11_226 rfl (by decide) rfl rfl rfl (cX11_wrong_ok M 4 hI) rfl rfl (by decide) (by decide) (Nat.le_of_ble_eq_true rfl) (Or.inl rfl) rfl rfl (by decide) (by decide) (fun  M10 e11 hI12 => ?_)
  refine V_sub [0] rfl ?_
  exact hk95 M10 hI12
def fX11_readOne_95 (M : vM) : Option (vR × vM) := if (M.1 130 38) = 0 then bv (fX11_stepOn M ) fun M14 => rI (M.1 130 35) M14 else rI (M.1 130 35) M
set_option maxRecDepth 20000 in
set_option maxHeartbeats 2000000 in
theorem vX11_readOne_95 {l : Launch} {D : va_G} {dA : Nat → ClassId} : ∀ (M : vM), v_WT M.2.2 → V l D dA sX11_readOne false 175 3 0 0 95 [(0, .ref 130)] [] 175 M (fX11_readOne_95 M) := by
  intro M hI
  refine V_aload_n (k := 0) dX11_readOne_95 rfl rfl ?_
  refine V_geti dX11_readOne_96 rfl (by decide) vf_X11_193 (by decide) ?_
  refine V_istore (lv' := [(4, .int (M.1 130 35)), (0, .ref 130)]) dX11_readOne_99 (by decide) rfl ?_
  refine V_aload_n (k := 1) dX11_readOne_101 rfl rfl ?_
  refine V_geti dX11_readOne_102 rfl (by decide) vf_X11_206 (by decide) ?_
  refine V_ifne (tgt := 112) dX11_readOne_105 (by decide) (fun h13 => ?_) (fun h13 => ?_)
  · refine V_iload (k := 0) dX11_readOne_112 rfl ?_
    exact V_ret (fun _ => hI) (Or.inr (Or.inl ⟨rfl, _, rfl⟩)) dX11_readOne_114 (fun ty x h1 h2 => by cases h1; rfl) rfl
  · refine V_aload_n (k := 1) dX11_readOne_108 rfl rfl ?_
    refine V_callVv (q := (RX11, TX11, 61)) (cls := 11) (st0 := []) (kc' := 0) (ks' := 0) dX11_readOne_109 lk_X11_223 rfl (by decide) rfl rfl rfl (cX11_stepOn_ok M  hI) rfl rfl (by decide) (by decide) (Nat.le_of_ble_eq_true rfl) (Or.inl rfl) rfl rfl (by decide) (by decide) (fun  M14 e15 hI16 => ?_)
    refine V_iload (k := 0) dX11_readOne_112 rfl ?_
    exact V_ret (fun _ => hI16) (Or.inr (Or.inl ⟨rfl, _, rfl⟩)) dX11_readOne_114 (fun ty x h1 h2 => by cases h1; rfl) rfl
def fX11_readOne (M : vM) (x1 : Int32) (x2 : Int32) (x3 : Int32) : Option (vR × vM) := if (M.1 130 38) = 0 then if (M.1 130 34) = 2 then if ((M.1 130 37) - (M.1 130 36)) ≤ 4 then if (M.1 130 35) < x1 then if x2 = ((-1)) then fX11_readOne_95 M else if x3 = 0 then if (M.1 130 35) = x2 then fX11_readOne_90 (fX11_readOne_95) M else fX11_readOne_95 M else if x2 < (M.1 130 35) then fX11_readOne_95 M else fX11_readOne_90 (fX11_readOne_95) M else bv (fX11_wrong M 3) fun M25 => fX11_readOne_95 M25 else bv (fX11_wrong M 2) fun M28 => fX11_readOne_95 M28 else bv (fX11_wrong M 1) fun M31 => fX11_readOne_95 M31 else rI 0 M
set_option maxRecDepth 20000 in
set_option maxHeartbeats 2000000 in
theorem cX11_readOne_ok {l : Launch} {D : va_G} {dA : Nat → ClassId} (M : vM) (x1 : Int32) (x2 : Int32) (x3 : Int32) (hI : v_WT M.2.2) : Ct l D dA sX11_readOne false 175 3 0 0 175 [.ref 130, .int x1, .int x2, .int x3] M (fX11_readOne M x1 x2 x3) := by
  refine Ct_of (lv := [(0, .ref 130), (1, .int x1), (2, .int x2), (3, .int x3)]) (by decide +kernel) rfl (Nat.le_of_ble_eq_true rfl) rfl (fun h => by cases h) ?_
  refine V_aload_n (k := 0) dX11_readOne_0 rfl rfl ?_
  refine V_geti dX11_readOne_1 rfl (by decide) vf_X11_206 (by decide) ?_
  refine V_ifeq (tgt := 9) dX11_readOne_4 (by decide) (fun h17 => ?_) (fun h17 => ?_)
  · refine V_aload_n (k := 0) dX11_readOne_9 rfl rfl ?_
    refine V_geti dX11_readOne_10 rfl (by decide) vf_X11_184 (by decide) ?_
    refine V_iconst (v := 2) dX11_readOne_13 rfl ?_
    refine V_icmpeq (tgt := 25) dX11_readOne_14 (by decide) (fun h18 => ?_) (fun h18 => ?_)
    · refine V_aload_n (k := 0) dX11_readOne_25 rfl rfl ?_
      refine V_geti dX11_readOne_26 rfl (by decide) vf_X11_203 (by decide) ?_
      refine V_aload_n (k := 0) dX11_readOne_29 rfl rfl ?_
      refine V_geti dX11_readOne_30 rfl (by decide) vf_X11_181 (by decide) ?_
      refine V_isub dX11_readOne_33 ?_
      refine V_iconst (v := 4) dX11_readOne_34 rfl ?_
      refine V_icmple (tgt := 46) dX11_readOne_35 (by decide) (fun h19 => ?_) (fun h19 => ?_)
      · refine V_aload_n (k := 0) dX11_readOne_46 rfl rfl ?_
        refine V_geti dX11_readOne_47 rfl (by decide) vf_X11_193 (by decide) ?_
        refine V_iload_n (k := 1) dX11_readOne_50 rfl rfl ?_
        refine V_icmplt (tgt := 62) dX11_readOne_51 (by decide) (fun h20 => ?_) (fun h20 => ?_)
        · refine V_iload_n (k := 2) dX11_readOne_62 rfl rfl ?_
          refine V_iconst (v := (-1)) dX11_readOne_63 rfl ?_
          refine V_icmpeq (tgt := 95) dX11_readOne_64 (by decide) (fun h21 => ?_) (fun h21 => ?_)
          · refine V_sub [0] rfl ?_
            exact vX11_readOne_95 M hI
          · refine V_iload_n (k := 3) dX11_readOne_67 rfl rfl ?_
            refine V_ifeq (tgt := 82) dX11_readOne_68 (by decide) (fun h22 => ?_) (fun h22 => ?_)
            · refine V_aload_n (k := 0) dX11_readOne_82 rfl rfl ?_
              refine V_geti dX11_readOne_83 rfl (by decide) vf_X11_193 (by decide) ?_
              refine V_iload_n (k := 2) dX11_readOne_86 rfl rfl ?_
              refine V_icmpne (tgt := 95) dX11_readOne_87 (by decide) (fun h23 => ?_) (fun h23 => ?_)
              · refine V_sub [0] rfl ?_
                exact vX11_readOne_95 M hI
              · refine V_sub [0] rfl ?_
                exact vX11_readOne_90 (vX11_readOne_95) M hI
            · refine V_aload_n (k := 0) dX11_readOne_71 rfl rfl ?_
              refine V_geti dX11_readOne_72 rfl (by decide) vf_X11_193 (by decide) ?_
              refine V_iload_n (k := 2) dX11_readOne_75 rfl rfl ?_
              refine V_icmpgt (tgt := 95) dX11_readOne_76 (by decide) (fun h24 => ?_) (fun h24 => ?_)
              · refine V_sub [0] rfl ?_
                exact vX11_readOne_95 M hI
              · refine V_goto (tgt := 90) dX11_readOne_79 (by decide) ?_
                refine V_sub [0] rfl ?_
                exact vX11_readOne_90 (vX11_readOne_95) M hI
        · refine V_aload_n (k := 0) dX11_readOne_54 rfl rfl ?_
          refine V_iconst (v := 3) dX11_readOne_55 rfl ?_
          refine V_callVv (q := (RX11, TX11, 61)) (cls := 11) (st0 := []) (kc' := 0) (ks' := 0) dX11_readOne_56 lk_X11_226 rfl (by decide) rfl rfl rfl (cX11_wrong_ok M 3 hI) rfl rfl (by decide) (by decide) (Nat.le_of_ble_eq_true rfl) (Or.inl rfl) rfl rfl (by decide) (by decide) (fun  M25 e26 hI27 => ?_)
          refine V_goto (tgt := 95) dX11_readOne_59 (by decide) ?_
          refine V_sub [0] rfl ?_
          exact vX11_readOne_95 M25 hI27
      · refine V_aload_n (k := 0) dX11_readOne_38 rfl rfl ?_
        refine V_iconst (v := 2) dX11_readOne_39 rfl ?_
        refine V_callVv (q := (RX11, TX11, 61)) (cls := 11) (st0 := []) (kc' := 0) (ks' := 0) dX11_readOne_40 lk_X11_226 rfl (by decide) rfl rfl rfl (cX11_wrong_ok M 2 hI) rfl rfl (by decide) (by decide) (Nat.le_of_ble_eq_true rfl) (Or.inl rfl) rfl rfl (by decide) (by decide) (fun  M28 e29 hI30 => ?_)
        refine V_goto (tgt := 95) dX11_readOne_43 (by decide) ?_
        refine V_sub [0] rfl ?_
        exact vX11_readOne_95 M28 hI30
    · refine V_aload_n (k := 0) dX11_readOne_17 rfl rfl ?_
      refine V_iconst (v := 1) dX11_readOne_18 rfl ?_
      refine V_callVv (q := (RX11, TX11, 61)) (cls := 11) (st0 := []) (kc' := 0) (ks' := 0) dX11_readOne_19 lk_X11_226 rfl (by decide) rfl rfl rfl (cX11_wrong_ok M 1 hI) rfl rfl (by decide) (by decide) (Nat.le_of_ble_eq_true rfl) (Or.inl rfl) rfl rfl (by decide) (by decide) (fun  M31 e32 hI33 => ?_)
      refine V_goto (tgt := 95) dX11_readOne_22 (by decide) ?_
      refine V_sub [0] rfl ?_
      exact vX11_readOne_95 M31 hI33
  · refine V_iconst (v := 0) dX11_readOne_7 rfl ?_
    exact V_ret (fun _ => hI) (Or.inr (Or.inl ⟨rfl, _, rfl⟩)) dX11_readOne_8 (fun ty x h1 h2 => by cases h1; rfl) rfl
def fX11_readRule_23 (M : vM) (x1 : Int32) (x2 : Int32) : Option (vR × vM) := if (M.1 130 38) = 0 then bv (fX11_stepOn M ) fun M15 => if v_in x1 12 = true then if v_in ((12 * x1) + (M15.1 138 (Int32.toNatClampNeg x1))) 144 = true then if v_in x1 12 = true then bi (fX11_readOne (v_si M15 142 (Int32.toNatClampNeg ((12 * x1) + (M15.1 138 (Int32.toNatClampNeg x1)))) x2) ((v_si M15 142 (Int32.toNatClampNeg ((12 * x1) + (M15.1 138 (Int32.toNatClampNeg x1)))) x2).1 136 (Int32.toNatClampNeg x1)) ((-1)) 0) fun y21 M22 => if v_in ((12 * x1) + (M15.1 138 (Int32.toNatClampNeg x1))) 144 = true then if v_in x1 12 = true then if v_in ((12 * x1) + (M15.1 138 (Int32.toNatClampNeg x1))) 144 = true then bi (fX11_readOne (v_si M22 143 (Int32.toNatClampNeg ((12 * x1) + (M15.1 138 (Int32.toNatClampNeg x1)))) y21) ((v_si M22 143 (Int32.toNatClampNeg ((12 * x1) + (M15.1 138 (Int32.toNatClampNeg x1)))) y21).1 136 (Int32.toNatClampNeg x1)) ((v_si M22 143 (Int32.toNatClampNeg ((12 * x1) + (M15.1 138 (Int32.toNatClampNeg x1)))) y21).1 143 (Int32.toNatClampNeg ((12 * x1) + (M15.1 138 (Int32.toNatClampNeg x1))))) 0) fun y28 M29 => if v_in ((12 * x1) + (M15.1 138 (Int32.toNatClampNeg x1))) 144 = true then if v_in x1 12 = true then if v_in x1 12 = true then bv (fX11_semi (v_si (v_si M29 144 (Int32.toNatClampNeg ((12 * x1) + (M15.1 138 (Int32.toNatClampNeg x1)))) y28) 138 (Int32.toNatClampNeg x1) (((v_si M29 144 (Int32.toNatClampNeg ((12 * x1) + (M15.1 138 (Int32.toNatClampNeg x1)))) y28).1 138 (Int32.toNatClampNeg x1)) + 1)) ) fun M35 => rV M35 else none else none else none else none else none else none else none else none else none else rV M
set_option maxRecDepth 20000 in
set_option maxHeartbeats 2000000 in
theorem vX11_readRule_23 {l : Launch} {D : va_G} {dA : Nat → ClassId} : ∀ (M : vM) (x1 : Int32) (x2 : Int32), v_WT M.2.2 → V l D dA sX11_readRule false 175 4 0 0 23 [(0, .ref 130), (1, .int x1), (2, .int x2)] [] 175 M (fX11_readRule_23 M x1 x2) := by
  intro M x1 x2 hI
  refine V_aload_n (k := 0) dX11_readRule_23 rfl rfl ?_
  refine V_geti dX11_readRule_24 rfl (by decide) vf_X11_206 (by decide) ?_
  refine V_ifeq (tgt := 31) dX11_readRule_27 (by decide) (fun h14 => ?_) (fun h14 => ?_)
  · refine V_aload_n (k := 0) dX11_readRule_31 rfl rfl ?_
    refine V_callVv (q := (RX11, TX11, 61)) (cls := 11) (st0 := []) (kc' := 0) (ks' := 0) dX11_readRule_32 lk_X11_223 rfl (by decide) rfl rfl rfl (cX11_stepOn_ok M  hI) rfl rfl (by decide) (by decide) (Nat.le_of_ble_eq_true rfl) (Or.inl rfl) rfl rfl (by decide) (by decide) (fun  M15 e16 hI17 => ?_)
    refine V_bipush (v := 12) dX11_readRule_35 rfl ?_
    refine V_iload_n (k := 1) dX11_readRule_37 rfl rfl ?_
    refine V_imul dX11_readRule_38 ?_
    refine V_aload_n (k := 0) dX11_readRule_39 rfl rfl ?_
    refine V_getr (k := 138) dX11_readRule_40 rfl (by decide) vf_X11_40 (by decide) (v_fin hI17 125 rfl) ?_
    refine V_iload_n (k := 1) dX11_readRule_43 rfl rfl ?_
    refine V_iald dX11_readRule_44 rfl (by decide) (fun h18 => ?_)
    refine V_iadd dX11_readRule_45 ?_
    refine V_istore_n (lv' := [(3, .int ((12 * x1) + (M15.1 138 (Int32.toNatClampNeg x1)))), (0, .ref 130), (1, .int x1), (2, .int x2)]) dX11_readRule_46 rfl (by decide) rfl ?_
    refine V_aload_n (k := 1) dX11_readRule_47 rfl rfl ?_
    refine V_getr (k := 142) dX11_readRule_48 rfl (by decide) vf_X11_52 (by decide) (v_fin hI17 129 rfl) ?_
    refine V_iload_n (k := 0) dX11_readRule_51 rfl rfl ?_
    refine V_iload_n (k := 3) dX11_readRule_52 rfl rfl ?_
    refine V_iast dX11_readRule_53 rfl (by decide) (fun h19 => ?_)
    refine V_aload_n (k := 1) dX11_readRule_54 rfl rfl ?_
    refine V_getr (k := 143) dX11_readRule_55 rfl (by decide) vf_X11_55 (by decide) (v_fin hI17 130 rfl) ?_
    refine V_iload_n (k := 0) dX11_readRule_58 rfl rfl ?_
    refine V_aload_n (k := 1) dX11_readRule_59 rfl rfl ?_
    refine V_aload_n (k := 1) dX11_readRule_60 rfl rfl ?_
    refine V_getr (k := 136) dX11_readRule_61 rfl (by decide) vf_X11_34 (by decide) (v_fin hI17 123 rfl) ?_
    refine V_iload_n (k := 2) dX11_readRule_64 rfl rfl ?_
    refine V_iald dX11_readRule_65 rfl (by decide) (fun h20 => ?_)
    refine V_iconst (v := (-1)) dX11_readRule_66 rfl ?_
    refine V_iconst (v := 0) dX11_readRule_67 rfl ?_
    refine V_callVi (q := (RX11, TX11, 61)) (cls := 11) (st0 := [.int ((12 * x1) + (M15.1 138 (Int32.toNatClampNeg x1))), .ref 143]) (kc' := 0) (ks' := 0) dX11_readRule_68 lk_X11_245 rfl (by decide) rfl rfl rfl (cX11_readOne_ok (v_si M15 142 (Int32.toNatClampNeg ((12 * x1) + (M15.1 138 (Int32.toNatClampNeg x1)))) x2) ((v_si M15 142 (Int32.toNatClampNeg ((12 * x1) + (M15.1 138 (Int32.toNatClampNeg x1)))) x2).1 136 (Int32.toNatClampNeg x1)) ((-1)) 0 hI17) rfl rfl (by decide) (by decide) (Nat.le_of_ble_eq_true rfl) (Or.inl rfl) rfl rfl (by decide) (by decide) (fun y21 M22 e23 hI24 => ?_)
    refine V_iast dX11_readRule_71 rfl (by decide) (fun h25 => ?_)
    refine V_aload_n (k := 1) dX11_readRule_72 rfl rfl ?_
    refine V_getr (k := 144) dX11_readRule_73 rfl (by decide) vf_X11_58 (by decide) (v_fin hI24 131 rfl) ?_
    refine V_iload_n (k := 0) dX11_readRule_76 rfl rfl ?_
    refine V_aload_n (k := 1) dX11_readRule_77 rfl rfl ?_
    refine V_aload_n (k := 1) dX11_readRule_78 rfl rfl ?_
    refine V_getr (k := 136) dX11_readRule_79 rfl (by decide) vf_X11_34 (by decide) (v_fin hI24 123 rfl) ?_
    refine V_iload_n (k := 2) dX11_readRule_82 rfl rfl ?_
    refine V_iald dX11_readRule_83 rfl (by decide) (fun h26 => ?_)
    refine V_aload_n (k := 1) dX11_readRule_84 rfl rfl ?_
    refine V_getr (k := 143) dX11_readRule_85 rfl (by decide) vf_X11_55 (by decide) (v_fin hI24 130 rfl) ?_
    refine V_iload_n (k := 0) dX11_readRule_88 rfl rfl ?_
    refine V_iald dX11_readRule_89 rfl (by decide) (fun h27 => ?_)
    refine V_iconst (v := 0) dX11_readRule_90 rfl ?_
    refine V_callVi (q := (RX11, TX11, 61)) (cls := 11) (st0 := [.int ((12 * x1) + (M15.1 138 (Int32.toNatClampNeg x1))), .ref 144]) (kc' := 0) (ks' := 0) dX11_readRule_91 lk_X11_245 rfl (by decide) rfl rfl rfl (cX11_readOne_ok (v_si M22 143 (Int32.toNatClampNeg ((12 * x1) + (M15.1 138 (Int32.toNatClampNeg x1)))) y21) ((v_si M22 143 (Int32.toNatClampNeg ((12 * x1) + (M15.1 138 (Int32.toNatClampNeg x1)))) y21).1 136 (Int32.toNatClampNeg x1)) ((v_si M22 143 (Int32.toNatClampNeg ((12 * x1) + (M15.1 138 (Int32.toNatClampNeg x1)))) y21).1 143 (Int32.toNatClampNeg ((12 * x1) + (M15.1 138 (Int32.toNatClampNeg x1))))) 0 hI24) rfl rfl (by decide) (by decide) (Nat.le_of_ble_eq_true rfl) (Or.inl rfl) rfl rfl (by decide) (by decide) (fun y28 M29 e30 hI31 => ?_)
    refine V_iast dX11_readRule_94 rfl (by decide) (fun h32 => ?_)
    refine V_aload_n (k := 1) dX11_readRule_95 rfl rfl ?_
    refine V_getr (k := 138) dX11_readRule_96 rfl (by decide) vf_X11_40 (by decide) (v_fin hI31 125 rfl) ?_
    refine V_iload_n (k := 2) dX11_readRule_99 rfl rfl ?_
    refine V_dup2 dX11_readRule_100 rfl rfl ?_
    refine V_iald dX11_readRule_101 rfl (by decide) (fun h33 => ?_)
    refine V_iconst (v := 1) dX11_readRule_102 rfl ?_
    refine V_iadd dX11_readRule_103 ?_
    refine V_iast dX11_readRule_104 rfl (by decide) (fun h34 => ?_)
    refine V_aload_n (k := 1) dX11_readRule_105 rfl rfl ?_
    refine V_callVv (q := (RX11, TX11, 61)) (cls := 11) (st0 := []) (kc' := 0) (ks' := 0) dX11_readRule_106 lk_X11_242 rfl (by decide) rfl rfl rfl (cX11_semi_ok (v_si (v_si M29 144 (Int32.toNatClampNeg ((12 * x1) + (M15.1 138 (Int32.toNatClampNeg x1)))) y28) 138 (Int32.toNatClampNeg x1) (((v_si M29 144 (Int32.toNatClampNeg ((12 * x1) + (M15.1 138 (Int32.toNatClampNeg x1)))) y28).1 138 (Int32.toNatClampNeg x1)) + 1))  hI31) rfl rfl (by decide) (by decide) (Nat.le_of_ble_eq_true rfl) (Or.inl rfl) rfl rfl (by decide) (by decide) (fun  M35 e36 hI37 => ?_)
    exact V_ret (fun _ => hI37) (Or.inl ⟨rfl, rfl⟩) dX11_readRule_109 (fun ty x h1 h2 => by cases h1) rfl
  · exact V_ret (fun _ => hI) (Or.inl ⟨rfl, rfl⟩) dX11_readRule_30 (fun ty x h1 h2 => by cases h1) rfl
def fX11_readRule (M : vM) (x1 : Int32) (x2 : Int32) : Option (vR × vM) := if (M.1 130 38) = 0 then if v_in x1 12 = true then if (M.1 138 (Int32.toNatClampNeg x1)) = 12 then bv (fX11_wrong M 2) fun M41 => fX11_readRule_23 M41 x1 x2 else fX11_readRule_23 M x1 x2 else none else fX11_readRule_23 M x1 x2
set_option maxRecDepth 20000 in
set_option maxHeartbeats 2000000 in
theorem cX11_readRule_ok {l : Launch} {D : va_G} {dA : Nat → ClassId} (M : vM) (x1 : Int32) (x2 : Int32) (hI : v_WT M.2.2) : Ct l D dA sX11_readRule false 175 4 0 0 175 [.ref 130, .int x1, .int x2] M (fX11_readRule M x1 x2) := by
  refine Ct_of (lv := [(0, .ref 130), (1, .int x1), (2, .int x2)]) (by decide +kernel) rfl (Nat.le_of_ble_eq_true rfl) rfl (fun h => by cases h) ?_
  refine V_aload_n (k := 0) dX11_readRule_0 rfl rfl ?_
  refine V_geti dX11_readRule_1 rfl (by decide) vf_X11_206 (by decide) ?_
  refine V_ifne (tgt := 23) dX11_readRule_4 (by decide) (fun h38 => ?_) (fun h38 => ?_)
  · refine V_sub [0, 1, 2] rfl ?_
    exact vX11_readRule_23 M x1 x2 hI
  · refine V_aload_n (k := 0) dX11_readRule_7 rfl rfl ?_
    refine V_getr (k := 138) dX11_readRule_8 rfl (by decide) vf_X11_40 (by decide) (v_fin hI 125 rfl) ?_
    refine V_iload_n (k := 1) dX11_readRule_11 rfl rfl ?_
    refine V_iald dX11_readRule_12 rfl (by decide) (fun h39 => ?_)
    refine V_bipush (v := 12) dX11_readRule_13 rfl ?_
    refine V_icmpne (tgt := 23) dX11_readRule_15 (by decide) (fun h40 => ?_) (fun h40 => ?_)
    · refine V_sub [0, 1, 2] rfl ?_
      exact vX11_readRule_23 M x1 x2 hI
    · refine V_aload_n (k := 0) dX11_readRule_18 rfl rfl ?_
      refine V_iconst (v := 2) dX11_readRule_19 rfl ?_
      refine V_callVv (q := (RX11, TX11, 61)) (cls := 11) (st0 := []) (kc' := 0) (ks' := 0) dX11_readRule_20 lk_X11_226 rfl (by decide) rfl rfl rfl (cX11_wrong_ok M 2 hI) rfl rfl (by decide) (by decide) (Nat.le_of_ble_eq_true rfl) (Or.inl rfl) rfl rfl (by decide) (by decide) (fun  M41 e42 hI43 => ?_)
      refine V_sub [0, 1, 2] rfl ?_
      exact vX11_readRule_23 M41 x1 x2 hI43
def fX11_tellSpent_33 : Nat → vM → Int32 → Int32 → Option (vR × vM)
  | 0, _, _, _ => none
  | n9 + 1, M, x1, x2 => if (M.1 130 21) ≤ x2 then rV M else if v_in x2 400 = true then if (M.1 149 (Int32.toNatClampNeg x2)) = x1 then if v_in x2 400 = true then bv (fX11_spend M x1 (M.1 150 (Int32.toNatClampNeg x2)) 148 (2000 * x1)) fun M12 => fX11_tellSpent_33 n9 M12 x1 (x2 + 1) else none else fX11_tellSpent_33 n9 M x1 (x2 + 1) else none
set_option maxRecDepth 20000 in
set_option maxHeartbeats 2000000 in
theorem vX11_tellSpent_33 {l : Launch} {D : va_G} {dA : Nat → ClassId} : ∀ (n9 : Nat) (M : vM) (x1 : Int32) (x2 : Int32), v_WT M.2.2 → V l D dA sX11_tellSpent false 175 4 0 0 33 [(0, .ref 130), (1, .int x1), (2, .int x2)] [] 175 M (fX11_tellSpent_33 n9 M x1 x2) := by
  intro n9
  induction n9 with
  | zero => intros; exact V_none
  | succ n9 ih =>
    intro M x1 x2 hI
    refine V_iload_n (k := 2) dX11_tellSpent_33 rfl rfl ?_
    refine V_aload_n (k := 0) dX11_tellSpent_34 rfl rfl ?_
    refine V_geti dX11_tellSpent_35 rfl (by decide) vf_X11_293 (by decide) ?_
    refine V_icmpge (tgt := 77) dX11_tellSpent_38 (by decide) (fun h8 => ?_) (fun h8 => ?_)
    · exact V_ret (fun _ => hI) (Or.inl ⟨rfl, rfl⟩) dX11_tellSpent_77 (fun ty x h1 h2 => by cases h1) rfl
    · refine V_aload_n (k := 0) dX11_tellSpent_41 rfl rfl ?_
      refine V_getr (k := 149) dX11_tellSpent_42 rfl (by decide) vf_X11_74 (by decide) (v_fin hI 136 rfl) ?_
      refine V_iload_n (k := 2) dX11_tellSpent_45 rfl rfl ?_
      refine V_iald dX11_tellSpent_46 rfl (by decide) (fun h9 => ?_)
      refine V_iload_n (k := 1) dX11_tellSpent_47 rfl rfl ?_
      refine V_icmpne (tgt := 71) dX11_tellSpent_48 (by decide) (fun h10 => ?_) (fun h10 => ?_)
      · refine V_iinc (k := 2) (v := x2 + 1) (lv' := [(2, .int (x2 + 1)), (0, .ref 130), (1, .int x1)]) dX11_tellSpent_71 rfl rfl (by decide) rfl ?_
        refine V_goto (tgt := 33) dX11_tellSpent_74 (by decide) ?_
        refine V_sub [1, 2, 0] rfl ?_
        exact ih M x1 (x2 + 1) hI
      · refine V_aload_n (k := 0) dX11_tellSpent_51 rfl rfl ?_
        refine V_iload_n (k := 1) dX11_tellSpent_52 rfl rfl ?_
        refine V_aload_n (k := 0) dX11_tellSpent_53 rfl rfl ?_
        refine V_getr (k := 150) dX11_tellSpent_54 rfl (by decide) vf_X11_77 (by decide) (v_fin hI 137 rfl) ?_
        refine V_iload_n (k := 2) dX11_tellSpent_57 rfl rfl ?_
        refine V_iald dX11_tellSpent_58 rfl (by decide) (fun h11 => ?_)
        refine V_aload_n (k := 0) dX11_tellSpent_59 rfl rfl ?_
        refine V_getr (k := 148) dX11_tellSpent_60 rfl (by decide) vf_X11_70 (by decide) (v_fin hI 135 rfl) ?_
        refine V_sipush (v := 2000) dX11_tellSpent_63 rfl ?_
        refine V_iload_n (k := 1) dX11_tellSpent_66 rfl rfl ?_
        refine V_imul dX11_tellSpent_67 ?_
        refine V_callVv (q := (RX11, TX11, 61)) (cls := 11) (st0 := []) (kc' := 0) (ks' := 0) dX11_tellSpent_68 lk_X11_352 rfl (by decide) rfl rfl rfl (cX11_spend_ok M x1 (M.1 150 (Int32.toNatClampNeg x2)) 148 (2000 * x1) (v_isA_of (by decide) rfl) hI) rfl rfl (by decide) (by decide) (Nat.le_of_ble_eq_true rfl) (Or.inl rfl) rfl rfl (by decide) (by decide) (fun  M12 e13 hI14 => ?_)
        refine V_iinc (k := 2) (v := x2 + 1) (lv' := [(2, .int (x2 + 1)), (0, .ref 130), (1, .int x1)]) dX11_tellSpent_71 rfl rfl (by decide) rfl ?_
        refine V_goto (tgt := 33) dX11_tellSpent_74 (by decide) ?_
        refine V_sub [1, 2, 0] rfl ?_
        exact ih M12 x1 (x2 + 1) hI14
def fX11_tellSpent_2 : Nat → vM → Int32 → Int32 → Option (vR × vM)
  | 0, _, _, _ => none
  | n9 + 1, M, x1, x2 => if v_in x1 6 = true then if (M.1 145 (Int32.toNatClampNeg x1)) ≤ x2 then fX11_tellSpent_33 FU M x1 0 else if v_in ((2000 * x1) + x2) 12000 = true then fX11_tellSpent_2 n9 (v_si M 148 (Int32.toNatClampNeg ((2000 * x1) + x2)) (v_nz 0)) x1 (x2 + 1) else none else none
set_option maxRecDepth 20000 in
set_option maxHeartbeats 2000000 in
theorem vX11_tellSpent_2 {l : Launch} {D : va_G} {dA : Nat → ClassId} : ∀ (n9 : Nat) (M : vM) (x1 : Int32) (x2 : Int32), v_WT M.2.2 → V l D dA sX11_tellSpent false 175 4 0 0 2 [(0, .ref 130), (1, .int x1), (2, .int x2)] [] 175 M (fX11_tellSpent_2 n9 M x1 x2) := by
  intro n9
  induction n9 with
  | zero => intros; exact V_none
  | succ n9 ih =>
    intro M x1 x2 hI
    refine V_iload_n (k := 2) dX11_tellSpent_2 rfl rfl ?_
    refine V_aload_n (k := 0) dX11_tellSpent_3 rfl rfl ?_
    refine V_getr (k := 145) dX11_tellSpent_4 rfl (by decide) vf_X11_61 (by decide) (v_fin hI 132 rfl) ?_
    refine V_iload_n (k := 1) dX11_tellSpent_7 rfl rfl ?_
    refine V_iald dX11_tellSpent_8 rfl (by decide) (fun h15 => ?_)
    refine V_icmpge (tgt := 31) dX11_tellSpent_9 (by decide) (fun h16 => ?_) (fun h16 => ?_)
    · refine V_iconst (v := 0) dX11_tellSpent_31 rfl ?_
      refine V_istore_n (lv' := [(2, .int 0), (0, .ref 130), (1, .int x1)]) dX11_tellSpent_32 rfl (by decide) rfl ?_
      refine V_sub [1, 2, 0] rfl ?_
      exact vX11_tellSpent_33 FU M x1 0 hI
    · refine V_aload_n (k := 0) dX11_tellSpent_12 rfl rfl ?_
      refine V_getr (k := 148) dX11_tellSpent_13 rfl (by decide) vf_X11_70 (by decide) (v_fin hI 135 rfl) ?_
      refine V_sipush (v := 2000) dX11_tellSpent_16 rfl ?_
      refine V_iload_n (k := 1) dX11_tellSpent_19 rfl rfl ?_
      refine V_imul dX11_tellSpent_20 ?_
      refine V_iload_n (k := 2) dX11_tellSpent_21 rfl rfl ?_
      refine V_iadd dX11_tellSpent_22 ?_
      refine V_iconst (v := 0) dX11_tellSpent_23 rfl ?_
      refine V_zast dX11_tellSpent_24 rfl (by decide) (fun h17 => ?_)
      refine V_iinc (k := 2) (v := x2 + 1) (lv' := [(2, .int (x2 + 1)), (0, .ref 130), (1, .int x1)]) dX11_tellSpent_25 rfl rfl (by decide) rfl ?_
      refine V_goto (tgt := 2) dX11_tellSpent_28 (by decide) ?_
      refine V_sub [1, 2, 0] rfl ?_
      exact ih (v_si M 148 (Int32.toNatClampNeg ((2000 * x1) + x2)) (v_nz 0)) x1 (x2 + 1) hI
def fX11_tellSpent (M : vM) (x1 : Int32) : Option (vR × vM) := fX11_tellSpent_2 FU M x1 0
set_option maxRecDepth 20000 in
set_option maxHeartbeats 2000000 in
theorem cX11_tellSpent_ok {l : Launch} {D : va_G} {dA : Nat → ClassId} (M : vM) (x1 : Int32) (hI : v_WT M.2.2) : Ct l D dA sX11_tellSpent false 175 4 0 0 175 [.ref 130, .int x1] M (fX11_tellSpent M x1) := by
  refine Ct_of (lv := [(0, .ref 130), (1, .int x1)]) (by decide +kernel) rfl (Nat.le_of_ble_eq_true rfl) rfl (fun h => by cases h) ?_
  refine V_iconst (v := 0) dX11_tellSpent_0 rfl ?_
  refine V_istore_n (lv' := [(2, .int 0), (0, .ref 130), (1, .int x1)]) dX11_tellSpent_1 rfl (by decide) rfl ?_
  refine V_sub [1, 2, 0] rfl ?_
  exact vX11_tellSpent_2 FU M x1 0 hI
def fX11_restore_112 : Nat → vM → Int32 → Option (vR × vM)
  | 0, _, _ => none
  | n9 + 1, M, x1 => if (M.1 130 2) ≤ x1 then rI 1 M else bv (fX11_tellSpent M x1) fun M4 => fX11_restore_112 n9 M4 (x1 + 1)
set_option maxRecDepth 20000 in
set_option maxHeartbeats 2000000 in
theorem vX11_restore_112 {l : Launch} {D : va_G} {dA : Nat → ClassId} : ∀ (n9 : Nat) (M : vM) (x1 : Int32), v_WT M.2.2 → V l D dA sX11_restore false 175 5 0 0 112 [(0, .ref 130), (1, .int x1)] [] 175 M (fX11_restore_112 n9 M x1) := by
  intro n9
  induction n9 with
  | zero => intros; exact V_none
  | succ n9 ih =>
    intro M x1 hI
    refine V_iload_n (k := 1) dX11_restore_112 rfl rfl ?_
    refine V_aload_n (k := 0) dX11_restore_113 rfl rfl ?_
    refine V_geti dX11_restore_114 rfl (by decide) vf_X11_157 (by decide) ?_
    refine V_icmpge (tgt := 131) dX11_restore_117 (by decide) (fun h3 => ?_) (fun h3 => ?_)
    · refine V_iconst (v := 1) dX11_restore_131 rfl ?_
      exact V_ret (fun _ => hI) (Or.inr (Or.inr (Or.inl ⟨rfl, _, rfl⟩))) dX11_restore_132 (fun ty x h1 h2 => by cases h1; cases h2; rfl) rfl
    · refine V_aload_n (k := 0) dX11_restore_120 rfl rfl ?_
      refine V_iload_n (k := 1) dX11_restore_121 rfl rfl ?_
      refine V_callVv (q := (RX11, TX11, 61)) (cls := 11) (st0 := []) (kc' := 0) (ks' := 0) dX11_restore_122 lk_X11_317 rfl (by decide) rfl rfl rfl (cX11_tellSpent_ok M x1 hI) rfl rfl (by decide) (by decide) (Nat.le_of_ble_eq_true rfl) (Or.inl rfl) rfl rfl (by decide) (by decide) (fun  M4 e5 hI6 => ?_)
      refine V_iinc (k := 1) (v := x1 + 1) (lv' := [(1, .int (x1 + 1)), (0, .ref 130)]) dX11_restore_125 rfl rfl (by decide) rfl ?_
      refine V_goto (tgt := 112) dX11_restore_128 (by decide) ?_
      refine V_sub [1, 0] rfl ?_
      exact ih M4 (x1 + 1) hI6
def fX11_restore (M : vM) : Option (vR × vM) := if ((v_si M 130 1 0).1 130 51) = 0 then rI 0 (v_si M 130 1 0) else bv (fX11_be (v_si (v_si M 130 1 0) 130 21 ((v_si M 130 1 0).1 130 52)) 149 166) fun M8 => bv (fX11_be M8 150 167) fun M11 => bv (fX11_be M11 151 168) fun M14 => bv (fX11_be M14 152 169) fun M17 => bv (fX11_be M17 153 170) fun M20 => bv (fX11_be M20 154 171) fun M23 => bv (fX11_be M23 155 172) fun M26 => bv (fX11_be M26 156 173) fun M29 => fX11_restore_112 FU M29 0
set_option maxRecDepth 20000 in
set_option maxHeartbeats 2000000 in
theorem cX11_restore_ok {l : Launch} {D : va_G} {dA : Nat → ClassId} (M : vM) (hI : v_WT M.2.2) : Ct l D dA sX11_restore false 175 5 0 0 175 [.ref 130] M (fX11_restore M) := by
  refine Ct_of (lv := [(0, .ref 130)]) (by decide +kernel) rfl (Nat.le_of_ble_eq_true rfl) rfl (fun h => by cases h) ?_
  refine V_aload_n (k := 0) dX11_restore_0 rfl rfl ?_
  refine V_iconst (v := 0) dX11_restore_1 rfl ?_
  refine V_puti dX11_restore_2 rfl (by decide) vf_X11_154 (by decide) rfl rfl ?_
  refine V_aload_n (k := 0) dX11_restore_5 rfl rfl ?_
  refine V_geti dX11_restore_6 rfl (by decide) vf_X11_299 (by decide) ?_
  refine V_ifne (tgt := 14) dX11_restore_9 (by decide) (fun h7 => ?_) (fun h7 => ?_)
  · refine V_aload_n (k := 0) dX11_restore_14 rfl rfl ?_
    refine V_aload_n (k := 0) dX11_restore_15 rfl rfl ?_
    refine V_geti dX11_restore_16 rfl (by decide) vf_X11_419 (by decide) ?_
    refine V_puti dX11_restore_19 rfl (by decide) vf_X11_293 (by decide) rfl rfl ?_
    refine V_aload_n (k := 0) dX11_restore_22 rfl rfl ?_
    refine V_getr (k := 149) dX11_restore_23 rfl (by decide) vf_X11_74 (by decide) (v_fin hI 136 rfl) ?_
    refine V_aload_n (k := 0) dX11_restore_26 rfl rfl ?_
    refine V_getr (k := 166) dX11_restore_27 rfl (by decide) vf_X11_130 (by decide) (v_fin hI 153 rfl) ?_
    refine V_callSv (st0 := []) (kc' := 0) (ks' := 0) dX11_restore_30 lk_X11_422 rfl (cX11_be_ok (v_si (v_si M 130 1 0) 130 21 ((v_si M 130 1 0).1 130 52)) 149 166 (v_isA_of (by decide) rfl) (v_isA_of (by decide) rfl) hI) rfl rfl (by decide) (by decide) (Nat.le_of_ble_eq_true rfl) (Or.inl rfl) rfl rfl (by decide) (by decide) (fun  M8 e9 hI10 => ?_)
    refine V_aload_n (k := 0) dX11_restore_33 rfl rfl ?_
    refine V_getr (k := 150) dX11_restore_34 rfl (by decide) vf_X11_77 (by decide) (v_fin hI10 137 rfl) ?_
    refine V_aload_n (k := 0) dX11_restore_37 rfl rfl ?_
    refine V_getr (k := 167) dX11_restore_38 rfl (by decide) vf_X11_133 (by decide) (v_fin hI10 154 rfl) ?_
    refine V_callSv (st0 := []) (kc' := 0) (ks' := 0) dX11_restore_41 lk_X11_422 rfl (cX11_be_ok M8 150 167 (v_isA_of (by decide) rfl) (v_isA_of (by decide) rfl) hI10) rfl rfl (by decide) (by decide) (Nat.le_of_ble_eq_true rfl) (Or.inl rfl) rfl rfl (by decide) (by decide) (fun  M11 e12 hI13 => ?_)
    refine V_aload_n (k := 0) dX11_restore_44 rfl rfl ?_
    refine V_getr (k := 151) dX11_restore_45 rfl (by decide) vf_X11_80 (by decide) (v_fin hI13 138 rfl) ?_
    refine V_aload_n (k := 0) dX11_restore_48 rfl rfl ?_
    refine V_getr (k := 168) dX11_restore_49 rfl (by decide) vf_X11_136 (by decide) (v_fin hI13 155 rfl) ?_
    refine V_callSv (st0 := []) (kc' := 0) (ks' := 0) dX11_restore_52 lk_X11_422 rfl (cX11_be_ok M11 151 168 (v_isA_of (by decide) rfl) (v_isA_of (by decide) rfl) hI13) rfl rfl (by decide) (by decide) (Nat.le_of_ble_eq_true rfl) (Or.inl rfl) rfl rfl (by decide) (by decide) (fun  M14 e15 hI16 => ?_)
    refine V_aload_n (k := 0) dX11_restore_55 rfl rfl ?_
    refine V_getr (k := 152) dX11_restore_56 rfl (by decide) vf_X11_83 (by decide) (v_fin hI16 139 rfl) ?_
    refine V_aload_n (k := 0) dX11_restore_59 rfl rfl ?_
    refine V_getr (k := 169) dX11_restore_60 rfl (by decide) vf_X11_139 (by decide) (v_fin hI16 156 rfl) ?_
    refine V_callSv (st0 := []) (kc' := 0) (ks' := 0) dX11_restore_63 lk_X11_422 rfl (cX11_be_ok M14 152 169 (v_isA_of (by decide) rfl) (v_isA_of (by decide) rfl) hI16) rfl rfl (by decide) (by decide) (Nat.le_of_ble_eq_true rfl) (Or.inl rfl) rfl rfl (by decide) (by decide) (fun  M17 e18 hI19 => ?_)
    refine V_aload_n (k := 0) dX11_restore_66 rfl rfl ?_
    refine V_getr (k := 153) dX11_restore_67 rfl (by decide) vf_X11_86 (by decide) (v_fin hI19 140 rfl) ?_
    refine V_aload_n (k := 0) dX11_restore_70 rfl rfl ?_
    refine V_getr (k := 170) dX11_restore_71 rfl (by decide) vf_X11_142 (by decide) (v_fin hI19 157 rfl) ?_
    refine V_callSv (st0 := []) (kc' := 0) (ks' := 0) dX11_restore_74 lk_X11_422 rfl (cX11_be_ok M17 153 170 (v_isA_of (by decide) rfl) (v_isA_of (by decide) rfl) hI19) rfl rfl (by decide) (by decide) (Nat.le_of_ble_eq_true rfl) (Or.inl rfl) rfl rfl (by decide) (by decide) (fun  M20 e21 hI22 => ?_)
    refine V_aload_n (k := 0) dX11_restore_77 rfl rfl ?_
    refine V_getr (k := 154) dX11_restore_78 rfl (by decide) vf_X11_89 (by decide) (v_fin hI22 141 rfl) ?_
    refine V_aload_n (k := 0) dX11_restore_81 rfl rfl ?_
    refine V_getr (k := 171) dX11_restore_82 rfl (by decide) vf_X11_145 (by decide) (v_fin hI22 158 rfl) ?_
    refine V_callSv (st0 := []) (kc' := 0) (ks' := 0) dX11_restore_85 lk_X11_422 rfl (cX11_be_ok M20 154 171 (v_isA_of (by decide) rfl) (v_isA_of (by decide) rfl) hI22) rfl rfl (by decide) (by decide) (Nat.le_of_ble_eq_true rfl) (Or.inl rfl) rfl rfl (by decide) (by decide) (fun  M23 e24 hI25 => ?_)
    refine V_aload_n (k := 0) dX11_restore_88 rfl rfl ?_
    refine V_getr (k := 155) dX11_restore_89 rfl (by decide) vf_X11_92 (by decide) (v_fin hI25 142 rfl) ?_
    refine V_aload_n (k := 0) dX11_restore_92 rfl rfl ?_
    refine V_getr (k := 172) dX11_restore_93 rfl (by decide) vf_X11_148 (by decide) (v_fin hI25 159 rfl) ?_
    refine V_callSv (st0 := []) (kc' := 0) (ks' := 0) dX11_restore_96 lk_X11_422 rfl (cX11_be_ok M23 155 172 (v_isA_of (by decide) rfl) (v_isA_of (by decide) rfl) hI25) rfl rfl (by decide) (by decide) (Nat.le_of_ble_eq_true rfl) (Or.inl rfl) rfl rfl (by decide) (by decide) (fun  M26 e27 hI28 => ?_)
    refine V_aload_n (k := 0) dX11_restore_99 rfl rfl ?_
    refine V_getr (k := 156) dX11_restore_100 rfl (by decide) vf_X11_95 (by decide) (v_fin hI28 143 rfl) ?_
    refine V_aload_n (k := 0) dX11_restore_103 rfl rfl ?_
    refine V_getr (k := 173) dX11_restore_104 rfl (by decide) vf_X11_151 (by decide) (v_fin hI28 160 rfl) ?_
    refine V_callSv (st0 := []) (kc' := 0) (ks' := 0) dX11_restore_107 lk_X11_422 rfl (cX11_be_ok M26 156 173 (v_isA_of (by decide) rfl) (v_isA_of (by decide) rfl) hI28) rfl rfl (by decide) (by decide) (Nat.le_of_ble_eq_true rfl) (Or.inl rfl) rfl rfl (by decide) (by decide) (fun  M29 e30 hI31 => ?_)
    refine V_iconst (v := 0) dX11_restore_110 rfl ?_
    refine V_istore_n (lv' := [(1, .int 0), (0, .ref 130)]) dX11_restore_111 rfl (by decide) rfl ?_
    refine V_sub [1, 0] rfl ?_
    exact vX11_restore_112 FU M29 0 hI31
  · refine V_iconst (v := 0) dX11_restore_12 rfl ?_
    exact V_ret (fun _ => hI) (Or.inr (Or.inr (Or.inl ⟨rfl, _, rfl⟩))) dX11_restore_13 (fun ty x h1 h2 => by cases h1; cases h2; rfl) rfl
def fX11_same_34 (M : vM) : Option (vR × vM) := bi (fX11_fail M 1) fun y7 M8 => rI y7 M8
set_option maxRecDepth 20000 in
set_option maxHeartbeats 2000000 in
theorem vX11_same_34 {l : Launch} {D : va_G} {dA : Nat → ClassId} : ∀ (M : vM), v_WT M.2.2 → V l D dA sX11_same false 175 4 0 0 34 [(0, .ref 130)] [] 175 M (fX11_same_34 M) := by
  intro M hI
  refine V_aload_n (k := 0) dX11_same_34 rfl rfl ?_
  refine V_iconst (v := 1) dX11_same_35 rfl ?_
  refine V_callVi (q := (RX11, TX11, 61)) (cls := 11) (st0 := []) (kc' := 0) (ks' := 0) dX11_same_36 lk_X11_287 rfl (by decide) rfl rfl rfl (cX11_fail_ok M 1 hI) rfl rfl (by decide) (by decide) (Nat.le_of_ble_eq_true rfl) (Or.inl rfl) rfl rfl (by decide) (by decide) (fun y7 M8 e9 hI10 => ?_)
  exact V_ret (fun _ => hI10) (Or.inr (Or.inl ⟨rfl, _, rfl⟩)) dX11_same_39 (fun ty x h1 h2 => by cases h1; rfl) rfl
def fX11_same (M : vM) (x1 : Int32) (x2 : Int32) (x3 : Int32) (x4 : Int32) : Option (vR × vM) := bi (fX11_isWay (v_si M 130 1 0) x1 x2) fun y11 M12 => if y11 = 0 then fX11_same_34 M12 else bi (fX11_isWay M12 x1 x3) fun y16 M17 => if y16 = 0 then fX11_same_34 M17 else if x4 < 0 then fX11_same_34 M17 else if x4 ≤ 1 then if x4 = 0 then bi (fX11_markOf M17 x1 x2) fun y37 M38 => bi (fX11_markOf M38 x1 x3) fun y41 M42 => bi (fX11_bitsOf M42 (y37 ^^^ y41)) fun y45 M46 => rI y45 M46 else bi (fX11_markOf M17 x1 x2) fun y24 M25 => bi (fX11_markOf M25 x1 x3) fun y28 M29 => bi (fX11_alike M29 x1 y24 y28) fun y32 M33 => if y32 = 0 then rI 0 M33 else rI 1 M33 else fX11_same_34 M17
set_option maxRecDepth 20000 in
set_option maxHeartbeats 2000000 in
theorem cX11_same_ok {l : Launch} {D : va_G} {dA : Nat → ClassId} (M : vM) (x1 : Int32) (x2 : Int32) (x3 : Int32) (x4 : Int32) (hI : v_WT M.2.2) : Ct l D dA sX11_same false 175 4 0 0 175 [.ref 130, .int x1, .int x2, .int x3, .int x4] M (fX11_same M x1 x2 x3 x4) := by
  refine Ct_of (lv := [(0, .ref 130), (1, .int x1), (2, .int x2), (3, .int x3), (4, .int x4)]) (by decide +kernel) rfl (Nat.le_of_ble_eq_true rfl) rfl (fun h => by cases h) ?_
  refine V_aload_n (k := 0) dX11_same_0 rfl rfl ?_
  refine V_iconst (v := 0) dX11_same_1 rfl ?_
  refine V_puti dX11_same_2 rfl (by decide) vf_X11_154 (by decide) rfl rfl ?_
  refine V_aload_n (k := 0) dX11_same_5 rfl rfl ?_
  refine V_iload_n (k := 1) dX11_same_6 rfl rfl ?_
  refine V_iload_n (k := 2) dX11_same_7 rfl rfl ?_
  refine V_callVi (q := (RX11, TX11, 61)) (cls := 11) (st0 := []) (kc' := 0) (ks' := 0) dX11_same_8 lk_X11_362 rfl (by decide) rfl rfl rfl (cX11_isWay_ok (v_si M 130 1 0) x1 x2 hI) rfl rfl (by decide) (by decide) (Nat.le_of_ble_eq_true rfl) (Or.inl rfl) rfl rfl (by decide) (by decide) (fun y11 M12 e13 hI14 => ?_)
  refine V_ifeq (tgt := 34) dX11_same_11 (by decide) (fun h15 => ?_) (fun h15 => ?_)
  · refine V_sub [0] rfl ?_
    exact vX11_same_34 M12 hI14
  · refine V_aload_n (k := 0) dX11_same_14 rfl rfl ?_
    refine V_iload_n (k := 1) dX11_same_15 rfl rfl ?_
    refine V_iload_n (k := 3) dX11_same_16 rfl rfl ?_
    refine V_callVi (q := (RX11, TX11, 61)) (cls := 11) (st0 := []) (kc' := 0) (ks' := 0) dX11_same_17 lk_X11_362 rfl (by decide) rfl rfl rfl (cX11_isWay_ok M12 x1 x3 hI14) rfl rfl (by decide) (by decide) (Nat.le_of_ble_eq_true rfl) (Or.inl rfl) rfl rfl (by decide) (by decide) (fun y16 M17 e18 hI19 => ?_)
    refine V_ifeq (tgt := 34) dX11_same_20 (by decide) (fun h20 => ?_) (fun h20 => ?_)
    · refine V_sub [0] rfl ?_
      exact vX11_same_34 M17 hI19
    · refine V_iload (k := 4) dX11_same_23 rfl ?_
      refine V_iflt (tgt := 34) dX11_same_25 (by decide) (fun h21 => ?_) (fun h21 => ?_)
      · refine V_sub [0] rfl ?_
        exact vX11_same_34 M17 hI19
      · refine V_iload (k := 4) dX11_same_28 rfl ?_
        refine V_iconst (v := 1) dX11_same_30 rfl ?_
        refine V_icmple (tgt := 40) dX11_same_31 (by decide) (fun h22 => ?_) (fun h22 => ?_)
        · refine V_iload (k := 4) dX11_same_40 rfl ?_
          refine V_ifne (tgt := 64) dX11_same_42 (by decide) (fun h23 => ?_) (fun h23 => ?_)
          · refine V_aload_n (k := 0) dX11_same_64 rfl rfl ?_
            refine V_iload_n (k := 1) dX11_same_65 rfl rfl ?_
            refine V_aload_n (k := 0) dX11_same_66 rfl rfl ?_
            refine V_iload_n (k := 1) dX11_same_67 rfl rfl ?_
            refine V_iload_n (k := 2) dX11_same_68 rfl rfl ?_
            refine V_callVi (q := (RX11, TX11, 61)) (cls := 11) (st0 := [.int x1, .ref 130]) (kc' := 0) (ks' := 0) dX11_same_69 lk_X11_349 rfl (by decide) rfl rfl rfl (cX11_markOf_ok M17 x1 x2 hI19) rfl rfl (by decide) (by decide) (Nat.le_of_ble_eq_true rfl) (Or.inl rfl) rfl rfl (by decide) (by decide) (fun y24 M25 e26 hI27 => ?_)
            refine V_aload_n (k := 0) dX11_same_72 rfl rfl ?_
            refine V_iload_n (k := 1) dX11_same_73 rfl rfl ?_
            refine V_iload_n (k := 3) dX11_same_74 rfl rfl ?_
            refine V_callVi (q := (RX11, TX11, 61)) (cls := 11) (st0 := [.int y24, .int x1, .ref 130]) (kc' := 0) (ks' := 0) dX11_same_75 lk_X11_349 rfl (by decide) rfl rfl rfl (cX11_markOf_ok M25 x1 x3 hI27) rfl rfl (by decide) (by decide) (Nat.le_of_ble_eq_true rfl) (Or.inl rfl) rfl rfl (by decide) (by decide) (fun y28 M29 e30 hI31 => ?_)
            refine V_callVi (q := (RX11, TX11, 61)) (cls := 11) (st0 := []) (kc' := 0) (ks' := 0) dX11_same_78 lk_X11_372 rfl (by decide) rfl rfl rfl (cX11_alike_ok M29 x1 y24 y28 hI31) rfl rfl (by decide) (by decide) (Nat.le_of_ble_eq_true rfl) (Or.inl rfl) rfl rfl (by decide) (by decide) (fun y32 M33 e34 hI35 => ?_)
            refine V_ifeq (tgt := 88) dX11_same_81 (by decide) (fun h36 => ?_) (fun h36 => ?_)
            · refine V_iconst (v := 0) dX11_same_88 rfl ?_
              exact V_ret (fun _ => hI35) (Or.inr (Or.inl ⟨rfl, _, rfl⟩)) dX11_same_89 (fun ty x h1 h2 => by cases h1; rfl) rfl
            · refine V_iconst (v := 1) dX11_same_84 rfl ?_
              refine V_goto (tgt := 89) dX11_same_85 (by decide) ?_
              exact V_ret (fun _ => hI35) (Or.inr (Or.inl ⟨rfl, _, rfl⟩)) dX11_same_89 (fun ty x h1 h2 => by cases h1; rfl) rfl
          · refine V_aload_n (k := 0) dX11_same_45 rfl rfl ?_
            refine V_iload_n (k := 1) dX11_same_46 rfl rfl ?_
            refine V_iload_n (k := 2) dX11_same_47 rfl rfl ?_
            refine V_callVi (q := (RX11, TX11, 61)) (cls := 11) (st0 := []) (kc' := 0) (ks' := 0) dX11_same_48 lk_X11_349 rfl (by decide) rfl rfl rfl (cX11_markOf_ok M17 x1 x2 hI19) rfl rfl (by decide) (by decide) (Nat.le_of_ble_eq_true rfl) (Or.inl rfl) rfl rfl (by decide) (by decide) (fun y37 M38 e39 hI40 => ?_)
            refine V_aload_n (k := 0) dX11_same_51 rfl rfl ?_
            refine V_iload_n (k := 1) dX11_same_52 rfl rfl ?_
            refine V_iload_n (k := 3) dX11_same_53 rfl rfl ?_
            refine V_callVi (q := (RX11, TX11, 61)) (cls := 11) (st0 := [.int y37]) (kc' := 0) (ks' := 0) dX11_same_54 lk_X11_349 rfl (by decide) rfl rfl rfl (cX11_markOf_ok M38 x1 x3 hI40) rfl rfl (by decide) (by decide) (Nat.le_of_ble_eq_true rfl) (Or.inl rfl) rfl rfl (by decide) (by decide) (fun y41 M42 e43 hI44 => ?_)
            refine V_ixor dX11_same_57 ?_
            refine V_callSi (st0 := []) (kc' := 0) (ks' := 0) dX11_same_58 lk_X11_324 rfl (cX11_bitsOf_ok M42 (y37 ^^^ y41) hI44) rfl rfl (by decide) (by decide) (Nat.le_of_ble_eq_true rfl) (Or.inl rfl) rfl rfl (by decide) (by decide) (fun y45 M46 e47 hI48 => ?_)
            refine V_goto (tgt := 89) dX11_same_61 (by decide) ?_
            exact V_ret (fun _ => hI48) (Or.inr (Or.inl ⟨rfl, _, rfl⟩)) dX11_same_89 (fun ty x h1 h2 => by cases h1; rfl) rfl
        · refine V_sub [0] rfl ?_
          exact vX11_same_34 M17 hI19
def fX11_swap (M : vM) (x1 : Int32) (x2 : Int32) (x3 : Int32) : Option (vR × vM) := if v_in ((2000 * x1) + x2) 12000 = true then if v_in ((2000 * x1) + x2) 12000 = true then if v_in ((2000 * x1) + x3) 12000 = true then if v_in ((2000 * x1) + x2) 12000 = true then if v_in ((2000 * x1) + x3) 12000 = true then if v_in ((2000 * x1) + x2) 12000 = true then if v_in ((2000 * x1) + x3) 12000 = true then if v_in ((2000 * x1) + x3) 12000 = true then rV (v_si (v_si (v_si (v_si M 146 (Int32.toNatClampNeg ((2000 * x1) + x2)) (M.1 146 (Int32.toNatClampNeg ((2000 * x1) + x3)))) 147 (Int32.toNatClampNeg ((2000 * x1) + x2)) ((v_si M 146 (Int32.toNatClampNeg ((2000 * x1) + x2)) (M.1 146 (Int32.toNatClampNeg ((2000 * x1) + x3)))).1 147 (Int32.toNatClampNeg ((2000 * x1) + x3)))) 146 (Int32.toNatClampNeg ((2000 * x1) + x3)) (M.1 146 (Int32.toNatClampNeg ((2000 * x1) + x2)))) 147 (Int32.toNatClampNeg ((2000 * x1) + x3)) (M.1 147 (Int32.toNatClampNeg ((2000 * x1) + x2)))) else none else none else none else none else none else none else none else none
set_option maxRecDepth 20000 in
set_option maxHeartbeats 2000000 in
theorem cX11_swap_ok {l : Launch} {D : va_G} {dA : Nat → ClassId} (M : vM) (x1 : Int32) (x2 : Int32) (x3 : Int32) (hI : v_WT M.2.2) : Ct l D dA sX11_swap false 175 1 0 0 175 [.ref 130, .int x1, .int x2, .int x3] M (fX11_swap M x1 x2 x3) := by
  refine Ct_of (lv := [(0, .ref 130), (1, .int x1), (2, .int x2), (3, .int x3)]) (by decide +kernel) rfl (Nat.le_of_ble_eq_true rfl) rfl (fun h => by cases h) ?_
  refine V_sipush (v := 2000) dX11_swap_0 rfl ?_
  refine V_iload_n (k := 1) dX11_swap_3 rfl rfl ?_
  refine V_imul dX11_swap_4 ?_
  refine V_iload_n (k := 2) dX11_swap_5 rfl rfl ?_
  refine V_iadd dX11_swap_6 ?_
  refine V_istore (lv' := [(4, .int ((2000 * x1) + x2)), (0, .ref 130), (1, .int x1), (2, .int x2), (3, .int x3)]) dX11_swap_7 (by decide) rfl ?_
  refine V_sipush (v := 2000) dX11_swap_9 rfl ?_
  refine V_iload_n (k := 2) dX11_swap_12 rfl rfl ?_
  refine V_imul dX11_swap_13 ?_
  refine V_iload_n (k := 4) dX11_swap_14 rfl rfl ?_
  refine V_iadd dX11_swap_15 ?_
  refine V_istore (lv' := [(5, .int ((2000 * x1) + x3)), (4, .int ((2000 * x1) + x2)), (0, .ref 130), (1, .int x1), (2, .int x2), (3, .int x3)]) dX11_swap_16 (by decide) rfl ?_
  refine V_aload_n (k := 2) dX11_swap_18 rfl rfl ?_
  refine V_getr (k := 146) dX11_swap_19 rfl (by decide) vf_X11_64 (by decide) (v_fin hI 133 rfl) ?_
  refine V_iload (k := 1) dX11_swap_22 rfl ?_
  refine V_iald dX11_swap_24 rfl (by decide) (fun h9 => ?_)
  refine V_istore (lv' := [(6, .int (M.1 146 (Int32.toNatClampNeg ((2000 * x1) + x2)))), (5, .int ((2000 * x1) + x3)), (4, .int ((2000 * x1) + x2)), (0, .ref 130), (1, .int x1), (2, .int x2), (3, .int x3)]) dX11_swap_25 (by decide) rfl ?_
  refine V_aload_n (k := 3) dX11_swap_27 rfl rfl ?_
  refine V_getr (k := 147) dX11_swap_28 rfl (by decide) vf_X11_67 (by decide) (v_fin hI 134 rfl) ?_
  refine V_iload (k := 2) dX11_swap_31 rfl ?_
  refine V_iald dX11_swap_33 rfl (by decide) (fun h10 => ?_)
  refine V_istore (lv' := [(7, .int (M.1 147 (Int32.toNatClampNeg ((2000 * x1) + x2)))), (6, .int (M.1 146 (Int32.toNatClampNeg ((2000 * x1) + x2)))), (5, .int ((2000 * x1) + x3)), (4, .int ((2000 * x1) + x2)), (0, .ref 130), (1, .int x1), (2, .int x2), (3, .int x3)]) dX11_swap_34 (by decide) rfl ?_
  refine V_aload_n (k := 4) dX11_swap_36 rfl rfl ?_
  refine V_getr (k := 146) dX11_swap_37 rfl (by decide) vf_X11_64 (by decide) (v_fin hI 133 rfl) ?_
  refine V_iload (k := 3) dX11_swap_40 rfl ?_
  refine V_aload_n (k := 4) dX11_swap_42 rfl rfl ?_
  refine V_getr (k := 146) dX11_swap_43 rfl (by decide) vf_X11_64 (by decide) (v_fin hI 133 rfl) ?_
  refine V_iload (k := 2) dX11_swap_46 rfl ?_
  refine V_iald dX11_swap_48 rfl (by decide) (fun h11 => ?_)
  refine V_iast dX11_swap_49 rfl (by decide) (fun h12 => ?_)
  refine V_aload_n (k := 4) dX11_swap_50 rfl rfl ?_
  refine V_getr (k := 147) dX11_swap_51 rfl (by decide) vf_X11_67 (by decide) (v_fin hI 134 rfl) ?_
  refine V_iload (k := 3) dX11_swap_54 rfl ?_
  refine V_aload_n (k := 4) dX11_swap_56 rfl rfl ?_
  refine V_getr (k := 147) dX11_swap_57 rfl (by decide) vf_X11_67 (by decide) (v_fin hI 134 rfl) ?_
  refine V_iload (k := 2) dX11_swap_60 rfl ?_
  refine V_iald dX11_swap_62 rfl (by decide) (fun h13 => ?_)
  refine V_iast dX11_swap_63 rfl (by decide) (fun h14 => ?_)
  refine V_aload_n (k := 4) dX11_swap_64 rfl rfl ?_
  refine V_getr (k := 146) dX11_swap_65 rfl (by decide) vf_X11_64 (by decide) (v_fin hI 133 rfl) ?_
  refine V_iload (k := 2) dX11_swap_68 rfl ?_
  refine V_iload (k := 1) dX11_swap_70 rfl ?_
  refine V_iast dX11_swap_72 rfl (by decide) (fun h15 => ?_)
  refine V_aload_n (k := 4) dX11_swap_73 rfl rfl ?_
  refine V_getr (k := 147) dX11_swap_74 rfl (by decide) vf_X11_67 (by decide) (v_fin hI 134 rfl) ?_
  refine V_iload (k := 2) dX11_swap_77 rfl ?_
  refine V_iload (k := 0) dX11_swap_79 rfl ?_
  refine V_iast dX11_swap_81 rfl (by decide) (fun h16 => ?_)
  exact V_ret (fun _ => hI) (Or.inl ⟨rfl, rfl⟩) dX11_swap_82 (fun ty x h1 h2 => by cases h1) rfl
