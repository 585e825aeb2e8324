
/-! the law's loop -/
def gCm (f : Option (vR × vM)) (g : vM → Option (vR × vM)) (K : vM → Option (vR × vM)) : Option (vR × vM) := bi f fun a M1 => bi (g M1) fun b M2 => if a = b then K M2 else none
def gWr (w : Option (vR × vM)) (g : vM → Option (vR × vM)) (K : vM → Option (vR × vM)) : Option (vR × vM) := bi w fun k M1 => bi (g M1) fun b M2 => bi (fX11_thrown M2) fun c M3 => if c = k then (if k = 0 then (if lg_cmp (M3.2.1 174 0) b.toInt64 = 0 then K M3 else none) else K M3) else none
def gWz (w : Option (vR × vM)) (g : vM → Option (vR × vM)) (K : vM → Option (vR × vM)) : Option (vR × vM) := bi w fun k M1 => bi (g M1) fun b M2 => bi (fX11_thrown M2) fun c M3 => if c = k then (if k = 0 then (if b = 0 then (if lg_cmp (M3.2.1 174 0) 0 = 0 then K M3 else none) else (if lg_cmp (M3.2.1 174 0) 1 = 0 then K M3 else none)) else K M3) else none
def gVo (f : Option (vR × vM)) (g : vM → Option (vR × vM)) (K : vM → Option (vR × vM)) : Option (vR × vM) := bv f fun M1 => bv (g M1) K
theorem sc_lt {k L : Nat} (hL : L ≤ 3072) (hk : k ≤ 3078) : (nI k ≤ nI L - 6) ↔ k + 6 ≤ L := by
  by_cases h : 6 ≤ L
  · have e : nI L - 6 = nI (L - 6) := by
      have e2 : nI L = nI (L - 6) + 6 := by
        rw [show (6 : Int32) = nI 6 from rfl, nI_add]
        congr 1
        omega
      rw [e2]
      exact Int32.add_sub_cancel _ _
    rw [e, nI_leI (by omega) (by omega)]
    omega
  · have h0 : ¬ nI k < 0 := nI_pos (by omega)
    have h1 : nI L - 6 < 0 := by
      match L, h with
      | 0, _ => decide
      | 1, _ => decide
      | 2, _ => decide
      | 3, _ => decide
      | 4, _ => decide
      | 5, _ => decide
      | n + 6, h => exact absurd (by omega) h
    constructor
    · intro h2
      exact absurd (Int32.lt_of_le_of_lt h2 h1) h0
    · intro h2
      omega
def fL_st (q a b c d e : Int32) (M : vM) (K : vM → Option (vR × vM)) : Option (vR × vM) :=
  if q = 0 then gCm (fX10_feed M a b c d e) (fun M1 => fX11_feed M1 a b c d e) K else
  if q = 1 then gWr (fL_town M a) (fun M1 => fX11_town M1 a) K else
  if q = 2 then gCm (fX10_fault M) (fun M1 => fX11_fault M1) K else
  if q = 3 then gWr (fL_count M a) (fun M1 => fX11_count M1 a) K else
  if q = 4 then gWr (fL_work M a b) (fun M1 => fX11_work M1 a b) K else
  if q = 5 then gWr (fL_way M a b c) (fun M1 => fX11_way M1 a b c) K else
  if q = 6 then gWr (fL_find M a b) (fun M1 => fX11_find M1 a b) K else
  if q = 7 then gWr (fL_same M a b c d) (fun M1 => fX11_same M1 a b c d) K else
  if q = 8 then gWz (fL_done M a b) (fun M1 => fX11_done M1 a b) K else
  if q = 9 then gWr (fL_book M a b) (fun M1 => fX11_book M1 a b) K else
  if q = 10 then gWr (fL_left M a b) (fun M1 => fX11_left M1 a b) K else
  if q = 11 then gWr (fL_tell M a b) (fun M1 => fX11_tell M1 a b) K else
  if q = 12 then gWr (fL_judge M a b) (fun M1 => fX11_judge M1 a b) K else
  if q = 13 then gWr (fL_apart M a b c) (fun M1 => fX11_apart M1 a b c) K else
  if q = 14 then gCm (fX10_weight M a b) (fun M1 => fX11_weight M1 a b) K else
  if q = 15 then gWr (fL_years M a b c) (fun M1 => fX11_years M1 a b c) K else
  if q = 16 then gWr (fL_lasts M a b) (fun M1 => fX11_lasts M1 a b) K else
  if q = 17 then gWr (fL_chance M a b c) (fun M1 => fX11_chance M1 a b c) K else
  if q = 18 then gWr (fL_joint M a b c) (fun M1 => fX11_joint M1 a b c) K else
  if q = 19 then gWr (fL_person M a b) (fun M1 => fX11_person M1 a b) K else
  if q = 20 then gWr (fL_given M a b) (fun M1 => fX11_given M1 a b) K else
  if q = 21 then gWr (fL_more M a b) (fun M1 => fX11_more M1 a b) K else
  if q = 22 then gWr (fL_court M a b c) (fun M1 => fX11_court M1 a b c) K else
  if q = 23 then gWr (fL_near M a b c) (fun M1 => fX11_near M1 a b c) K else
  if q = 24 then gWr (fL_drawn M a b c d) (fun M1 => fX11_drawn M1 a b c d) K else
  if q = 25 then gVo (fX10_image M) (fun M1 => fX11_image M1) K else
  if q = 26 then gCm (fX10_restore M) (fun M1 => fX11_restore M1) K else K M
def fL_go (L : Nat) (xs : Nat → Int32) : Nat → Nat → vM → Option (vR × vM)
  | 0, k, M => if k + 6 ≤ L then none else rI 1 M
  | r + 1, k, M => if k + 6 ≤ L then fL_st (xs k &&& 31) (xs (k + 1)) (xs (k + 2)) (xs (k + 3)) (xs (k + 4)) (xs (k + 5)) M (fL_go L xs r (k + 6)) else rI 1 M
abbrev lvB (k : Nat) : List (Nat × Value) := [(4, .int (nI k)), (0, .ref 6000), (1, .ref 0), (2, .ref 130), (3, .ref 174)]
section LawLoop
variable {l : Launch} {D : va_G} {dA : Nat → ClassId} {L : Nat} {xs : Nat → Int32}
theorem vL_c0 (hL : D.2 100 1 = L) (hx : ∀ j, nI (D.2 101 j) = xs j) (hL9 : L ≤ 3072) {r k : Nat} (hk : k + 6 ≤ L) {M : vM} (hI : v_WT M.2.2) {K : vM → Option (vR × vM)} (hC : ∀ M : vM, v_WT M.2.2 → V l D dA sL_law false 175 40 (1031 * r) (6186 * r) 1922 (lvB k) [] 175 M (K M)) : V l D dA sL_law false 175 40 (1031 * (r + 1)) (6186 * (r + 1)) 164 (lvB k) [] 175 M (gCm (fX10_feed M (xs (k + 1)) (xs (k + 2)) (xs (k + 3)) (xs (k + 4)) (xs (k + 5))) (fun M1 => fX11_feed M1 (xs (k + 1)) (xs (k + 2)) (xs (k + 3)) (xs (k + 4)) (xs (k + 5))) K) := by
  refine V_aload_n (k := 2) dL_law_164 rfl rfl ?_
  refine V_sarg (k := k) (j := 1) (p0 := 1) (p4 := 0) (L := L) hL (hx (k + 1)) (by omega) (by omega) rfl rfl rfl dL_law_165 dL_law_166 dL_law_168 dL_law_169 dL_law_170 ?_
  refine V_sarg (k := k) (j := 2) (p0 := 1) (p4 := 0) (L := L) hL (hx (k + 2)) (by omega) (by omega) rfl rfl rfl dL_law_171 dL_law_172 dL_law_174 dL_law_175 dL_law_176 ?_
  refine V_sarg (k := k) (j := 3) (p0 := 1) (p4 := 0) (L := L) hL (hx (k + 3)) (by omega) (by omega) rfl rfl rfl dL_law_177 dL_law_178 dL_law_180 dL_law_181 dL_law_182 ?_
  refine V_sarg (k := k) (j := 4) (p0 := 1) (p4 := 0) (L := L) hL (hx (k + 4)) (by omega) (by omega) rfl rfl rfl dL_law_183 dL_law_184 dL_law_186 dL_law_187 dL_law_188 ?_
  refine V_sarg (k := k) (j := 5) (p0 := 1) (p4 := 0) (L := L) hL (hx (k + 5)) (by omega) (by omega) rfl rfl rfl dL_law_189 dL_law_190 dL_law_192 dL_law_193 dL_law_194 ?_
  refine V_callVi (mc' := 0) (ms' := 0) (kc' := 1031 * r) (ks' := 6186 * r) (av := [.int (xs (k + 1)), .int (xs (k + 2)), .int (xs (k + 3)), .int (xs (k + 4)), .int (xs (k + 5))]) (st0 := []) (cls := 10) dL_law_195 lk_L_88 rfl (by decide) rfl rfl rfl (cX10_feed_ok M (xs (k + 1)) (xs (k + 2)) (xs (k + 3)) (xs (k + 4)) (xs (k + 5)) hI) rfl rfl (Nat.le_of_ble_eq_true rfl) (by decide) (Nat.le_of_ble_eq_true rfl) (Or.inl rfl) rfl rfl (by omega) (by omega) (fun a M1 _ hI1 => ?_)
  refine V_aload_n (k := 3) dL_law_198 rfl rfl ?_
  refine V_sarg (k := k) (j := 1) (p0 := 1) (p4 := 0) (L := L) hL (hx (k + 1)) (by omega) (by omega) rfl rfl rfl dL_law_199 dL_law_200 dL_law_202 dL_law_203 dL_law_204 ?_
  refine V_sarg (k := k) (j := 2) (p0 := 1) (p4 := 0) (L := L) hL (hx (k + 2)) (by omega) (by omega) rfl rfl rfl dL_law_205 dL_law_206 dL_law_208 dL_law_209 dL_law_210 ?_
  refine V_sarg (k := k) (j := 3) (p0 := 1) (p4 := 0) (L := L) hL (hx (k + 3)) (by omega) (by omega) rfl rfl rfl dL_law_211 dL_law_212 dL_law_214 dL_law_215 dL_law_216 ?_
  refine V_sarg (k := k) (j := 4) (p0 := 1) (p4 := 0) (L := L) hL (hx (k + 4)) (by omega) (by omega) rfl rfl rfl dL_law_217 dL_law_218 dL_law_220 dL_law_221 dL_law_222 ?_
  refine V_sarg (k := k) (j := 5) (p0 := 1) (p4 := 0) (L := L) hL (hx (k + 5)) (by omega) (by omega) rfl rfl rfl dL_law_223 dL_law_224 dL_law_226 dL_law_227 dL_law_228 ?_
  refine V_callVi (mc' := 0) (ms' := 0) (kc' := 1031 * r) (ks' := 6186 * r) (av := [.int (xs (k + 1)), .int (xs (k + 2)), .int (xs (k + 3)), .int (xs (k + 4)), .int (xs (k + 5))]) (st0 := [.int a]) (cls := 11) dL_law_229 lk_L_92 rfl (by decide) rfl rfl rfl (cX11_feed_ok M1 (xs (k + 1)) (xs (k + 2)) (xs (k + 3)) (xs (k + 4)) (xs (k + 5)) hI1) rfl rfl (Nat.le_of_ble_eq_true rfl) (by decide) (Nat.le_of_ble_eq_true rfl) (Or.inl rfl) rfl rfl (by omega) (by omega) (fun b M2 _ hI2 => ?_)
  refine V_icmpeq (tgt := 1922) dL_law_232 (by decide) (fun _ => ?_) (fun _ => V_none)
  exact hC M2 hI2
theorem vL_c1 (hT : l.stackTraces = false) (hL : D.2 100 1 = L) (hx : ∀ j, nI (D.2 101 j) = xs j) (hL9 : L ≤ 3072) {r k : Nat} (hk : k + 6 ≤ L) {M : vM} (hI : v_WT M.2.2) {K : vM → Option (vR × vM)} (hC : ∀ M : vM, v_WT M.2.2 → V l D dA sL_law false 175 40 (1031 * r) (6186 * r) 1922 (lvB k) [] 175 M (K M)) : V l D dA sL_law false 175 40 (1031 * (r + 1)) (6186 * (r + 1)) 237 (lvB k) [] 175 M (gWr (fL_town M (xs (k + 1))) (fun M1 => fX11_town M1 (xs (k + 1))) K) := by
  refine V_aload_n (k := 2) dL_law_237 rfl rfl ?_
  refine V_sarg (k := k) (j := 1) (p0 := 1) (p4 := 0) (L := L) hL (hx (k + 1)) (by omega) (by omega) rfl rfl rfl dL_law_238 dL_law_239 dL_law_241 dL_law_242 dL_law_243 ?_
  refine V_aload_n (k := 4) dL_law_244 rfl rfl ?_
  refine V_callSXi (mc' := 1) (ms' := 6) (kc' := 1031 * r) (ks' := 6186 * r) (av := [.ref 0, .int (xs (k + 1)), .ref 174]) (st0 := []) dL_law_245 lk_L_93 gw552 (by decide) (cL_town_ok hT M (xs (k + 1)) hI) rfl rfl (Nat.le_of_ble_eq_true rfl) (by decide) (by decide) rfl rfl rfl (by omega) (by omega) (fun kk M1 _ hI1 => ?_)
  refine V_istore (lv' := [(5, .int kk), (4, .int (nI k)), (0, .ref 6000), (1, .ref 0), (2, .ref 130), (3, .ref 174)]) dL_law_248 (by decide) rfl ?_
  refine V_aload_n (k := 4) dL_law_250 rfl rfl ?_
  refine V_sarg (k := k) (j := 1) (p0 := 2) (p4 := 1) (L := L) hL (hx (k + 1)) (by omega) (by omega) rfl rfl rfl dL_law_251 dL_law_252 dL_law_254 dL_law_255 dL_law_256 ?_
  refine V_callVi (mc' := 0) (ms' := 0) (kc' := 1031 * r) (ks' := 6186 * r) (av := [.int (xs (k + 1))]) (st0 := []) (cls := 11) dL_law_257 lk_L_98 rfl (by decide) rfl rfl rfl (cX11_town_ok M1 (xs (k + 1)) hI1) rfl rfl (Nat.le_of_ble_eq_true rfl) (by decide) (Nat.le_of_ble_eq_true rfl) (Or.inl rfl) rfl rfl (by omega) (by omega) (fun b M2 _ hI2 => ?_)
  refine V_istore (lv' := [(6, .int b), (5, .int kk), (4, .int (nI k)), (0, .ref 6000), (1, .ref 0), (2, .ref 130), (3, .ref 174)]) dL_law_260 (by decide) rfl ?_
  refine V_aload_n (k := 5) dL_law_262 rfl rfl ?_
  refine V_callVi (mc' := 0) (ms' := 0) (kc' := 1031 * r) (ks' := 6186 * r) (av := []) (st0 := []) (cls := 11) dL_law_263 lk_L_99 rfl (by decide) rfl rfl rfl (cX11_thrown_ok M2 hI2) rfl rfl (Nat.le_of_ble_eq_true rfl) (by decide) (Nat.le_of_ble_eq_true rfl) (Or.inl rfl) rfl rfl (by omega) (by omega) (fun c M3 _ hI3 => ?_)
  refine V_iload (k := 1) dL_law_266 rfl ?_
  refine V_icmpeq (tgt := 273) dL_law_268 (by decide) (fun _ => ?_) (fun _ => V_none)
  refine V_iload (k := 1) dL_law_273 rfl ?_
  have hE : V l D dA sL_law false 175 40 (1031 * r) (6186 * r) 290 [(6, .int b), (5, .int kk), (4, .int (nI k)), (0, .ref 6000), (1, .ref 0), (2, .ref 130), (3, .ref 174)] [] 175 M3 (K M3) := by
    refine V_goto (tgt := 1922) dL_law_290 (by decide) ?_
    exact V_sub [2, 3, 4, 5, 6] rfl (hC M3 hI3)
  refine V_ifne (tgt := 290) dL_law_275 (by decide) (fun _ => hE) (fun _ => ?_)
  refine V_aload_n (k := 6) dL_law_278 rfl rfl ?_
  refine V_iconst (v := 0) dL_law_279 rfl ?_
  refine V_laldT (j := 0) dL_law_280 rfl (by decide) (by decide) (by decide) ?_
  refine V_iload (k := 0) dL_law_281 rfl ?_
  refine V_i2l dL_law_283 ?_
  refine V_lcmp dL_law_284 ?_
  exact V_ifeq (tgt := 290) dL_law_285 (by decide) (fun _ => hE) (fun _ => V_none)
theorem vL_c2 (hL : D.2 100 1 = L) (hx : ∀ j, nI (D.2 101 j) = xs j) (hL9 : L ≤ 3072) {r k : Nat} (hk : k + 6 ≤ L) {M : vM} (hI : v_WT M.2.2) {K : vM → Option (vR × vM)} (hC : ∀ M : vM, v_WT M.2.2 → V l D dA sL_law false 175 40 (1031 * r) (6186 * r) 1922 (lvB k) [] 175 M (K M)) : V l D dA sL_law false 175 40 (1031 * (r + 1)) (6186 * (r + 1)) 293 (lvB k) [] 175 M (gCm (fX10_fault M) (fun M1 => fX11_fault M1) K) := by
  refine V_aload_n (k := 2) dL_law_293 rfl rfl ?_
  refine V_callVi (mc' := 0) (ms' := 0) (kc' := 1031 * r) (ks' := 6186 * r) (av := []) (st0 := []) (cls := 10) dL_law_294 lk_L_103 rfl (by decide) rfl rfl rfl (cX10_fault_ok M hI) rfl rfl (Nat.le_of_ble_eq_true rfl) (by decide) (Nat.le_of_ble_eq_true rfl) (Or.inl rfl) rfl rfl (by omega) (by omega) (fun a M1 _ hI1 => ?_)
  refine V_aload_n (k := 3) dL_law_297 rfl rfl ?_
  refine V_callVi (mc' := 0) (ms' := 0) (kc' := 1031 * r) (ks' := 6186 * r) (av := []) (st0 := [.int a]) (cls := 11) dL_law_298 lk_L_106 rfl (by decide) rfl rfl rfl (cX11_fault_ok M1 hI1) rfl rfl (Nat.le_of_ble_eq_true rfl) (by decide) (Nat.le_of_ble_eq_true rfl) (Or.inl rfl) rfl rfl (by omega) (by omega) (fun b M2 _ hI2 => ?_)
  refine V_icmpeq (tgt := 1922) dL_law_301 (by decide) (fun _ => ?_) (fun _ => V_none)
  exact hC M2 hI2
theorem vL_c3 (hT : l.stackTraces = false) (hL : D.2 100 1 = L) (hx : ∀ j, nI (D.2 101 j) = xs j) (hL9 : L ≤ 3072) {r k : Nat} (hk : k + 6 ≤ L) {M : vM} (hI : v_WT M.2.2) {K : vM → Option (vR × vM)} (hC : ∀ M : vM, v_WT M.2.2 → V l D dA sL_law false 175 40 (1031 * r) (6186 * r) 1922 (lvB k) [] 175 M (K M)) : V l D dA sL_law false 175 40 (1031 * (r + 1)) (6186 * (r + 1)) 306 (lvB k) [] 175 M (gWr (fL_count M (xs (k + 1))) (fun M1 => fX11_count M1 (xs (k + 1))) K) := by
  refine V_aload_n (k := 2) dL_law_306 rfl rfl ?_
  refine V_sarg (k := k) (j := 1) (p0 := 1) (p4 := 0) (L := L) hL (hx (k + 1)) (by omega) (by omega) rfl rfl rfl dL_law_307 dL_law_308 dL_law_310 dL_law_311 dL_law_312 ?_
  refine V_aload_n (k := 4) dL_law_313 rfl rfl ?_
  refine V_callSXi (mc' := 1) (ms' := 6) (kc' := 1031 * r) (ks' := 6186 * r) (av := [.ref 0, .int (xs (k + 1)), .ref 174]) (st0 := []) dL_law_314 lk_L_107 gw864 (by decide) (cL_count_ok hT M (xs (k + 1)) hI) rfl rfl (Nat.le_of_ble_eq_true rfl) (by decide) (by decide) rfl rfl rfl (by omega) (by omega) (fun kk M1 _ hI1 => ?_)
  refine V_istore (lv' := [(5, .int kk), (4, .int (nI k)), (0, .ref 6000), (1, .ref 0), (2, .ref 130), (3, .ref 174)]) dL_law_317 (by decide) rfl ?_
  refine V_aload_n (k := 4) dL_law_319 rfl rfl ?_
  refine V_sarg (k := k) (j := 1) (p0 := 2) (p4 := 1) (L := L) hL (hx (k + 1)) (by omega) (by omega) rfl rfl rfl dL_law_320 dL_law_321 dL_law_323 dL_law_324 dL_law_325 ?_
  refine V_callVi (mc' := 0) (ms' := 0) (kc' := 1031 * r) (ks' := 6186 * r) (av := [.int (xs (k + 1))]) (st0 := []) (cls := 11) dL_law_326 lk_L_109 rfl (by decide) rfl rfl rfl (cX11_count_ok M1 (xs (k + 1)) hI1) rfl rfl (Nat.le_of_ble_eq_true rfl) (by decide) (Nat.le_of_ble_eq_true rfl) (Or.inl rfl) rfl rfl (by omega) (by omega) (fun b M2 _ hI2 => ?_)
  refine V_istore (lv' := [(6, .int b), (5, .int kk), (4, .int (nI k)), (0, .ref 6000), (1, .ref 0), (2, .ref 130), (3, .ref 174)]) dL_law_329 (by decide) rfl ?_
  refine V_aload_n (k := 5) dL_law_331 rfl rfl ?_
  refine V_callVi (mc' := 0) (ms' := 0) (kc' := 1031 * r) (ks' := 6186 * r) (av := []) (st0 := []) (cls := 11) dL_law_332 lk_L_99 rfl (by decide) rfl rfl rfl (cX11_thrown_ok M2 hI2) rfl rfl (Nat.le_of_ble_eq_true rfl) (by decide) (Nat.le_of_ble_eq_true rfl) (Or.inl rfl) rfl rfl (by omega) (by omega) (fun c M3 _ hI3 => ?_)
  refine V_iload (k := 1) dL_law_335 rfl ?_
  refine V_icmpeq (tgt := 342) dL_law_337 (by decide) (fun _ => ?_) (fun _ => V_none)
  refine V_iload (k := 1) dL_law_342 rfl ?_
  have hE : V l D dA sL_law false 175 40 (1031 * r) (6186 * r) 359 [(6, .int b), (5, .int kk), (4, .int (nI k)), (0, .ref 6000), (1, .ref 0), (2, .ref 130), (3, .ref 174)] [] 175 M3 (K M3) := by
    refine V_goto (tgt := 1922) dL_law_359 (by decide) ?_
    exact V_sub [2, 3, 4, 5, 6] rfl (hC M3 hI3)
  refine V_ifne (tgt := 359) dL_law_344 (by decide) (fun _ => hE) (fun _ => ?_)
  refine V_aload_n (k := 6) dL_law_347 rfl rfl ?_
  refine V_iconst (v := 0) dL_law_348 rfl ?_
  refine V_laldT (j := 0) dL_law_349 rfl (by decide) (by decide) (by decide) ?_
  refine V_iload (k := 0) dL_law_350 rfl ?_
  refine V_i2l dL_law_352 ?_
  refine V_lcmp dL_law_353 ?_
  exact V_ifeq (tgt := 359) dL_law_354 (by decide) (fun _ => hE) (fun _ => V_none)
theorem vL_c4 (hT : l.stackTraces = false) (hL : D.2 100 1 = L) (hx : ∀ j, nI (D.2 101 j) = xs j) (hL9 : L ≤ 3072) {r k : Nat} (hk : k + 6 ≤ L) {M : vM} (hI : v_WT M.2.2) {K : vM → Option (vR × vM)} (hC : ∀ M : vM, v_WT M.2.2 → V l D dA sL_law false 175 40 (1031 * r) (6186 * r) 1922 (lvB k) [] 175 M (K M)) : V l D dA sL_law false 175 40 (1031 * (r + 1)) (6186 * (r + 1)) 362 (lvB k) [] 175 M (gWr (fL_work M (xs (k + 1)) (xs (k + 2))) (fun M1 => fX11_work M1 (xs (k + 1)) (xs (k + 2))) K) := by
  refine V_aload_n (k := 2) dL_law_362 rfl rfl ?_
  refine V_sarg (k := k) (j := 1) (p0 := 1) (p4 := 0) (L := L) hL (hx (k + 1)) (by omega) (by omega) rfl rfl rfl dL_law_363 dL_law_364 dL_law_366 dL_law_367 dL_law_368 ?_
  refine V_sarg (k := k) (j := 2) (p0 := 1) (p4 := 0) (L := L) hL (hx (k + 2)) (by omega) (by omega) rfl rfl rfl dL_law_369 dL_law_370 dL_law_372 dL_law_373 dL_law_374 ?_
  refine V_aload_n (k := 4) dL_law_375 rfl rfl ?_
  refine V_callSXi (mc' := 2) (ms' := 12) (kc' := 1031 * r) (ks' := 6186 * r) (av := [.ref 0, .int (xs (k + 1)), .int (xs (k + 2)), .ref 174]) (st0 := []) dL_law_376 lk_L_110 gw892 (by decide) (cL_work_ok hT M (xs (k + 1)) (xs (k + 2)) hI) rfl rfl (Nat.le_of_ble_eq_true rfl) (by decide) (by decide) rfl rfl rfl (by omega) (by omega) (fun kk M1 _ hI1 => ?_)
  refine V_istore (lv' := [(5, .int kk), (4, .int (nI k)), (0, .ref 6000), (1, .ref 0), (2, .ref 130), (3, .ref 174)]) dL_law_379 (by decide) rfl ?_
  refine V_aload_n (k := 4) dL_law_381 rfl rfl ?_
  refine V_sarg (k := k) (j := 1) (p0 := 2) (p4 := 1) (L := L) hL (hx (k + 1)) (by omega) (by omega) rfl rfl rfl dL_law_382 dL_law_383 dL_law_385 dL_law_386 dL_law_387 ?_
  refine V_sarg (k := k) (j := 2) (p0 := 2) (p4 := 1) (L := L) hL (hx (k + 2)) (by omega) (by omega) rfl rfl rfl dL_law_388 dL_law_389 dL_law_391 dL_law_392 dL_law_393 ?_
  refine V_callVi (mc' := 0) (ms' := 0) (kc' := 1031 * r) (ks' := 6186 * r) (av := [.int (xs (k + 1)), .int (xs (k + 2))]) (st0 := []) (cls := 11) dL_law_394 lk_L_113 rfl (by decide) rfl rfl rfl (cX11_work_ok M1 (xs (k + 1)) (xs (k + 2)) hI1) rfl rfl (Nat.le_of_ble_eq_true rfl) (by decide) (Nat.le_of_ble_eq_true rfl) (Or.inl rfl) rfl rfl (by omega) (by omega) (fun b M2 _ hI2 => ?_)
  refine V_istore (lv' := [(6, .int b), (5, .int kk), (4, .int (nI k)), (0, .ref 6000), (1, .ref 0), (2, .ref 130), (3, .ref 174)]) dL_law_397 (by decide) rfl ?_
  refine V_aload_n (k := 5) dL_law_399 rfl rfl ?_
  refine V_callVi (mc' := 0) (ms' := 0) (kc' := 1031 * r) (ks' := 6186 * r) (av := []) (st0 := []) (cls := 11) dL_law_400 lk_L_99 rfl (by decide) rfl rfl rfl (cX11_thrown_ok M2 hI2) rfl rfl (Nat.le_of_ble_eq_true rfl) (by decide) (Nat.le_of_ble_eq_true rfl) (Or.inl rfl) rfl rfl (by omega) (by omega) (fun c M3 _ hI3 => ?_)
  refine V_iload (k := 1) dL_law_403 rfl ?_
  refine V_icmpeq (tgt := 410) dL_law_405 (by decide) (fun _ => ?_) (fun _ => V_none)
  refine V_iload (k := 1) dL_law_410 rfl ?_
  have hE : V l D dA sL_law false 175 40 (1031 * r) (6186 * r) 427 [(6, .int b), (5, .int kk), (4, .int (nI k)), (0, .ref 6000), (1, .ref 0), (2, .ref 130), (3, .ref 174)] [] 175 M3 (K M3) := by
    refine V_goto (tgt := 1922) dL_law_427 (by decide) ?_
    exact V_sub [2, 3, 4, 5, 6] rfl (hC M3 hI3)
  refine V_ifne (tgt := 427) dL_law_412 (by decide) (fun _ => hE) (fun _ => ?_)
  refine V_aload_n (k := 6) dL_law_415 rfl rfl ?_
  refine V_iconst (v := 0) dL_law_416 rfl ?_
  refine V_laldT (j := 0) dL_law_417 rfl (by decide) (by decide) (by decide) ?_
  refine V_iload (k := 0) dL_law_418 rfl ?_
  refine V_i2l dL_law_420 ?_
  refine V_lcmp dL_law_421 ?_
  exact V_ifeq (tgt := 427) dL_law_422 (by decide) (fun _ => hE) (fun _ => V_none)
theorem vL_c5 (hT : l.stackTraces = false) (hL : D.2 100 1 = L) (hx : ∀ j, nI (D.2 101 j) = xs j) (hL9 : L ≤ 3072) {r k : Nat} (hk : k + 6 ≤ L) {M : vM} (hI : v_WT M.2.2) {K : vM → Option (vR × vM)} (hC : ∀ M : vM, v_WT M.2.2 → V l D dA sL_law false 175 40 (1031 * r) (6186 * r) 1922 (lvB k) [] 175 M (K M)) : V l D dA sL_law false 175 40 (1031 * (r + 1)) (6186 * (r + 1)) 430 (lvB k) [] 175 M (gWr (fL_way M (xs (k + 1)) (xs (k + 2)) (xs (k + 3))) (fun M1 => fX11_way M1 (xs (k + 1)) (xs (k + 2)) (xs (k + 3))) K) := by
  refine V_aload_n (k := 2) dL_law_430 rfl rfl ?_
  refine V_sarg (k := k) (j := 1) (p0 := 1) (p4 := 0) (L := L) hL (hx (k + 1)) (by omega) (by omega) rfl rfl rfl dL_law_431 dL_law_432 dL_law_434 dL_law_435 dL_law_436 ?_
  refine V_sarg (k := k) (j := 2) (p0 := 1) (p4 := 0) (L := L) hL (hx (k + 2)) (by omega) (by omega) rfl rfl rfl dL_law_437 dL_law_438 dL_law_440 dL_law_441 dL_law_442 ?_
  refine V_sarg (k := k) (j := 3) (p0 := 1) (p4 := 0) (L := L) hL (hx (k + 3)) (by omega) (by omega) rfl rfl rfl dL_law_443 dL_law_444 dL_law_446 dL_law_447 dL_law_448 ?_
  refine V_aload_n (k := 4) dL_law_449 rfl rfl ?_
  refine V_callSXi (mc' := 3) (ms' := 18) (kc' := 1031 * r) (ks' := 6186 * r) (av := [.ref 0, .int (xs (k + 1)), .int (xs (k + 2)), .int (xs (k + 3)), .ref 174]) (st0 := []) dL_law_450 lk_L_114 gw917 (by decide) (cL_way_ok hT M (xs (k + 1)) (xs (k + 2)) (xs (k + 3)) hI) rfl rfl (Nat.le_of_ble_eq_true rfl) (by decide) (by decide) rfl rfl rfl (by omega) (by omega) (fun kk M1 _ hI1 => ?_)
  refine V_istore (lv' := [(5, .int kk), (4, .int (nI k)), (0, .ref 6000), (1, .ref 0), (2, .ref 130), (3, .ref 174)]) dL_law_453 (by decide) rfl ?_
  refine V_aload_n (k := 4) dL_law_455 rfl rfl ?_
  refine V_sarg (k := k) (j := 1) (p0 := 2) (p4 := 1) (L := L) hL (hx (k + 1)) (by omega) (by omega) rfl rfl rfl dL_law_456 dL_law_457 dL_law_459 dL_law_460 dL_law_461 ?_
  refine V_sarg (k := k) (j := 2) (p0 := 2) (p4 := 1) (L := L) hL (hx (k + 2)) (by omega) (by omega) rfl rfl rfl dL_law_462 dL_law_463 dL_law_465 dL_law_466 dL_law_467 ?_
  refine V_sarg (k := k) (j := 3) (p0 := 2) (p4 := 1) (L := L) hL (hx (k + 3)) (by omega) (by omega) rfl rfl rfl dL_law_468 dL_law_469 dL_law_471 dL_law_472 dL_law_473 ?_
  refine V_callVi (mc' := 0) (ms' := 0) (kc' := 1031 * r) (ks' := 6186 * r) (av := [.int (xs (k + 1)), .int (xs (k + 2)), .int (xs (k + 3))]) (st0 := []) (cls := 11) dL_law_474 lk_L_117 rfl (by decide) rfl rfl rfl (cX11_way_ok M1 (xs (k + 1)) (xs (k + 2)) (xs (k + 3)) hI1) rfl rfl (Nat.le_of_ble_eq_true rfl) (by decide) (Nat.le_of_ble_eq_true rfl) (Or.inl rfl) rfl rfl (by omega) (by omega) (fun b M2 _ hI2 => ?_)
  refine V_istore (lv' := [(6, .int b), (5, .int kk), (4, .int (nI k)), (0, .ref 6000), (1, .ref 0), (2, .ref 130), (3, .ref 174)]) dL_law_477 (by decide) rfl ?_
  refine V_aload_n (k := 5) dL_law_479 rfl rfl ?_
  refine V_callVi (mc' := 0) (ms' := 0) (kc' := 1031 * r) (ks' := 6186 * r) (av := []) (st0 := []) (cls := 11) dL_law_480 lk_L_99 rfl (by decide) rfl rfl rfl (cX11_thrown_ok M2 hI2) rfl rfl (Nat.le_of_ble_eq_true rfl) (by decide) (Nat.le_of_ble_eq_true rfl) (Or.inl rfl) rfl rfl (by omega) (by omega) (fun c M3 _ hI3 => ?_)
  refine V_iload (k := 1) dL_law_483 rfl ?_
  refine V_icmpeq (tgt := 490) dL_law_485 (by decide) (fun _ => ?_) (fun _ => V_none)
  refine V_iload (k := 1) dL_law_490 rfl ?_
  have hE : V l D dA sL_law false 175 40 (1031 * r) (6186 * r) 507 [(6, .int b), (5, .int kk), (4, .int (nI k)), (0, .ref 6000), (1, .ref 0), (2, .ref 130), (3, .ref 174)] [] 175 M3 (K M3) := by
    refine V_goto (tgt := 1922) dL_law_507 (by decide) ?_
    exact V_sub [2, 3, 4, 5, 6] rfl (hC M3 hI3)
  refine V_ifne (tgt := 507) dL_law_492 (by decide) (fun _ => hE) (fun _ => ?_)
  refine V_aload_n (k := 6) dL_law_495 rfl rfl ?_
  refine V_iconst (v := 0) dL_law_496 rfl ?_
  refine V_laldT (j := 0) dL_law_497 rfl (by decide) (by decide) (by decide) ?_
  refine V_iload (k := 0) dL_law_498 rfl ?_
  refine V_i2l dL_law_500 ?_
  refine V_lcmp dL_law_501 ?_
  exact V_ifeq (tgt := 507) dL_law_502 (by decide) (fun _ => hE) (fun _ => V_none)
theorem vL_c6 (hT : l.stackTraces = false) (hL : D.2 100 1 = L) (hx : ∀ j, nI (D.2 101 j) = xs j) (hL9 : L ≤ 3072) {r k : Nat} (hk : k + 6 ≤ L) {M : vM} (hI : v_WT M.2.2) {K : vM → Option (vR × vM)} (hC : ∀ M : vM, v_WT M.2.2 → V l D dA sL_law false 175 40 (1031 * r) (6186 * r) 1922 (lvB k) [] 175 M (K M)) : V l D dA sL_law false 175 40 (1031 * (r + 1)) (6186 * (r + 1)) 510 (lvB k) [] 175 M (gWr (fL_find M (xs (k + 1)) (xs (k + 2))) (fun M1 => fX11_find M1 (xs (k + 1)) (xs (k + 2))) K) := by
  refine V_aload_n (k := 2) dL_law_510 rfl rfl ?_
  refine V_sarg (k := k) (j := 1) (p0 := 1) (p4 := 0) (L := L) hL (hx (k + 1)) (by omega) (by omega) rfl rfl rfl dL_law_511 dL_law_512 dL_law_514 dL_law_515 dL_law_516 ?_
  refine V_sarg (k := k) (j := 2) (p0 := 1) (p4 := 0) (L := L) hL (hx (k + 2)) (by omega) (by omega) rfl rfl rfl dL_law_517 dL_law_518 dL_law_520 dL_law_521 dL_law_522 ?_
  refine V_aload_n (k := 4) dL_law_523 rfl rfl ?_
  refine V_callSXi (mc' := 1) (ms' := 6) (kc' := 1031 * r) (ks' := 6186 * r) (av := [.ref 0, .int (xs (k + 1)), .int (xs (k + 2)), .ref 174]) (st0 := []) dL_law_524 lk_L_118 gw943 (by decide) (cL_find_ok hT M (xs (k + 1)) (xs (k + 2)) hI) rfl rfl (Nat.le_of_ble_eq_true rfl) (by decide) (by decide) rfl rfl rfl (by omega) (by omega) (fun kk M1 _ hI1 => ?_)
  refine V_istore (lv' := [(5, .int kk), (4, .int (nI k)), (0, .ref 6000), (1, .ref 0), (2, .ref 130), (3, .ref 174)]) dL_law_527 (by decide) rfl ?_
  refine V_aload_n (k := 4) dL_law_529 rfl rfl ?_
  refine V_sarg (k := k) (j := 1) (p0 := 2) (p4 := 1) (L := L) hL (hx (k + 1)) (by omega) (by omega) rfl rfl rfl dL_law_530 dL_law_531 dL_law_533 dL_law_534 dL_law_535 ?_
  refine V_sarg (k := k) (j := 2) (p0 := 2) (p4 := 1) (L := L) hL (hx (k + 2)) (by omega) (by omega) rfl rfl rfl dL_law_536 dL_law_537 dL_law_539 dL_law_540 dL_law_541 ?_
  refine V_callVi (mc' := 0) (ms' := 0) (kc' := 1031 * r) (ks' := 6186 * r) (av := [.int (xs (k + 1)), .int (xs (k + 2))]) (st0 := []) (cls := 11) dL_law_542 lk_L_120 rfl (by decide) rfl rfl rfl (cX11_find_ok M1 (xs (k + 1)) (xs (k + 2)) hI1) rfl rfl (Nat.le_of_ble_eq_true rfl) (by decide) (Nat.le_of_ble_eq_true rfl) (Or.inl rfl) rfl rfl (by omega) (by omega) (fun b M2 _ hI2 => ?_)
  refine V_istore (lv' := [(6, .int b), (5, .int kk), (4, .int (nI k)), (0, .ref 6000), (1, .ref 0), (2, .ref 130), (3, .ref 174)]) dL_law_545 (by decide) rfl ?_
  refine V_aload_n (k := 5) dL_law_547 rfl rfl ?_
  refine V_callVi (mc' := 0) (ms' := 0) (kc' := 1031 * r) (ks' := 6186 * r) (av := []) (st0 := []) (cls := 11) dL_law_548 lk_L_99 rfl (by decide) rfl rfl rfl (cX11_thrown_ok M2 hI2) rfl rfl (Nat.le_of_ble_eq_true rfl) (by decide) (Nat.le_of_ble_eq_true rfl) (Or.inl rfl) rfl rfl (by omega) (by omega) (fun c M3 _ hI3 => ?_)
  refine V_iload (k := 1) dL_law_551 rfl ?_
  refine V_icmpeq (tgt := 558) dL_law_553 (by decide) (fun _ => ?_) (fun _ => V_none)
  refine V_iload (k := 1) dL_law_558 rfl ?_
  have hE : V l D dA sL_law false 175 40 (1031 * r) (6186 * r) 575 [(6, .int b), (5, .int kk), (4, .int (nI k)), (0, .ref 6000), (1, .ref 0), (2, .ref 130), (3, .ref 174)] [] 175 M3 (K M3) := by
    refine V_goto (tgt := 1922) dL_law_575 (by decide) ?_
    exact V_sub [2, 3, 4, 5, 6] rfl (hC M3 hI3)
  refine V_ifne (tgt := 575) dL_law_560 (by decide) (fun _ => hE) (fun _ => ?_)
  refine V_aload_n (k := 6) dL_law_563 rfl rfl ?_
  refine V_iconst (v := 0) dL_law_564 rfl ?_
  refine V_laldT (j := 0) dL_law_565 rfl (by decide) (by decide) (by decide) ?_
  refine V_iload (k := 0) dL_law_566 rfl ?_
  refine V_i2l dL_law_568 ?_
  refine V_lcmp dL_law_569 ?_
  exact V_ifeq (tgt := 575) dL_law_570 (by decide) (fun _ => hE) (fun _ => V_none)
theorem vL_c7 (hT : l.stackTraces = false) (hL : D.2 100 1 = L) (hx : ∀ j, nI (D.2 101 j) = xs j) (hL9 : L ≤ 3072) {r k : Nat} (hk : k + 6 ≤ L) {M : vM} (hI : v_WT M.2.2) {K : vM → Option (vR × vM)} (hC : ∀ M : vM, v_WT M.2.2 → V l D dA sL_law false 175 40 (1031 * r) (6186 * r) 1922 (lvB k) [] 175 M (K M)) : V l D dA sL_law false 175 40 (1031 * (r + 1)) (6186 * (r + 1)) 578 (lvB k) [] 175 M (gWr (fL_same M (xs (k + 1)) (xs (k + 2)) (xs (k + 3)) (xs (k + 4))) (fun M1 => fX11_same M1 (xs (k + 1)) (xs (k + 2)) (xs (k + 3)) (xs (k + 4))) K) := by
  refine V_aload_n (k := 2) dL_law_578 rfl rfl ?_
  refine V_sarg (k := k) (j := 1) (p0 := 1) (p4 := 0) (L := L) hL (hx (k + 1)) (by omega) (by omega) rfl rfl rfl dL_law_579 dL_law_580 dL_law_582 dL_law_583 dL_law_584 ?_
  refine V_sarg (k := k) (j := 2) (p0 := 1) (p4 := 0) (L := L) hL (hx (k + 2)) (by omega) (by omega) rfl rfl rfl dL_law_585 dL_law_586 dL_law_588 dL_law_589 dL_law_590 ?_
  refine V_sarg (k := k) (j := 3) (p0 := 1) (p4 := 0) (L := L) hL (hx (k + 3)) (by omega) (by omega) rfl rfl rfl dL_law_591 dL_law_592 dL_law_594 dL_law_595 dL_law_596 ?_
  refine V_sarg (k := k) (j := 4) (p0 := 1) (p4 := 0) (L := L) hL (hx (k + 4)) (by omega) (by omega) rfl rfl rfl dL_law_597 dL_law_598 dL_law_600 dL_law_601 dL_law_602 ?_
  refine V_aload_n (k := 4) dL_law_603 rfl rfl ?_
  refine V_callSXi (mc' := 4) (ms' := 24) (kc' := 1031 * r) (ks' := 6186 * r) (av := [.ref 0, .int (xs (k + 1)), .int (xs (k + 2)), .int (xs (k + 3)), .int (xs (k + 4)), .ref 174]) (st0 := []) dL_law_604 lk_L_121 gw954 (by decide) (cL_same_ok hT M (xs (k + 1)) (xs (k + 2)) (xs (k + 3)) (xs (k + 4)) hI) rfl rfl (Nat.le_of_ble_eq_true rfl) (by decide) (by decide) rfl rfl rfl (by omega) (by omega) (fun kk M1 _ hI1 => ?_)
  refine V_istore (lv' := [(5, .int kk), (4, .int (nI k)), (0, .ref 6000), (1, .ref 0), (2, .ref 130), (3, .ref 174)]) dL_law_607 (by decide) rfl ?_
  refine V_aload_n (k := 4) dL_law_609 rfl rfl ?_
  refine V_sarg (k := k) (j := 1) (p0 := 2) (p4 := 1) (L := L) hL (hx (k + 1)) (by omega) (by omega) rfl rfl rfl dL_law_610 dL_law_611 dL_law_613 dL_law_614 dL_law_615 ?_
  refine V_sarg (k := k) (j := 2) (p0 := 2) (p4 := 1) (L := L) hL (hx (k + 2)) (by omega) (by omega) rfl rfl rfl dL_law_616 dL_law_617 dL_law_619 dL_law_620 dL_law_621 ?_
  refine V_sarg (k := k) (j := 3) (p0 := 2) (p4 := 1) (L := L) hL (hx (k + 3)) (by omega) (by omega) rfl rfl rfl dL_law_622 dL_law_623 dL_law_625 dL_law_626 dL_law_627 ?_
  refine V_sarg (k := k) (j := 4) (p0 := 2) (p4 := 1) (L := L) hL (hx (k + 4)) (by omega) (by omega) rfl rfl rfl dL_law_628 dL_law_629 dL_law_631 dL_law_632 dL_law_633 ?_
  refine V_callVi (mc' := 0) (ms' := 0) (kc' := 1031 * r) (ks' := 6186 * r) (av := [.int (xs (k + 1)), .int (xs (k + 2)), .int (xs (k + 3)), .int (xs (k + 4))]) (st0 := []) (cls := 11) dL_law_634 lk_L_124 rfl (by decide) rfl rfl rfl (cX11_same_ok M1 (xs (k + 1)) (xs (k + 2)) (xs (k + 3)) (xs (k + 4)) hI1) rfl rfl (Nat.le_of_ble_eq_true rfl) (by decide) (Nat.le_of_ble_eq_true rfl) (Or.inl rfl) rfl rfl (by omega) (by omega) (fun b M2 _ hI2 => ?_)
  refine V_istore (lv' := [(6, .int b), (5, .int kk), (4, .int (nI k)), (0, .ref 6000), (1, .ref 0), (2, .ref 130), (3, .ref 174)]) dL_law_637 (by decide) rfl ?_
  refine V_aload_n (k := 5) dL_law_639 rfl rfl ?_
  refine V_callVi (mc' := 0) (ms' := 0) (kc' := 1031 * r) (ks' := 6186 * r) (av := []) (st0 := []) (cls := 11) dL_law_640 lk_L_99 rfl (by decide) rfl rfl rfl (cX11_thrown_ok M2 hI2) rfl rfl (Nat.le_of_ble_eq_true rfl) (by decide) (Nat.le_of_ble_eq_true rfl) (Or.inl rfl) rfl rfl (by omega) (by omega) (fun c M3 _ hI3 => ?_)
  refine V_iload (k := 1) dL_law_643 rfl ?_
  refine V_icmpeq (tgt := 650) dL_law_645 (by decide) (fun _ => ?_) (fun _ => V_none)
  refine V_iload (k := 1) dL_law_650 rfl ?_
  have hE : V l D dA sL_law false 175 40 (1031 * r) (6186 * r) 667 [(6, .int b), (5, .int kk), (4, .int (nI k)), (0, .ref 6000), (1, .ref 0), (2, .ref 130), (3, .ref 174)] [] 175 M3 (K M3) := by
    refine V_goto (tgt := 1922) dL_law_667 (by decide) ?_
    exact V_sub [2, 3, 4, 5, 6] rfl (hC M3 hI3)
  refine V_ifne (tgt := 667) dL_law_652 (by decide) (fun _ => hE) (fun _ => ?_)
  refine V_aload_n (k := 6) dL_law_655 rfl rfl ?_
  refine V_iconst (v := 0) dL_law_656 rfl ?_
  refine V_laldT (j := 0) dL_law_657 rfl (by decide) (by decide) (by decide) ?_
  refine V_iload (k := 0) dL_law_658 rfl ?_
  refine V_i2l dL_law_660 ?_
  refine V_lcmp dL_law_661 ?_
  exact V_ifeq (tgt := 667) dL_law_662 (by decide) (fun _ => hE) (fun _ => V_none)
theorem vL_c8 (hT : l.stackTraces = false) (hL : D.2 100 1 = L) (hx : ∀ j, nI (D.2 101 j) = xs j) (hL9 : L ≤ 3072) {r k : Nat} (hk : k + 6 ≤ L) {M : vM} (hI : v_WT M.2.2) {K : vM → Option (vR × vM)} (hC : ∀ M : vM, v_WT M.2.2 → V l D dA sL_law false 175 40 (1031 * r) (6186 * r) 1922 (lvB k) [] 175 M (K M)) : V l D dA sL_law false 175 40 (1031 * (r + 1)) (6186 * (r + 1)) 670 (lvB k) [] 175 M (gWz (fL_done M (xs (k + 1)) (xs (k + 2))) (fun M1 => fX11_done M1 (xs (k + 1)) (xs (k + 2))) K) := by
  refine V_aload_n (k := 2) dL_law_670 rfl rfl ?_
  refine V_sarg (k := k) (j := 1) (p0 := 1) (p4 := 0) (L := L) hL (hx (k + 1)) (by omega) (by omega) rfl rfl rfl dL_law_671 dL_law_672 dL_law_674 dL_law_675 dL_law_676 ?_
  refine V_sarg (k := k) (j := 2) (p0 := 1) (p4 := 0) (L := L) hL (hx (k + 2)) (by omega) (by omega) rfl rfl rfl dL_law_677 dL_law_678 dL_law_680 dL_law_681 dL_law_682 ?_
  refine V_aload_n (k := 4) dL_law_683 rfl rfl ?_
  refine V_callSXi (mc' := 2) (ms' := 12) (kc' := 1031 * r) (ks' := 6186 * r) (av := [.ref 0, .int (xs (k + 1)), .int (xs (k + 2)), .ref 174]) (st0 := []) dL_law_684 lk_L_125 gw969 (by decide) (cL_done_ok hT M (xs (k + 1)) (xs (k + 2)) hI) rfl rfl (Nat.le_of_ble_eq_true rfl) (by decide) (by decide) rfl rfl rfl (by omega) (by omega) (fun kk M1 _ hI1 => ?_)
  refine V_istore (lv' := [(5, .int kk), (4, .int (nI k)), (0, .ref 6000), (1, .ref 0), (2, .ref 130), (3, .ref 174)]) dL_law_687 (by decide) rfl ?_
  refine V_aload_n (k := 4) dL_law_689 rfl rfl ?_
  refine V_sarg (k := k) (j := 1) (p0 := 2) (p4 := 1) (L := L) hL (hx (k + 1)) (by omega) (by omega) rfl rfl rfl dL_law_690 dL_law_691 dL_law_693 dL_law_694 dL_law_695 ?_
  refine V_sarg (k := k) (j := 2) (p0 := 2) (p4 := 1) (L := L) hL (hx (k + 2)) (by omega) (by omega) rfl rfl rfl dL_law_696 dL_law_697 dL_law_699 dL_law_700 dL_law_701 ?_
  refine V_callVi (mc' := 0) (ms' := 0) (kc' := 1031 * r) (ks' := 6186 * r) (av := [.int (xs (k + 1)), .int (xs (k + 2))]) (st0 := []) (cls := 11) dL_law_702 lk_L_127 rfl (by decide) rfl rfl rfl (cX11_done_ok M1 (xs (k + 1)) (xs (k + 2)) hI1) rfl rfl (Nat.le_of_ble_eq_true rfl) (by decide) (Nat.le_of_ble_eq_true rfl) (Or.inl rfl) rfl rfl (by omega) (by omega) (fun b M2 _ hI2 => ?_)
  refine V_istore (lv' := [(6, .int b), (5, .int kk), (4, .int (nI k)), (0, .ref 6000), (1, .ref 0), (2, .ref 130), (3, .ref 174)]) dL_law_705 (by decide) rfl ?_
  refine V_aload_n (k := 5) dL_law_707 rfl rfl ?_
  refine V_callVi (mc' := 0) (ms' := 0) (kc' := 1031 * r) (ks' := 6186 * r) (av := []) (st0 := []) (cls := 11) dL_law_708 lk_L_99 rfl (by decide) rfl rfl rfl (cX11_thrown_ok M2 hI2) rfl rfl (Nat.le_of_ble_eq_true rfl) (by decide) (Nat.le_of_ble_eq_true rfl) (Or.inl rfl) rfl rfl (by omega) (by omega) (fun c M3 _ hI3 => ?_)
  refine V_iload (k := 1) dL_law_711 rfl ?_
  refine V_icmpeq (tgt := 718) dL_law_713 (by decide) (fun _ => ?_) (fun _ => V_none)
  refine V_iload (k := 1) dL_law_718 rfl ?_
  have hE : V l D dA sL_law false 175 40 (1031 * r) (6186 * r) 742 [(6, .int b), (5, .int kk), (4, .int (nI k)), (0, .ref 6000), (1, .ref 0), (2, .ref 130), (3, .ref 174)] [] 175 M3 (K M3) := by
    refine V_goto (tgt := 1922) dL_law_742 (by decide) ?_
    exact V_sub [2, 3, 4, 5, 6] rfl (hC M3 hI3)
  refine V_ifne (tgt := 742) dL_law_720 (by decide) (fun _ => hE) (fun _ => ?_)
  refine V_aload_n (k := 6) dL_law_723 rfl rfl ?_
  refine V_iconst (v := 0) dL_law_724 rfl ?_
  refine V_laldT (j := 0) dL_law_725 rfl (by decide) (by decide) (by decide) ?_
  refine V_iload (k := 0) dL_law_726 rfl ?_
  refine V_ifeq (tgt := 735) dL_law_728 (by decide) (fun _ => ?_) (fun _ => ?_)
  · refine V_lconst (v := 0) dL_law_735 rfl ?_
    refine V_lcmp dL_law_736 ?_
    exact V_ifeq (tgt := 742) dL_law_737 (by decide) (fun _ => hE) (fun _ => V_none)
  · refine V_lconst (v := 1) dL_law_731 rfl ?_
    refine V_goto (tgt := 736) dL_law_732 (by decide) ?_
    refine V_lcmp dL_law_736 ?_
    exact V_ifeq (tgt := 742) dL_law_737 (by decide) (fun _ => hE) (fun _ => V_none)
theorem vL_c9 (hT : l.stackTraces = false) (hL : D.2 100 1 = L) (hx : ∀ j, nI (D.2 101 j) = xs j) (hL9 : L ≤ 3072) {r k : Nat} (hk : k + 6 ≤ L) {M : vM} (hI : v_WT M.2.2) {K : vM → Option (vR × vM)} (hC : ∀ M : vM, v_WT M.2.2 → V l D dA sL_law false 175 40 (1031 * r) (6186 * r) 1922 (lvB k) [] 175 M (K M)) : V l D dA sL_law false 175 40 (1031 * (r + 1)) (6186 * (r + 1)) 745 (lvB k) [] 175 M (gWr (fL_book M (xs (k + 1)) (xs (k + 2))) (fun M1 => fX11_book M1 (xs (k + 1)) (xs (k + 2))) K) := by
  refine V_aload_n (k := 2) dL_law_745 rfl rfl ?_
  refine V_sarg (k := k) (j := 1) (p0 := 1) (p4 := 0) (L := L) hL (hx (k + 1)) (by omega) (by omega) rfl rfl rfl dL_law_746 dL_law_747 dL_law_749 dL_law_750 dL_law_751 ?_
  refine V_sarg (k := k) (j := 2) (p0 := 1) (p4 := 0) (L := L) hL (hx (k + 2)) (by omega) (by omega) rfl rfl rfl dL_law_752 dL_law_753 dL_law_755 dL_law_756 dL_law_757 ?_
  refine V_aload_n (k := 4) dL_law_758 rfl rfl ?_
  refine V_callSXi (mc' := 2) (ms' := 12) (kc' := 1031 * r) (ks' := 6186 * r) (av := [.ref 0, .int (xs (k + 1)), .int (xs (k + 2)), .ref 174]) (st0 := []) dL_law_759 lk_L_128 gw984 (by decide) (cL_book_ok hT M (xs (k + 1)) (xs (k + 2)) hI) rfl rfl (Nat.le_of_ble_eq_true rfl) (by decide) (by decide) rfl rfl rfl (by omega) (by omega) (fun kk M1 _ hI1 => ?_)
  refine V_istore (lv' := [(5, .int kk), (4, .int (nI k)), (0, .ref 6000), (1, .ref 0), (2, .ref 130), (3, .ref 174)]) dL_law_762 (by decide) rfl ?_
  refine V_aload_n (k := 4) dL_law_764 rfl rfl ?_
  refine V_sarg (k := k) (j := 1) (p0 := 2) (p4 := 1) (L := L) hL (hx (k + 1)) (by omega) (by omega) rfl rfl rfl dL_law_765 dL_law_766 dL_law_768 dL_law_769 dL_law_770 ?_
  refine V_sarg (k := k) (j := 2) (p0 := 2) (p4 := 1) (L := L) hL (hx (k + 2)) (by omega) (by omega) rfl rfl rfl dL_law_771 dL_law_772 dL_law_774 dL_law_775 dL_law_776 ?_
  refine V_callVi (mc' := 0) (ms' := 0) (kc' := 1031 * r) (ks' := 6186 * r) (av := [.int (xs (k + 1)), .int (xs (k + 2))]) (st0 := []) (cls := 11) dL_law_777 lk_L_130 rfl (by decide) rfl rfl rfl (cX11_book_ok M1 (xs (k + 1)) (xs (k + 2)) hI1) rfl rfl (Nat.le_of_ble_eq_true rfl) (by decide) (Nat.le_of_ble_eq_true rfl) (Or.inl rfl) rfl rfl (by omega) (by omega) (fun b M2 _ hI2 => ?_)
  refine V_istore (lv' := [(6, .int b), (5, .int kk), (4, .int (nI k)), (0, .ref 6000), (1, .ref 0), (2, .ref 130), (3, .ref 174)]) dL_law_780 (by decide) rfl ?_
  refine V_aload_n (k := 5) dL_law_782 rfl rfl ?_
  refine V_callVi (mc' := 0) (ms' := 0) (kc' := 1031 * r) (ks' := 6186 * r) (av := []) (st0 := []) (cls := 11) dL_law_783 lk_L_99 rfl (by decide) rfl rfl rfl (cX11_thrown_ok M2 hI2) rfl rfl (Nat.le_of_ble_eq_true rfl) (by decide) (Nat.le_of_ble_eq_true rfl) (Or.inl rfl) rfl rfl (by omega) (by omega) (fun c M3 _ hI3 => ?_)
  refine V_iload (k := 1) dL_law_786 rfl ?_
  refine V_icmpeq (tgt := 793) dL_law_788 (by decide) (fun _ => ?_) (fun _ => V_none)
  refine V_iload (k := 1) dL_law_793 rfl ?_
  have hE : V l D dA sL_law false 175 40 (1031 * r) (6186 * r) 810 [(6, .int b), (5, .int kk), (4, .int (nI k)), (0, .ref 6000), (1, .ref 0), (2, .ref 130), (3, .ref 174)] [] 175 M3 (K M3) := by
    refine V_goto (tgt := 1922) dL_law_810 (by decide) ?_
    exact V_sub [2, 3, 4, 5, 6] rfl (hC M3 hI3)
  refine V_ifne (tgt := 810) dL_law_795 (by decide) (fun _ => hE) (fun _ => ?_)
  refine V_aload_n (k := 6) dL_law_798 rfl rfl ?_
  refine V_iconst (v := 0) dL_law_799 rfl ?_
  refine V_laldT (j := 0) dL_law_800 rfl (by decide) (by decide) (by decide) ?_
  refine V_iload (k := 0) dL_law_801 rfl ?_
  refine V_i2l dL_law_803 ?_
  refine V_lcmp dL_law_804 ?_
  exact V_ifeq (tgt := 810) dL_law_805 (by decide) (fun _ => hE) (fun _ => V_none)
theorem vL_c10 (hT : l.stackTraces = false) (hL : D.2 100 1 = L) (hx : ∀ j, nI (D.2 101 j) = xs j) (hL9 : L ≤ 3072) {r k : Nat} (hk : k + 6 ≤ L) {M : vM} (hI : v_WT M.2.2) {K : vM → Option (vR × vM)} (hC : ∀ M : vM, v_WT M.2.2 → V l D dA sL_law false 175 40 (1031 * r) (6186 * r) 1922 (lvB k) [] 175 M (K M)) : V l D dA sL_law false 175 40 (1031 * (r + 1)) (6186 * (r + 1)) 813 (lvB k) [] 175 M (gWr (fL_left M (xs (k + 1)) (xs (k + 2))) (fun M1 => fX11_left M1 (xs (k + 1)) (xs (k + 2))) K) := by
  refine V_aload_n (k := 2) dL_law_813 rfl rfl ?_
  refine V_sarg (k := k) (j := 1) (p0 := 1) (p4 := 0) (L := L) hL (hx (k + 1)) (by omega) (by omega) rfl rfl rfl dL_law_814 dL_law_815 dL_law_817 dL_law_818 dL_law_819 ?_
  refine V_sarg (k := k) (j := 2) (p0 := 1) (p4 := 0) (L := L) hL (hx (k + 2)) (by omega) (by omega) rfl rfl rfl dL_law_820 dL_law_821 dL_law_823 dL_law_824 dL_law_825 ?_
  refine V_aload_n (k := 4) dL_law_826 rfl rfl ?_
  refine V_callSXi (mc' := 2) (ms' := 12) (kc' := 1031 * r) (ks' := 6186 * r) (av := [.ref 0, .int (xs (k + 1)), .int (xs (k + 2)), .ref 174]) (st0 := []) dL_law_827 lk_L_131 gw992 (by decide) (cL_left_ok hT M (xs (k + 1)) (xs (k + 2)) hI) rfl rfl (Nat.le_of_ble_eq_true rfl) (by decide) (by decide) rfl rfl rfl (by omega) (by omega) (fun kk M1 _ hI1 => ?_)
  refine V_istore (lv' := [(5, .int kk), (4, .int (nI k)), (0, .ref 6000), (1, .ref 0), (2, .ref 130), (3, .ref 174)]) dL_law_830 (by decide) rfl ?_
  refine V_aload_n (k := 4) dL_law_832 rfl rfl ?_
  refine V_sarg (k := k) (j := 1) (p0 := 2) (p4 := 1) (L := L) hL (hx (k + 1)) (by omega) (by omega) rfl rfl rfl dL_law_833 dL_law_834 dL_law_836 dL_law_837 dL_law_838 ?_
  refine V_sarg (k := k) (j := 2) (p0 := 2) (p4 := 1) (L := L) hL (hx (k + 2)) (by omega) (by omega) rfl rfl rfl dL_law_839 dL_law_840 dL_law_842 dL_law_843 dL_law_844 ?_
  refine V_callVi (mc' := 0) (ms' := 0) (kc' := 1031 * r) (ks' := 6186 * r) (av := [.int (xs (k + 1)), .int (xs (k + 2))]) (st0 := []) (cls := 11) dL_law_845 lk_L_133 rfl (by decide) rfl rfl rfl (cX11_left_ok M1 (xs (k + 1)) (xs (k + 2)) hI1) rfl rfl (Nat.le_of_ble_eq_true rfl) (by decide) (Nat.le_of_ble_eq_true rfl) (Or.inl rfl) rfl rfl (by omega) (by omega) (fun b M2 _ hI2 => ?_)
  refine V_istore (lv' := [(6, .int b), (5, .int kk), (4, .int (nI k)), (0, .ref 6000), (1, .ref 0), (2, .ref 130), (3, .ref 174)]) dL_law_848 (by decide) rfl ?_
  refine V_aload_n (k := 5) dL_law_850 rfl rfl ?_
  refine V_callVi (mc' := 0) (ms' := 0) (kc' := 1031 * r) (ks' := 6186 * r) (av := []) (st0 := []) (cls := 11) dL_law_851 lk_L_99 rfl (by decide) rfl rfl rfl (cX11_thrown_ok M2 hI2) rfl rfl (Nat.le_of_ble_eq_true rfl) (by decide) (Nat.le_of_ble_eq_true rfl) (Or.inl rfl) rfl rfl (by omega) (by omega) (fun c M3 _ hI3 => ?_)
  refine V_iload (k := 1) dL_law_854 rfl ?_
  refine V_icmpeq (tgt := 861) dL_law_856 (by decide) (fun _ => ?_) (fun _ => V_none)
  refine V_iload (k := 1) dL_law_861 rfl ?_
  have hE : V l D dA sL_law false 175 40 (1031 * r) (6186 * r) 878 [(6, .int b), (5, .int kk), (4, .int (nI k)), (0, .ref 6000), (1, .ref 0), (2, .ref 130), (3, .ref 174)] [] 175 M3 (K M3) := by
    refine V_goto (tgt := 1922) dL_law_878 (by decide) ?_
    exact V_sub [2, 3, 4, 5, 6] rfl (hC M3 hI3)
  refine V_ifne (tgt := 878) dL_law_863 (by decide) (fun _ => hE) (fun _ => ?_)
  refine V_aload_n (k := 6) dL_law_866 rfl rfl ?_
  refine V_iconst (v := 0) dL_law_867 rfl ?_
  refine V_laldT (j := 0) dL_law_868 rfl (by decide) (by decide) (by decide) ?_
  refine V_iload (k := 0) dL_law_869 rfl ?_
  refine V_i2l dL_law_871 ?_
  refine V_lcmp dL_law_872 ?_
  exact V_ifeq (tgt := 878) dL_law_873 (by decide) (fun _ => hE) (fun _ => V_none)
theorem vL_c11 (hT : l.stackTraces = false) (hL : D.2 100 1 = L) (hx : ∀ j, nI (D.2 101 j) = xs j) (hL9 : L ≤ 3072) {r k : Nat} (hk : k + 6 ≤ L) {M : vM} (hI : v_WT M.2.2) {K : vM → Option (vR × vM)} (hC : ∀ M : vM, v_WT M.2.2 → V l D dA sL_law false 175 40 (1031 * r) (6186 * r) 1922 (lvB k) [] 175 M (K M)) : V l D dA sL_law false 175 40 (1031 * (r + 1)) (6186 * (r + 1)) 881 (lvB k) [] 175 M (gWr (fL_tell M (xs (k + 1)) (xs (k + 2))) (fun M1 => fX11_tell M1 (xs (k + 1)) (xs (k + 2))) K) := by
  refine V_aload_n (k := 2) dL_law_881 rfl rfl ?_
  refine V_sarg (k := k) (j := 1) (p0 := 1) (p4 := 0) (L := L) hL (hx (k + 1)) (by omega) (by omega) rfl rfl rfl dL_law_882 dL_law_883 dL_law_885 dL_law_886 dL_law_887 ?_
  refine V_sarg (k := k) (j := 2) (p0 := 1) (p4 := 0) (L := L) hL (hx (k + 2)) (by omega) (by omega) rfl rfl rfl dL_law_888 dL_law_889 dL_law_891 dL_law_892 dL_law_893 ?_
  refine V_aload_n (k := 4) dL_law_894 rfl rfl ?_
  refine V_callSXi (mc' := 1) (ms' := 6) (kc' := 1031 * r) (ks' := 6186 * r) (av := [.ref 0, .int (xs (k + 1)), .int (xs (k + 2)), .ref 174]) (st0 := []) dL_law_895 lk_L_134 gw1004 (by decide) (cL_tell_ok hT M (xs (k + 1)) (xs (k + 2)) hI) rfl rfl (Nat.le_of_ble_eq_true rfl) (by decide) (by decide) rfl rfl rfl (by omega) (by omega) (fun kk M1 _ hI1 => ?_)
  refine V_istore (lv' := [(5, .int kk), (4, .int (nI k)), (0, .ref 6000), (1, .ref 0), (2, .ref 130), (3, .ref 174)]) dL_law_898 (by decide) rfl ?_
  refine V_aload_n (k := 4) dL_law_900 rfl rfl ?_
  refine V_sarg (k := k) (j := 1) (p0 := 2) (p4 := 1) (L := L) hL (hx (k + 1)) (by omega) (by omega) rfl rfl rfl dL_law_901 dL_law_902 dL_law_904 dL_law_905 dL_law_906 ?_
  refine V_sarg (k := k) (j := 2) (p0 := 2) (p4 := 1) (L := L) hL (hx (k + 2)) (by omega) (by omega) rfl rfl rfl dL_law_907 dL_law_908 dL_law_910 dL_law_911 dL_law_912 ?_
  refine V_callVi (mc' := 0) (ms' := 0) (kc' := 1031 * r) (ks' := 6186 * r) (av := [.int (xs (k + 1)), .int (xs (k + 2))]) (st0 := []) (cls := 11) dL_law_913 lk_L_136 rfl (by decide) rfl rfl rfl (cX11_tell_ok M1 (xs (k + 1)) (xs (k + 2)) hI1) rfl rfl (Nat.le_of_ble_eq_true rfl) (by decide) (Nat.le_of_ble_eq_true rfl) (Or.inl rfl) rfl rfl (by omega) (by omega) (fun b M2 _ hI2 => ?_)
  refine V_istore (lv' := [(6, .int b), (5, .int kk), (4, .int (nI k)), (0, .ref 6000), (1, .ref 0), (2, .ref 130), (3, .ref 174)]) dL_law_916 (by decide) rfl ?_
  refine V_aload_n (k := 5) dL_law_918 rfl rfl ?_
  refine V_callVi (mc' := 0) (ms' := 0) (kc' := 1031 * r) (ks' := 6186 * r) (av := []) (st0 := []) (cls := 11) dL_law_919 lk_L_99 rfl (by decide) rfl rfl rfl (cX11_thrown_ok M2 hI2) rfl rfl (Nat.le_of_ble_eq_true rfl) (by decide) (Nat.le_of_ble_eq_true rfl) (Or.inl rfl) rfl rfl (by omega) (by omega) (fun c M3 _ hI3 => ?_)
  refine V_iload (k := 1) dL_law_922 rfl ?_
  refine V_icmpeq (tgt := 929) dL_law_924 (by decide) (fun _ => ?_) (fun _ => V_none)
  refine V_iload (k := 1) dL_law_929 rfl ?_
  have hE : V l D dA sL_law false 175 40 (1031 * r) (6186 * r) 946 [(6, .int b), (5, .int kk), (4, .int (nI k)), (0, .ref 6000), (1, .ref 0), (2, .ref 130), (3, .ref 174)] [] 175 M3 (K M3) := by
    refine V_goto (tgt := 1922) dL_law_946 (by decide) ?_
    exact V_sub [2, 3, 4, 5, 6] rfl (hC M3 hI3)
  refine V_ifne (tgt := 946) dL_law_931 (by decide) (fun _ => hE) (fun _ => ?_)
  refine V_aload_n (k := 6) dL_law_934 rfl rfl ?_
  refine V_iconst (v := 0) dL_law_935 rfl ?_
  refine V_laldT (j := 0) dL_law_936 rfl (by decide) (by decide) (by decide) ?_
  refine V_iload (k := 0) dL_law_937 rfl ?_
  refine V_i2l dL_law_939 ?_
  refine V_lcmp dL_law_940 ?_
  exact V_ifeq (tgt := 946) dL_law_941 (by decide) (fun _ => hE) (fun _ => V_none)
theorem vL_c12 (hT : l.stackTraces = false) (hL : D.2 100 1 = L) (hx : ∀ j, nI (D.2 101 j) = xs j) (hL9 : L ≤ 3072) {r k : Nat} (hk : k + 6 ≤ L) {M : vM} (hI : v_WT M.2.2) {K : vM → Option (vR × vM)} (hC : ∀ M : vM, v_WT M.2.2 → V l D dA sL_law false 175 40 (1031 * r) (6186 * r) 1922 (lvB k) [] 175 M (K M)) : V l D dA sL_law false 175 40 (1031 * (r + 1)) (6186 * (r + 1)) 949 (lvB k) [] 175 M (gWr (fL_judge M (xs (k + 1)) (xs (k + 2))) (fun M1 => fX11_judge M1 (xs (k + 1)) (xs (k + 2))) K) := by
  refine V_aload_n (k := 2) dL_law_949 rfl rfl ?_
  refine V_sarg (k := k) (j := 1) (p0 := 1) (p4 := 0) (L := L) hL (hx (k + 1)) (by omega) (by omega) rfl rfl rfl dL_law_950 dL_law_951 dL_law_953 dL_law_954 dL_law_955 ?_
  refine V_sarg (k := k) (j := 2) (p0 := 1) (p4 := 0) (L := L) hL (hx (k + 2)) (by omega) (by omega) rfl rfl rfl dL_law_956 dL_law_957 dL_law_959 dL_law_960 dL_law_961 ?_
  refine V_aload_n (k := 4) dL_law_962 rfl rfl ?_
  refine V_callSXi (mc' := 2) (ms' := 12) (kc' := 1031 * r) (ks' := 6186 * r) (av := [.ref 0, .int (xs (k + 1)), .int (xs (k + 2)), .ref 174]) (st0 := []) dL_law_963 lk_L_137 gw1016 (by decide) (cL_judge_ok hT M (xs (k + 1)) (xs (k + 2)) hI) rfl rfl (Nat.le_of_ble_eq_true rfl) (by decide) (by decide) rfl rfl rfl (by omega) (by omega) (fun kk M1 _ hI1 => ?_)
  refine V_istore (lv' := [(5, .int kk), (4, .int (nI k)), (0, .ref 6000), (1, .ref 0), (2, .ref 130), (3, .ref 174)]) dL_law_966 (by decide) rfl ?_
  refine V_aload_n (k := 4) dL_law_968 rfl rfl ?_
  refine V_sarg (k := k) (j := 1) (p0 := 2) (p4 := 1) (L := L) hL (hx (k + 1)) (by omega) (by omega) rfl rfl rfl dL_law_969 dL_law_970 dL_law_972 dL_law_973 dL_law_974 ?_
  refine V_sarg (k := k) (j := 2) (p0 := 2) (p4 := 1) (L := L) hL (hx (k + 2)) (by omega) (by omega) rfl rfl rfl dL_law_975 dL_law_976 dL_law_978 dL_law_979 dL_law_980 ?_
  refine V_callVi (mc' := 0) (ms' := 0) (kc' := 1031 * r) (ks' := 6186 * r) (av := [.int (xs (k + 1)), .int (xs (k + 2))]) (st0 := []) (cls := 11) dL_law_981 lk_L_139 rfl (by decide) rfl rfl rfl (cX11_judge_ok M1 (xs (k + 1)) (xs (k + 2)) hI1) rfl rfl (Nat.le_of_ble_eq_true rfl) (by decide) (Nat.le_of_ble_eq_true rfl) (Or.inl rfl) rfl rfl (by omega) (by omega) (fun b M2 _ hI2 => ?_)
  refine V_istore (lv' := [(6, .int b), (5, .int kk), (4, .int (nI k)), (0, .ref 6000), (1, .ref 0), (2, .ref 130), (3, .ref 174)]) dL_law_984 (by decide) rfl ?_
  refine V_aload_n (k := 5) dL_law_986 rfl rfl ?_
  refine V_callVi (mc' := 0) (ms' := 0) (kc' := 1031 * r) (ks' := 6186 * r) (av := []) (st0 := []) (cls := 11) dL_law_987 lk_L_99 rfl (by decide) rfl rfl rfl (cX11_thrown_ok M2 hI2) rfl rfl (Nat.le_of_ble_eq_true rfl) (by decide) (Nat.le_of_ble_eq_true rfl) (Or.inl rfl) rfl rfl (by omega) (by omega) (fun c M3 _ hI3 => ?_)
  refine V_iload (k := 1) dL_law_990 rfl ?_
  refine V_icmpeq (tgt := 997) dL_law_992 (by decide) (fun _ => ?_) (fun _ => V_none)
  refine V_iload (k := 1) dL_law_997 rfl ?_
  have hE : V l D dA sL_law false 175 40 (1031 * r) (6186 * r) 1014 [(6, .int b), (5, .int kk), (4, .int (nI k)), (0, .ref 6000), (1, .ref 0), (2, .ref 130), (3, .ref 174)] [] 175 M3 (K M3) := by
    refine V_goto (tgt := 1922) dL_law_1014 (by decide) ?_
    exact V_sub [2, 3, 4, 5, 6] rfl (hC M3 hI3)
  refine V_ifne (tgt := 1014) dL_law_999 (by decide) (fun _ => hE) (fun _ => ?_)
  refine V_aload_n (k := 6) dL_law_1002 rfl rfl ?_
  refine V_iconst (v := 0) dL_law_1003 rfl ?_
  refine V_laldT (j := 0) dL_law_1004 rfl (by decide) (by decide) (by decide) ?_
  refine V_iload (k := 0) dL_law_1005 rfl ?_
  refine V_i2l dL_law_1007 ?_
  refine V_lcmp dL_law_1008 ?_
  exact V_ifeq (tgt := 1014) dL_law_1009 (by decide) (fun _ => hE) (fun _ => V_none)
theorem vL_c13 (hT : l.stackTraces = false) (hL : D.2 100 1 = L) (hx : ∀ j, nI (D.2 101 j) = xs j) (hL9 : L ≤ 3072) {r k : Nat} (hk : k + 6 ≤ L) {M : vM} (hI : v_WT M.2.2) {K : vM → Option (vR × vM)} (hC : ∀ M : vM, v_WT M.2.2 → V l D dA sL_law false 175 40 (1031 * r) (6186 * r) 1922 (lvB k) [] 175 M (K M)) : V l D dA sL_law false 175 40 (1031 * (r + 1)) (6186 * (r + 1)) 1017 (lvB k) [] 175 M (gWr (fL_apart M (xs (k + 1)) (xs (k + 2)) (xs (k + 3))) (fun M1 => fX11_apart M1 (xs (k + 1)) (xs (k + 2)) (xs (k + 3))) K) := by
  refine V_aload_n (k := 2) dL_law_1017 rfl rfl ?_
  refine V_sarg (k := k) (j := 1) (p0 := 1) (p4 := 0) (L := L) hL (hx (k + 1)) (by omega) (by omega) rfl rfl rfl dL_law_1018 dL_law_1019 dL_law_1021 dL_law_1022 dL_law_1023 ?_
  refine V_sarg (k := k) (j := 2) (p0 := 1) (p4 := 0) (L := L) hL (hx (k + 2)) (by omega) (by omega) rfl rfl rfl dL_law_1024 dL_law_1025 dL_law_1027 dL_law_1028 dL_law_1029 ?_
  refine V_sarg (k := k) (j := 3) (p0 := 1) (p4 := 0) (L := L) hL (hx (k + 3)) (by omega) (by omega) rfl rfl rfl dL_law_1030 dL_law_1031 dL_law_1033 dL_law_1034 dL_law_1035 ?_
  refine V_aload_n (k := 4) dL_law_1036 rfl rfl ?_
  refine V_callSXi (mc' := 3) (ms' := 18) (kc' := 1031 * r) (ks' := 6186 * r) (av := [.ref 0, .int (xs (k + 1)), .int (xs (k + 2)), .int (xs (k + 3)), .ref 174]) (st0 := []) dL_law_1037 lk_L_140 gw1027 (by decide) (cL_apart_ok hT M (xs (k + 1)) (xs (k + 2)) (xs (k + 3)) hI) rfl rfl (Nat.le_of_ble_eq_true rfl) (by decide) (by decide) rfl rfl rfl (by omega) (by omega) (fun kk M1 _ hI1 => ?_)
  refine V_istore (lv' := [(5, .int kk), (4, .int (nI k)), (0, .ref 6000), (1, .ref 0), (2, .ref 130), (3, .ref 174)]) dL_law_1040 (by decide) rfl ?_
  refine V_aload_n (k := 4) dL_law_1042 rfl rfl ?_
  refine V_sarg (k := k) (j := 1) (p0 := 2) (p4 := 1) (L := L) hL (hx (k + 1)) (by omega) (by omega) rfl rfl rfl dL_law_1043 dL_law_1044 dL_law_1046 dL_law_1047 dL_law_1048 ?_
  refine V_sarg (k := k) (j := 2) (p0 := 2) (p4 := 1) (L := L) hL (hx (k + 2)) (by omega) (by omega) rfl rfl rfl dL_law_1049 dL_law_1050 dL_law_1052 dL_law_1053 dL_law_1054 ?_
  refine V_sarg (k := k) (j := 3) (p0 := 2) (p4 := 1) (L := L) hL (hx (k + 3)) (by omega) (by omega) rfl rfl rfl dL_law_1055 dL_law_1056 dL_law_1058 dL_law_1059 dL_law_1060 ?_
  refine V_callVi (mc' := 0) (ms' := 0) (kc' := 1031 * r) (ks' := 6186 * r) (av := [.int (xs (k + 1)), .int (xs (k + 2)), .int (xs (k + 3))]) (st0 := []) (cls := 11) dL_law_1061 lk_L_142 rfl (by decide) rfl rfl rfl (cX11_apart_ok M1 (xs (k + 1)) (xs (k + 2)) (xs (k + 3)) hI1) rfl rfl (Nat.le_of_ble_eq_true rfl) (by decide) (Nat.le_of_ble_eq_true rfl) (Or.inl rfl) rfl rfl (by omega) (by omega) (fun b M2 _ hI2 => ?_)
  refine V_istore (lv' := [(6, .int b), (5, .int kk), (4, .int (nI k)), (0, .ref 6000), (1, .ref 0), (2, .ref 130), (3, .ref 174)]) dL_law_1064 (by decide) rfl ?_
  refine V_aload_n (k := 5) dL_law_1066 rfl rfl ?_
  refine V_callVi (mc' := 0) (ms' := 0) (kc' := 1031 * r) (ks' := 6186 * r) (av := []) (st0 := []) (cls := 11) dL_law_1067 lk_L_99 rfl (by decide) rfl rfl rfl (cX11_thrown_ok M2 hI2) rfl rfl (Nat.le_of_ble_eq_true rfl) (by decide) (Nat.le_of_ble_eq_true rfl) (Or.inl rfl) rfl rfl (by omega) (by omega) (fun c M3 _ hI3 => ?_)
  refine V_iload (k := 1) dL_law_1070 rfl ?_
  refine V_icmpeq (tgt := 1077) dL_law_1072 (by decide) (fun _ => ?_) (fun _ => V_none)
  refine V_iload (k := 1) dL_law_1077 rfl ?_
  have hE : V l D dA sL_law false 175 40 (1031 * r) (6186 * r) 1094 [(6, .int b), (5, .int kk), (4, .int (nI k)), (0, .ref 6000), (1, .ref 0), (2, .ref 130), (3, .ref 174)] [] 175 M3 (K M3) := by
    refine V_goto (tgt := 1922) dL_law_1094 (by decide) ?_
    exact V_sub [2, 3, 4, 5, 6] rfl (hC M3 hI3)
  refine V_ifne (tgt := 1094) dL_law_1079 (by decide) (fun _ => hE) (fun _ => ?_)
  refine V_aload_n (k := 6) dL_law_1082 rfl rfl ?_
  refine V_iconst (v := 0) dL_law_1083 rfl ?_
  refine V_laldT (j := 0) dL_law_1084 rfl (by decide) (by decide) (by decide) ?_
  refine V_iload (k := 0) dL_law_1085 rfl ?_
  refine V_i2l dL_law_1087 ?_
  refine V_lcmp dL_law_1088 ?_
  exact V_ifeq (tgt := 1094) dL_law_1089 (by decide) (fun _ => hE) (fun _ => V_none)
theorem vL_c14 (hL : D.2 100 1 = L) (hx : ∀ j, nI (D.2 101 j) = xs j) (hL9 : L ≤ 3072) {r k : Nat} (hk : k + 6 ≤ L) {M : vM} (hI : v_WT M.2.2) {K : vM → Option (vR × vM)} (hC : ∀ M : vM, v_WT M.2.2 → V l D dA sL_law false 175 40 (1031 * r) (6186 * r) 1922 (lvB k) [] 175 M (K M)) : V l D dA sL_law false 175 40 (1031 * (r + 1)) (6186 * (r + 1)) 1097 (lvB k) [] 175 M (gCm (fX10_weight M (xs (k + 1)) (xs (k + 2))) (fun M1 => fX11_weight M1 (xs (k + 1)) (xs (k + 2))) K) := by
  refine V_aload_n (k := 2) dL_law_1097 rfl rfl ?_
  refine V_sarg (k := k) (j := 1) (p0 := 1) (p4 := 0) (L := L) hL (hx (k + 1)) (by omega) (by omega) rfl rfl rfl dL_law_1098 dL_law_1099 dL_law_1101 dL_law_1102 dL_law_1103 ?_
  refine V_sarg (k := k) (j := 2) (p0 := 1) (p4 := 0) (L := L) hL (hx (k + 2)) (by omega) (by omega) rfl rfl rfl dL_law_1104 dL_law_1105 dL_law_1107 dL_law_1108 dL_law_1109 ?_
  refine V_callVi (mc' := 0) (ms' := 0) (kc' := 1031 * r) (ks' := 6186 * r) (av := [.int (xs (k + 1)), .int (xs (k + 2))]) (st0 := []) (cls := 10) dL_law_1110 lk_L_143 rfl (by decide) rfl rfl rfl (cX10_weight_ok M (xs (k + 1)) (xs (k + 2)) hI) rfl rfl (Nat.le_of_ble_eq_true rfl) (by decide) (Nat.le_of_ble_eq_true rfl) (Or.inl rfl) rfl rfl (by omega) (by omega) (fun a M1 _ hI1 => ?_)
  refine V_aload_n (k := 3) dL_law_1113 rfl rfl ?_
  refine V_sarg (k := k) (j := 1) (p0 := 1) (p4 := 0) (L := L) hL (hx (k + 1)) (by omega) (by omega) rfl rfl rfl dL_law_1114 dL_law_1115 dL_law_1117 dL_law_1118 dL_law_1119 ?_
  refine V_sarg (k := k) (j := 2) (p0 := 1) (p4 := 0) (L := L) hL (hx (k + 2)) (by omega) (by omega) rfl rfl rfl dL_law_1120 dL_law_1121 dL_law_1123 dL_law_1124 dL_law_1125 ?_
  refine V_callVi (mc' := 0) (ms' := 0) (kc' := 1031 * r) (ks' := 6186 * r) (av := [.int (xs (k + 1)), .int (xs (k + 2))]) (st0 := [.int a]) (cls := 11) dL_law_1126 lk_L_146 rfl (by decide) rfl rfl rfl (cX11_weight_ok M1 (xs (k + 1)) (xs (k + 2)) hI1) rfl rfl (Nat.le_of_ble_eq_true rfl) (by decide) (Nat.le_of_ble_eq_true rfl) (Or.inl rfl) rfl rfl (by omega) (by omega) (fun b M2 _ hI2 => ?_)
  refine V_icmpeq (tgt := 1922) dL_law_1129 (by decide) (fun _ => ?_) (fun _ => V_none)
  exact hC M2 hI2
theorem vL_c15 (hT : l.stackTraces = false) (hL : D.2 100 1 = L) (hx : ∀ j, nI (D.2 101 j) = xs j) (hL9 : L ≤ 3072) {r k : Nat} (hk : k + 6 ≤ L) {M : vM} (hI : v_WT M.2.2) {K : vM → Option (vR × vM)} (hC : ∀ M : vM, v_WT M.2.2 → V l D dA sL_law false 175 40 (1031 * r) (6186 * r) 1922 (lvB k) [] 175 M (K M)) : V l D dA sL_law false 175 40 (1031 * (r + 1)) (6186 * (r + 1)) 1134 (lvB k) [] 175 M (gWr (fL_years M (xs (k + 1)) (xs (k + 2)) (xs (k + 3))) (fun M1 => fX11_years M1 (xs (k + 1)) (xs (k + 2)) (xs (k + 3))) K) := by
  refine V_aload_n (k := 2) dL_law_1134 rfl rfl ?_
  refine V_sarg (k := k) (j := 1) (p0 := 1) (p4 := 0) (L := L) hL (hx (k + 1)) (by omega) (by omega) rfl rfl rfl dL_law_1135 dL_law_1136 dL_law_1138 dL_law_1139 dL_law_1140 ?_
  refine V_sarg (k := k) (j := 2) (p0 := 1) (p4 := 0) (L := L) hL (hx (k + 2)) (by omega) (by omega) rfl rfl rfl dL_law_1141 dL_law_1142 dL_law_1144 dL_law_1145 dL_law_1146 ?_
  refine V_sarg (k := k) (j := 3) (p0 := 1) (p4 := 0) (L := L) hL (hx (k + 3)) (by omega) (by omega) rfl rfl rfl dL_law_1147 dL_law_1148 dL_law_1150 dL_law_1151 dL_law_1152 ?_
  refine V_aload_n (k := 4) dL_law_1153 rfl rfl ?_
  refine V_callSXi (mc' := 3) (ms' := 18) (kc' := 1031 * r) (ks' := 6186 * r) (av := [.ref 0, .int (xs (k + 1)), .int (xs (k + 2)), .int (xs (k + 3)), .ref 174]) (st0 := []) dL_law_1154 lk_L_147 gw1063 (by decide) (cL_years_ok hT M (xs (k + 1)) (xs (k + 2)) (xs (k + 3)) hI) rfl rfl (Nat.le_of_ble_eq_true rfl) (by decide) (by decide) rfl rfl rfl (by omega) (by omega) (fun kk M1 _ hI1 => ?_)
  refine V_istore (lv' := [(5, .int kk), (4, .int (nI k)), (0, .ref 6000), (1, .ref 0), (2, .ref 130), (3, .ref 174)]) dL_law_1157 (by decide) rfl ?_
  refine V_aload_n (k := 4) dL_law_1159 rfl rfl ?_
  refine V_sarg (k := k) (j := 1) (p0 := 2) (p4 := 1) (L := L) hL (hx (k + 1)) (by omega) (by omega) rfl rfl rfl dL_law_1160 dL_law_1161 dL_law_1163 dL_law_1164 dL_law_1165 ?_
  refine V_sarg (k := k) (j := 2) (p0 := 2) (p4 := 1) (L := L) hL (hx (k + 2)) (by omega) (by omega) rfl rfl rfl dL_law_1166 dL_law_1167 dL_law_1169 dL_law_1170 dL_law_1171 ?_
  refine V_sarg (k := k) (j := 3) (p0 := 2) (p4 := 1) (L := L) hL (hx (k + 3)) (by omega) (by omega) rfl rfl rfl dL_law_1172 dL_law_1173 dL_law_1175 dL_law_1176 dL_law_1177 ?_
  refine V_callVi (mc' := 0) (ms' := 0) (kc' := 1031 * r) (ks' := 6186 * r) (av := [.int (xs (k + 1)), .int (xs (k + 2)), .int (xs (k + 3))]) (st0 := []) (cls := 11) dL_law_1178 lk_L_149 rfl (by decide) rfl rfl rfl (cX11_years_ok M1 (xs (k + 1)) (xs (k + 2)) (xs (k + 3)) hI1) rfl rfl (Nat.le_of_ble_eq_true rfl) (by decide) (Nat.le_of_ble_eq_true rfl) (Or.inl rfl) rfl rfl (by omega) (by omega) (fun b M2 _ hI2 => ?_)
  refine V_istore (lv' := [(6, .int b), (5, .int kk), (4, .int (nI k)), (0, .ref 6000), (1, .ref 0), (2, .ref 130), (3, .ref 174)]) dL_law_1181 (by decide) rfl ?_
  refine V_aload_n (k := 5) dL_law_1183 rfl rfl ?_
  refine V_callVi (mc' := 0) (ms' := 0) (kc' := 1031 * r) (ks' := 6186 * r) (av := []) (st0 := []) (cls := 11) dL_law_1184 lk_L_99 rfl (by decide) rfl rfl rfl (cX11_thrown_ok M2 hI2) rfl rfl (Nat.le_of_ble_eq_true rfl) (by decide) (Nat.le_of_ble_eq_true rfl) (Or.inl rfl) rfl rfl (by omega) (by omega) (fun c M3 _ hI3 => ?_)
  refine V_iload (k := 1) dL_law_1187 rfl ?_
  refine V_icmpeq (tgt := 1194) dL_law_1189 (by decide) (fun _ => ?_) (fun _ => V_none)
  refine V_iload (k := 1) dL_law_1194 rfl ?_
  have hE : V l D dA sL_law false 175 40 (1031 * r) (6186 * r) 1211 [(6, .int b), (5, .int kk), (4, .int (nI k)), (0, .ref 6000), (1, .ref 0), (2, .ref 130), (3, .ref 174)] [] 175 M3 (K M3) := by
    refine V_goto (tgt := 1922) dL_law_1211 (by decide) ?_
    exact V_sub [2, 3, 4, 5, 6] rfl (hC M3 hI3)
  refine V_ifne (tgt := 1211) dL_law_1196 (by decide) (fun _ => hE) (fun _ => ?_)
  refine V_aload_n (k := 6) dL_law_1199 rfl rfl ?_
  refine V_iconst (v := 0) dL_law_1200 rfl ?_
  refine V_laldT (j := 0) dL_law_1201 rfl (by decide) (by decide) (by decide) ?_
  refine V_iload (k := 0) dL_law_1202 rfl ?_
  refine V_i2l dL_law_1204 ?_
  refine V_lcmp dL_law_1205 ?_
  exact V_ifeq (tgt := 1211) dL_law_1206 (by decide) (fun _ => hE) (fun _ => V_none)
theorem vL_c16 (hT : l.stackTraces = false) (hL : D.2 100 1 = L) (hx : ∀ j, nI (D.2 101 j) = xs j) (hL9 : L ≤ 3072) {r k : Nat} (hk : k + 6 ≤ L) {M : vM} (hI : v_WT M.2.2) {K : vM → Option (vR × vM)} (hC : ∀ M : vM, v_WT M.2.2 → V l D dA sL_law false 175 40 (1031 * r) (6186 * r) 1922 (lvB k) [] 175 M (K M)) : V l D dA sL_law false 175 40 (1031 * (r + 1)) (6186 * (r + 1)) 1214 (lvB k) [] 175 M (gWr (fL_lasts M (xs (k + 1)) (xs (k + 2))) (fun M1 => fX11_lasts M1 (xs (k + 1)) (xs (k + 2))) K) := by
  refine V_aload_n (k := 2) dL_law_1214 rfl rfl ?_
  refine V_sarg (k := k) (j := 1) (p0 := 1) (p4 := 0) (L := L) hL (hx (k + 1)) (by omega) (by omega) rfl rfl rfl dL_law_1215 dL_law_1216 dL_law_1218 dL_law_1219 dL_law_1220 ?_
  refine V_sarg (k := k) (j := 2) (p0 := 1) (p4 := 0) (L := L) hL (hx (k + 2)) (by omega) (by omega) rfl rfl rfl dL_law_1221 dL_law_1222 dL_law_1224 dL_law_1225 dL_law_1226 ?_
  refine V_aload_n (k := 4) dL_law_1227 rfl rfl ?_
  refine V_callSXi (mc' := 2) (ms' := 12) (kc' := 1031 * r) (ks' := 6186 * r) (av := [.ref 0, .int (xs (k + 1)), .int (xs (k + 2)), .ref 174]) (st0 := []) dL_law_1228 lk_L_150 gw1088 (by decide) (cL_lasts_ok hT M (xs (k + 1)) (xs (k + 2)) hI) rfl rfl (Nat.le_of_ble_eq_true rfl) (by decide) (by decide) rfl rfl rfl (by omega) (by omega) (fun kk M1 _ hI1 => ?_)
  refine V_istore (lv' := [(5, .int kk), (4, .int (nI k)), (0, .ref 6000), (1, .ref 0), (2, .ref 130), (3, .ref 174)]) dL_law_1231 (by decide) rfl ?_
  refine V_aload_n (k := 4) dL_law_1233 rfl rfl ?_
  refine V_sarg (k := k) (j := 1) (p0 := 2) (p4 := 1) (L := L) hL (hx (k + 1)) (by omega) (by omega) rfl rfl rfl dL_law_1234 dL_law_1235 dL_law_1237 dL_law_1238 dL_law_1239 ?_
  refine V_sarg (k := k) (j := 2) (p0 := 2) (p4 := 1) (L := L) hL (hx (k + 2)) (by omega) (by omega) rfl rfl rfl dL_law_1240 dL_law_1241 dL_law_1243 dL_law_1244 dL_law_1245 ?_
  refine V_callVi (mc' := 0) (ms' := 0) (kc' := 1031 * r) (ks' := 6186 * r) (av := [.int (xs (k + 1)), .int (xs (k + 2))]) (st0 := []) (cls := 11) dL_law_1246 lk_L_152 rfl (by decide) rfl rfl rfl (cX11_lasts_ok M1 (xs (k + 1)) (xs (k + 2)) hI1) rfl rfl (Nat.le_of_ble_eq_true rfl) (by decide) (Nat.le_of_ble_eq_true rfl) (Or.inl rfl) rfl rfl (by omega) (by omega) (fun b M2 _ hI2 => ?_)
  refine V_istore (lv' := [(6, .int b), (5, .int kk), (4, .int (nI k)), (0, .ref 6000), (1, .ref 0), (2, .ref 130), (3, .ref 174)]) dL_law_1249 (by decide) rfl ?_
  refine V_aload_n (k := 5) dL_law_1251 rfl rfl ?_
  refine V_callVi (mc' := 0) (ms' := 0) (kc' := 1031 * r) (ks' := 6186 * r) (av := []) (st0 := []) (cls := 11) dL_law_1252 lk_L_99 rfl (by decide) rfl rfl rfl (cX11_thrown_ok M2 hI2) rfl rfl (Nat.le_of_ble_eq_true rfl) (by decide) (Nat.le_of_ble_eq_true rfl) (Or.inl rfl) rfl rfl (by omega) (by omega) (fun c M3 _ hI3 => ?_)
  refine V_iload (k := 1) dL_law_1255 rfl ?_
  refine V_icmpeq (tgt := 1262) dL_law_1257 (by decide) (fun _ => ?_) (fun _ => V_none)
  refine V_iload (k := 1) dL_law_1262 rfl ?_
  have hE : V l D dA sL_law false 175 40 (1031 * r) (6186 * r) 1279 [(6, .int b), (5, .int kk), (4, .int (nI k)), (0, .ref 6000), (1, .ref 0), (2, .ref 130), (3, .ref 174)] [] 175 M3 (K M3) := by
    refine V_goto (tgt := 1922) dL_law_1279 (by decide) ?_
    exact V_sub [2, 3, 4, 5, 6] rfl (hC M3 hI3)
  refine V_ifne (tgt := 1279) dL_law_1264 (by decide) (fun _ => hE) (fun _ => ?_)
  refine V_aload_n (k := 6) dL_law_1267 rfl rfl ?_
  refine V_iconst (v := 0) dL_law_1268 rfl ?_
  refine V_laldT (j := 0) dL_law_1269 rfl (by decide) (by decide) (by decide) ?_
  refine V_iload (k := 0) dL_law_1270 rfl ?_
  refine V_i2l dL_law_1272 ?_
  refine V_lcmp dL_law_1273 ?_
  exact V_ifeq (tgt := 1279) dL_law_1274 (by decide) (fun _ => hE) (fun _ => V_none)
theorem vL_c17 (hT : l.stackTraces = false) (hL : D.2 100 1 = L) (hx : ∀ j, nI (D.2 101 j) = xs j) (hL9 : L ≤ 3072) {r k : Nat} (hk : k + 6 ≤ L) {M : vM} (hI : v_WT M.2.2) {K : vM → Option (vR × vM)} (hC : ∀ M : vM, v_WT M.2.2 → V l D dA sL_law false 175 40 (1031 * r) (6186 * r) 1922 (lvB k) [] 175 M (K M)) : V l D dA sL_law false 175 40 (1031 * (r + 1)) (6186 * (r + 1)) 1282 (lvB k) [] 175 M (gWr (fL_chance M (xs (k + 1)) (xs (k + 2)) (xs (k + 3))) (fun M1 => fX11_chance M1 (xs (k + 1)) (xs (k + 2)) (xs (k + 3))) K) := by
  refine V_aload_n (k := 2) dL_law_1282 rfl rfl ?_
  refine V_sarg (k := k) (j := 1) (p0 := 1) (p4 := 0) (L := L) hL (hx (k + 1)) (by omega) (by omega) rfl rfl rfl dL_law_1283 dL_law_1284 dL_law_1286 dL_law_1287 dL_law_1288 ?_
  refine V_sarg (k := k) (j := 2) (p0 := 1) (p4 := 0) (L := L) hL (hx (k + 2)) (by omega) (by omega) rfl rfl rfl dL_law_1289 dL_law_1290 dL_law_1292 dL_law_1293 dL_law_1294 ?_
  refine V_sarg (k := k) (j := 3) (p0 := 1) (p4 := 0) (L := L) hL (hx (k + 3)) (by omega) (by omega) rfl rfl rfl dL_law_1295 dL_law_1296 dL_law_1298 dL_law_1299 dL_law_1300 ?_
  refine V_aload_n (k := 4) dL_law_1301 rfl rfl ?_
  refine V_callSXi (mc' := 3) (ms' := 18) (kc' := 1031 * r) (ks' := 6186 * r) (av := [.ref 0, .int (xs (k + 1)), .int (xs (k + 2)), .int (xs (k + 3)), .ref 174]) (st0 := []) dL_law_1302 lk_L_153 gw1107 (by decide) (cL_chance_ok hT M (xs (k + 1)) (xs (k + 2)) (xs (k + 3)) hI) rfl rfl (Nat.le_of_ble_eq_true rfl) (by decide) (by decide) rfl rfl rfl (by omega) (by omega) (fun kk M1 _ hI1 => ?_)
  refine V_istore (lv' := [(5, .int kk), (4, .int (nI k)), (0, .ref 6000), (1, .ref 0), (2, .ref 130), (3, .ref 174)]) dL_law_1305 (by decide) rfl ?_
  refine V_aload_n (k := 4) dL_law_1307 rfl rfl ?_
  refine V_sarg (k := k) (j := 1) (p0 := 2) (p4 := 1) (L := L) hL (hx (k + 1)) (by omega) (by omega) rfl rfl rfl dL_law_1308 dL_law_1309 dL_law_1311 dL_law_1312 dL_law_1313 ?_
  refine V_sarg (k := k) (j := 2) (p0 := 2) (p4 := 1) (L := L) hL (hx (k + 2)) (by omega) (by omega) rfl rfl rfl dL_law_1314 dL_law_1315 dL_law_1317 dL_law_1318 dL_law_1319 ?_
  refine V_sarg (k := k) (j := 3) (p0 := 2) (p4 := 1) (L := L) hL (hx (k + 3)) (by omega) (by omega) rfl rfl rfl dL_law_1320 dL_law_1321 dL_law_1323 dL_law_1324 dL_law_1325 ?_
  refine V_callVi (mc' := 0) (ms' := 0) (kc' := 1031 * r) (ks' := 6186 * r) (av := [.int (xs (k + 1)), .int (xs (k + 2)), .int (xs (k + 3))]) (st0 := []) (cls := 11) dL_law_1326 lk_L_155 rfl (by decide) rfl rfl rfl (cX11_chance_ok M1 (xs (k + 1)) (xs (k + 2)) (xs (k + 3)) hI1) rfl rfl (Nat.le_of_ble_eq_true rfl) (by decide) (Nat.le_of_ble_eq_true rfl) (Or.inl rfl) rfl rfl (by omega) (by omega) (fun b M2 _ hI2 => ?_)
  refine V_istore (lv' := [(6, .int b), (5, .int kk), (4, .int (nI k)), (0, .ref 6000), (1, .ref 0), (2, .ref 130), (3, .ref 174)]) dL_law_1329 (by decide) rfl ?_
  refine V_aload_n (k := 5) dL_law_1331 rfl rfl ?_
  refine V_callVi (mc' := 0) (ms' := 0) (kc' := 1031 * r) (ks' := 6186 * r) (av := []) (st0 := []) (cls := 11) dL_law_1332 lk_L_99 rfl (by decide) rfl rfl rfl (cX11_thrown_ok M2 hI2) rfl rfl (Nat.le_of_ble_eq_true rfl) (by decide) (Nat.le_of_ble_eq_true rfl) (Or.inl rfl) rfl rfl (by omega) (by omega) (fun c M3 _ hI3 => ?_)
  refine V_iload (k := 1) dL_law_1335 rfl ?_
  refine V_icmpeq (tgt := 1342) dL_law_1337 (by decide) (fun _ => ?_) (fun _ => V_none)
  refine V_iload (k := 1) dL_law_1342 rfl ?_
  have hE : V l D dA sL_law false 175 40 (1031 * r) (6186 * r) 1359 [(6, .int b), (5, .int kk), (4, .int (nI k)), (0, .ref 6000), (1, .ref 0), (2, .ref 130), (3, .ref 174)] [] 175 M3 (K M3) := by
    refine V_goto (tgt := 1922) dL_law_1359 (by decide) ?_
    exact V_sub [2, 3, 4, 5, 6] rfl (hC M3 hI3)
  refine V_ifne (tgt := 1359) dL_law_1344 (by decide) (fun _ => hE) (fun _ => ?_)
  refine V_aload_n (k := 6) dL_law_1347 rfl rfl ?_
  refine V_iconst (v := 0) dL_law_1348 rfl ?_
  refine V_laldT (j := 0) dL_law_1349 rfl (by decide) (by decide) (by decide) ?_
  refine V_iload (k := 0) dL_law_1350 rfl ?_
  refine V_i2l dL_law_1352 ?_
  refine V_lcmp dL_law_1353 ?_
  exact V_ifeq (tgt := 1359) dL_law_1354 (by decide) (fun _ => hE) (fun _ => V_none)
theorem vL_c18 (hT : l.stackTraces = false) (hL : D.2 100 1 = L) (hx : ∀ j, nI (D.2 101 j) = xs j) (hL9 : L ≤ 3072) {r k : Nat} (hk : k + 6 ≤ L) {M : vM} (hI : v_WT M.2.2) {K : vM → Option (vR × vM)} (hC : ∀ M : vM, v_WT M.2.2 → V l D dA sL_law false 175 40 (1031 * r) (6186 * r) 1922 (lvB k) [] 175 M (K M)) : V l D dA sL_law false 175 40 (1031 * (r + 1)) (6186 * (r + 1)) 1362 (lvB k) [] 175 M (gWr (fL_joint M (xs (k + 1)) (xs (k + 2)) (xs (k + 3))) (fun M1 => fX11_joint M1 (xs (k + 1)) (xs (k + 2)) (xs (k + 3))) K) := by
  refine V_aload_n (k := 2) dL_law_1362 rfl rfl ?_
  refine V_sarg (k := k) (j := 1) (p0 := 1) (p4 := 0) (L := L) hL (hx (k + 1)) (by omega) (by omega) rfl rfl rfl dL_law_1363 dL_law_1364 dL_law_1366 dL_law_1367 dL_law_1368 ?_
  refine V_sarg (k := k) (j := 2) (p0 := 1) (p4 := 0) (L := L) hL (hx (k + 2)) (by omega) (by omega) rfl rfl rfl dL_law_1369 dL_law_1370 dL_law_1372 dL_law_1373 dL_law_1374 ?_
  refine V_sarg (k := k) (j := 3) (p0 := 1) (p4 := 0) (L := L) hL (hx (k + 3)) (by omega) (by omega) rfl rfl rfl dL_law_1375 dL_law_1376 dL_law_1378 dL_law_1379 dL_law_1380 ?_
  refine V_aload_n (k := 4) dL_law_1381 rfl rfl ?_
  refine V_callSXi (mc' := 4) (ms' := 24) (kc' := 1031 * r) (ks' := 6186 * r) (av := [.ref 0, .int (xs (k + 1)), .int (xs (k + 2)), .int (xs (k + 3)), .ref 174]) (st0 := []) dL_law_1382 lk_L_156 gw1130 (by decide) (cL_joint_ok hT M (xs (k + 1)) (xs (k + 2)) (xs (k + 3)) hI) rfl rfl (Nat.le_of_ble_eq_true rfl) (by decide) (by decide) rfl rfl rfl (by omega) (by omega) (fun kk M1 _ hI1 => ?_)
  refine V_istore (lv' := [(5, .int kk), (4, .int (nI k)), (0, .ref 6000), (1, .ref 0), (2, .ref 130), (3, .ref 174)]) dL_law_1385 (by decide) rfl ?_
  refine V_aload_n (k := 4) dL_law_1387 rfl rfl ?_
  refine V_sarg (k := k) (j := 1) (p0 := 2) (p4 := 1) (L := L) hL (hx (k + 1)) (by omega) (by omega) rfl rfl rfl dL_law_1388 dL_law_1389 dL_law_1391 dL_law_1392 dL_law_1393 ?_
  refine V_sarg (k := k) (j := 2) (p0 := 2) (p4 := 1) (L := L) hL (hx (k + 2)) (by omega) (by omega) rfl rfl rfl dL_law_1394 dL_law_1395 dL_law_1397 dL_law_1398 dL_law_1399 ?_
  refine V_sarg (k := k) (j := 3) (p0 := 2) (p4 := 1) (L := L) hL (hx (k + 3)) (by omega) (by omega) rfl rfl rfl dL_law_1400 dL_law_1401 dL_law_1403 dL_law_1404 dL_law_1405 ?_
  refine V_callVi (mc' := 0) (ms' := 0) (kc' := 1031 * r) (ks' := 6186 * r) (av := [.int (xs (k + 1)), .int (xs (k + 2)), .int (xs (k + 3))]) (st0 := []) (cls := 11) dL_law_1406 lk_L_158 rfl (by decide) rfl rfl rfl (cX11_joint_ok M1 (xs (k + 1)) (xs (k + 2)) (xs (k + 3)) hI1) rfl rfl (Nat.le_of_ble_eq_true rfl) (by decide) (Nat.le_of_ble_eq_true rfl) (Or.inl rfl) rfl rfl (by omega) (by omega) (fun b M2 _ hI2 => ?_)
  refine V_istore (lv' := [(6, .int b), (5, .int kk), (4, .int (nI k)), (0, .ref 6000), (1, .ref 0), (2, .ref 130), (3, .ref 174)]) dL_law_1409 (by decide) rfl ?_
  refine V_aload_n (k := 5) dL_law_1411 rfl rfl ?_
  refine V_callVi (mc' := 0) (ms' := 0) (kc' := 1031 * r) (ks' := 6186 * r) (av := []) (st0 := []) (cls := 11) dL_law_1412 lk_L_99 rfl (by decide) rfl rfl rfl (cX11_thrown_ok M2 hI2) rfl rfl (Nat.le_of_ble_eq_true rfl) (by decide) (Nat.le_of_ble_eq_true rfl) (Or.inl rfl) rfl rfl (by omega) (by omega) (fun c M3 _ hI3 => ?_)
  refine V_iload (k := 1) dL_law_1415 rfl ?_
  refine V_icmpeq (tgt := 1422) dL_law_1417 (by decide) (fun _ => ?_) (fun _ => V_none)
  refine V_iload (k := 1) dL_law_1422 rfl ?_
  have hE : V l D dA sL_law false 175 40 (1031 * r) (6186 * r) 1439 [(6, .int b), (5, .int kk), (4, .int (nI k)), (0, .ref 6000), (1, .ref 0), (2, .ref 130), (3, .ref 174)] [] 175 M3 (K M3) := by
    refine V_goto (tgt := 1922) dL_law_1439 (by decide) ?_
    exact V_sub [2, 3, 4, 5, 6] rfl (hC M3 hI3)
  refine V_ifne (tgt := 1439) dL_law_1424 (by decide) (fun _ => hE) (fun _ => ?_)
  refine V_aload_n (k := 6) dL_law_1427 rfl rfl ?_
  refine V_iconst (v := 0) dL_law_1428 rfl ?_
  refine V_laldT (j := 0) dL_law_1429 rfl (by decide) (by decide) (by decide) ?_
  refine V_iload (k := 0) dL_law_1430 rfl ?_
  refine V_i2l dL_law_1432 ?_
  refine V_lcmp dL_law_1433 ?_
  exact V_ifeq (tgt := 1439) dL_law_1434 (by decide) (fun _ => hE) (fun _ => V_none)
theorem vL_c19 (hT : l.stackTraces = false) (hL : D.2 100 1 = L) (hx : ∀ j, nI (D.2 101 j) = xs j) (hL9 : L ≤ 3072) {r k : Nat} (hk : k + 6 ≤ L) {M : vM} (hI : v_WT M.2.2) {K : vM → Option (vR × vM)} (hC : ∀ M : vM, v_WT M.2.2 → V l D dA sL_law false 175 40 (1031 * r) (6186 * r) 1922 (lvB k) [] 175 M (K M)) : V l D dA sL_law false 175 40 (1031 * (r + 1)) (6186 * (r + 1)) 1442 (lvB k) [] 175 M (gWr (fL_person M (xs (k + 1)) (xs (k + 2))) (fun M1 => fX11_person M1 (xs (k + 1)) (xs (k + 2))) K) := by
  refine V_aload_n (k := 2) dL_law_1442 rfl rfl ?_
  refine V_sarg (k := k) (j := 1) (p0 := 1) (p4 := 0) (L := L) hL (hx (k + 1)) (by omega) (by omega) rfl rfl rfl dL_law_1443 dL_law_1444 dL_law_1446 dL_law_1447 dL_law_1448 ?_
  refine V_sarg (k := k) (j := 2) (p0 := 1) (p4 := 0) (L := L) hL (hx (k + 2)) (by omega) (by omega) rfl rfl rfl dL_law_1449 dL_law_1450 dL_law_1452 dL_law_1453 dL_law_1454 ?_
  refine V_aload_n (k := 4) dL_law_1455 rfl rfl ?_
  refine V_callSXi (mc' := 1) (ms' := 6) (kc' := 1031 * r) (ks' := 6186 * r) (av := [.ref 0, .int (xs (k + 1)), .int (xs (k + 2)), .ref 174]) (st0 := []) dL_law_1456 lk_L_159 gw1145 (by decide) (cL_person_ok hT M (xs (k + 1)) (xs (k + 2)) hI) rfl rfl (Nat.le_of_ble_eq_true rfl) (by decide) (by decide) rfl rfl rfl (by omega) (by omega) (fun kk M1 _ hI1 => ?_)
  refine V_istore (lv' := [(5, .int kk), (4, .int (nI k)), (0, .ref 6000), (1, .ref 0), (2, .ref 130), (3, .ref 174)]) dL_law_1459 (by decide) rfl ?_
  refine V_aload_n (k := 4) dL_law_1461 rfl rfl ?_
  refine V_sarg (k := k) (j := 1) (p0 := 2) (p4 := 1) (L := L) hL (hx (k + 1)) (by omega) (by omega) rfl rfl rfl dL_law_1462 dL_law_1463 dL_law_1465 dL_law_1466 dL_law_1467 ?_
  refine V_sarg (k := k) (j := 2) (p0 := 2) (p4 := 1) (L := L) hL (hx (k + 2)) (by omega) (by omega) rfl rfl rfl dL_law_1468 dL_law_1469 dL_law_1471 dL_law_1472 dL_law_1473 ?_
  refine V_callVi (mc' := 0) (ms' := 0) (kc' := 1031 * r) (ks' := 6186 * r) (av := [.int (xs (k + 1)), .int (xs (k + 2))]) (st0 := []) (cls := 11) dL_law_1474 lk_L_161 rfl (by decide) rfl rfl rfl (cX11_person_ok M1 (xs (k + 1)) (xs (k + 2)) hI1) rfl rfl (Nat.le_of_ble_eq_true rfl) (by decide) (Nat.le_of_ble_eq_true rfl) (Or.inl rfl) rfl rfl (by omega) (by omega) (fun b M2 _ hI2 => ?_)
  refine V_istore (lv' := [(6, .int b), (5, .int kk), (4, .int (nI k)), (0, .ref 6000), (1, .ref 0), (2, .ref 130), (3, .ref 174)]) dL_law_1477 (by decide) rfl ?_
  refine V_aload_n (k := 5) dL_law_1479 rfl rfl ?_
  refine V_callVi (mc' := 0) (ms' := 0) (kc' := 1031 * r) (ks' := 6186 * r) (av := []) (st0 := []) (cls := 11) dL_law_1480 lk_L_99 rfl (by decide) rfl rfl rfl (cX11_thrown_ok M2 hI2) rfl rfl (Nat.le_of_ble_eq_true rfl) (by decide) (Nat.le_of_ble_eq_true rfl) (Or.inl rfl) rfl rfl (by omega) (by omega) (fun c M3 _ hI3 => ?_)
  refine V_iload (k := 1) dL_law_1483 rfl ?_
  refine V_icmpeq (tgt := 1490) dL_law_1485 (by decide) (fun _ => ?_) (fun _ => V_none)
  refine V_iload (k := 1) dL_law_1490 rfl ?_
  have hE : V l D dA sL_law false 175 40 (1031 * r) (6186 * r) 1507 [(6, .int b), (5, .int kk), (4, .int (nI k)), (0, .ref 6000), (1, .ref 0), (2, .ref 130), (3, .ref 174)] [] 175 M3 (K M3) := by
    refine V_goto (tgt := 1922) dL_law_1507 (by decide) ?_
    exact V_sub [2, 3, 4, 5, 6] rfl (hC M3 hI3)
  refine V_ifne (tgt := 1507) dL_law_1492 (by decide) (fun _ => hE) (fun _ => ?_)
  refine V_aload_n (k := 6) dL_law_1495 rfl rfl ?_
  refine V_iconst (v := 0) dL_law_1496 rfl ?_
  refine V_laldT (j := 0) dL_law_1497 rfl (by decide) (by decide) (by decide) ?_
  refine V_iload (k := 0) dL_law_1498 rfl ?_
  refine V_i2l dL_law_1500 ?_
  refine V_lcmp dL_law_1501 ?_
  exact V_ifeq (tgt := 1507) dL_law_1502 (by decide) (fun _ => hE) (fun _ => V_none)
theorem vL_c20 (hT : l.stackTraces = false) (hL : D.2 100 1 = L) (hx : ∀ j, nI (D.2 101 j) = xs j) (hL9 : L ≤ 3072) {r k : Nat} (hk : k + 6 ≤ L) {M : vM} (hI : v_WT M.2.2) {K : vM → Option (vR × vM)} (hC : ∀ M : vM, v_WT M.2.2 → V l D dA sL_law false 175 40 (1031 * r) (6186 * r) 1922 (lvB k) [] 175 M (K M)) : V l D dA sL_law false 175 40 (1031 * (r + 1)) (6186 * (r + 1)) 1510 (lvB k) [] 175 M (gWr (fL_given M (xs (k + 1)) (xs (k + 2))) (fun M1 => fX11_given M1 (xs (k + 1)) (xs (k + 2))) K) := by
  refine V_aload_n (k := 2) dL_law_1510 rfl rfl ?_
  refine V_sarg (k := k) (j := 1) (p0 := 1) (p4 := 0) (L := L) hL (hx (k + 1)) (by omega) (by omega) rfl rfl rfl dL_law_1511 dL_law_1512 dL_law_1514 dL_law_1515 dL_law_1516 ?_
  refine V_sarg (k := k) (j := 2) (p0 := 1) (p4 := 0) (L := L) hL (hx (k + 2)) (by omega) (by omega) rfl rfl rfl dL_law_1517 dL_law_1518 dL_law_1520 dL_law_1521 dL_law_1522 ?_
  refine V_aload_n (k := 4) dL_law_1523 rfl rfl ?_
  refine V_callSXi (mc' := 2) (ms' := 12) (kc' := 1031 * r) (ks' := 6186 * r) (av := [.ref 0, .int (xs (k + 1)), .int (xs (k + 2)), .ref 174]) (st0 := []) dL_law_1524 lk_L_162 gw1157 (by decide) (cL_given_ok hT M (xs (k + 1)) (xs (k + 2)) hI) rfl rfl (Nat.le_of_ble_eq_true rfl) (by decide) (by decide) rfl rfl rfl (by omega) (by omega) (fun kk M1 _ hI1 => ?_)
  refine V_istore (lv' := [(5, .int kk), (4, .int (nI k)), (0, .ref 6000), (1, .ref 0), (2, .ref 130), (3, .ref 174)]) dL_law_1527 (by decide) rfl ?_
  refine V_aload_n (k := 4) dL_law_1529 rfl rfl ?_
  refine V_sarg (k := k) (j := 1) (p0 := 2) (p4 := 1) (L := L) hL (hx (k + 1)) (by omega) (by omega) rfl rfl rfl dL_law_1530 dL_law_1531 dL_law_1533 dL_law_1534 dL_law_1535 ?_
  refine V_sarg (k := k) (j := 2) (p0 := 2) (p4 := 1) (L := L) hL (hx (k + 2)) (by omega) (by omega) rfl rfl rfl dL_law_1536 dL_law_1537 dL_law_1539 dL_law_1540 dL_law_1541 ?_
  refine V_callVi (mc' := 0) (ms' := 0) (kc' := 1031 * r) (ks' := 6186 * r) (av := [.int (xs (k + 1)), .int (xs (k + 2))]) (st0 := []) (cls := 11) dL_law_1542 lk_L_164 rfl (by decide) rfl rfl rfl (cX11_given_ok M1 (xs (k + 1)) (xs (k + 2)) hI1) rfl rfl (Nat.le_of_ble_eq_true rfl) (by decide) (Nat.le_of_ble_eq_true rfl) (Or.inl rfl) rfl rfl (by omega) (by omega) (fun b M2 _ hI2 => ?_)
  refine V_istore (lv' := [(6, .int b), (5, .int kk), (4, .int (nI k)), (0, .ref 6000), (1, .ref 0), (2, .ref 130), (3, .ref 174)]) dL_law_1545 (by decide) rfl ?_
  refine V_aload_n (k := 5) dL_law_1547 rfl rfl ?_
  refine V_callVi (mc' := 0) (ms' := 0) (kc' := 1031 * r) (ks' := 6186 * r) (av := []) (st0 := []) (cls := 11) dL_law_1548 lk_L_99 rfl (by decide) rfl rfl rfl (cX11_thrown_ok M2 hI2) rfl rfl (Nat.le_of_ble_eq_true rfl) (by decide) (Nat.le_of_ble_eq_true rfl) (Or.inl rfl) rfl rfl (by omega) (by omega) (fun c M3 _ hI3 => ?_)
  refine V_iload (k := 1) dL_law_1551 rfl ?_
  refine V_icmpeq (tgt := 1558) dL_law_1553 (by decide) (fun _ => ?_) (fun _ => V_none)
  refine V_iload (k := 1) dL_law_1558 rfl ?_
  have hE : V l D dA sL_law false 175 40 (1031 * r) (6186 * r) 1575 [(6, .int b), (5, .int kk), (4, .int (nI k)), (0, .ref 6000), (1, .ref 0), (2, .ref 130), (3, .ref 174)] [] 175 M3 (K M3) := by
    refine V_goto (tgt := 1922) dL_law_1575 (by decide) ?_
    exact V_sub [2, 3, 4, 5, 6] rfl (hC M3 hI3)
  refine V_ifne (tgt := 1575) dL_law_1560 (by decide) (fun _ => hE) (fun _ => ?_)
  refine V_aload_n (k := 6) dL_law_1563 rfl rfl ?_
  refine V_iconst (v := 0) dL_law_1564 rfl ?_
  refine V_laldT (j := 0) dL_law_1565 rfl (by decide) (by decide) (by decide) ?_
  refine V_iload (k := 0) dL_law_1566 rfl ?_
  refine V_i2l dL_law_1568 ?_
  refine V_lcmp dL_law_1569 ?_
  exact V_ifeq (tgt := 1575) dL_law_1570 (by decide) (fun _ => hE) (fun _ => V_none)
theorem vL_c21 (hT : l.stackTraces = false) (hL : D.2 100 1 = L) (hx : ∀ j, nI (D.2 101 j) = xs j) (hL9 : L ≤ 3072) {r k : Nat} (hk : k + 6 ≤ L) {M : vM} (hI : v_WT M.2.2) {K : vM → Option (vR × vM)} (hC : ∀ M : vM, v_WT M.2.2 → V l D dA sL_law false 175 40 (1031 * r) (6186 * r) 1922 (lvB k) [] 175 M (K M)) : V l D dA sL_law false 175 40 (1031 * (r + 1)) (6186 * (r + 1)) 1578 (lvB k) [] 175 M (gWr (fL_more M (xs (k + 1)) (xs (k + 2))) (fun M1 => fX11_more M1 (xs (k + 1)) (xs (k + 2))) K) := by
  refine V_aload_n (k := 2) dL_law_1578 rfl rfl ?_
  refine V_sarg (k := k) (j := 1) (p0 := 1) (p4 := 0) (L := L) hL (hx (k + 1)) (by omega) (by omega) rfl rfl rfl dL_law_1579 dL_law_1580 dL_law_1582 dL_law_1583 dL_law_1584 ?_
  refine V_sarg (k := k) (j := 2) (p0 := 1) (p4 := 0) (L := L) hL (hx (k + 2)) (by omega) (by omega) rfl rfl rfl dL_law_1585 dL_law_1586 dL_law_1588 dL_law_1589 dL_law_1590 ?_
  refine V_aload_n (k := 4) dL_law_1591 rfl rfl ?_
  refine V_callSXi (mc' := 3) (ms' := 18) (kc' := 1031 * r) (ks' := 6186 * r) (av := [.ref 0, .int (xs (k + 1)), .int (xs (k + 2)), .ref 174]) (st0 := []) dL_law_1592 lk_L_165 gw1183 (by decide) (cL_more_ok hT M (xs (k + 1)) (xs (k + 2)) hI) rfl rfl (Nat.le_of_ble_eq_true rfl) (by decide) (by decide) rfl rfl rfl (by omega) (by omega) (fun kk M1 _ hI1 => ?_)
  refine V_istore (lv' := [(5, .int kk), (4, .int (nI k)), (0, .ref 6000), (1, .ref 0), (2, .ref 130), (3, .ref 174)]) dL_law_1595 (by decide) rfl ?_
  refine V_aload_n (k := 4) dL_law_1597 rfl rfl ?_
  refine V_sarg (k := k) (j := 1) (p0 := 2) (p4 := 1) (L := L) hL (hx (k + 1)) (by omega) (by omega) rfl rfl rfl dL_law_1598 dL_law_1599 dL_law_1601 dL_law_1602 dL_law_1603 ?_
  refine V_sarg (k := k) (j := 2) (p0 := 2) (p4 := 1) (L := L) hL (hx (k + 2)) (by omega) (by omega) rfl rfl rfl dL_law_1604 dL_law_1605 dL_law_1607 dL_law_1608 dL_law_1609 ?_
  refine V_callVi (mc' := 0) (ms' := 0) (kc' := 1031 * r) (ks' := 6186 * r) (av := [.int (xs (k + 1)), .int (xs (k + 2))]) (st0 := []) (cls := 11) dL_law_1610 lk_L_167 rfl (by decide) rfl rfl rfl (cX11_more_ok M1 (xs (k + 1)) (xs (k + 2)) hI1) rfl rfl (Nat.le_of_ble_eq_true rfl) (by decide) (Nat.le_of_ble_eq_true rfl) (Or.inl rfl) rfl rfl (by omega) (by omega) (fun b M2 _ hI2 => ?_)
  refine V_istore (lv' := [(6, .int b), (5, .int kk), (4, .int (nI k)), (0, .ref 6000), (1, .ref 0), (2, .ref 130), (3, .ref 174)]) dL_law_1613 (by decide) rfl ?_
  refine V_aload_n (k := 5) dL_law_1615 rfl rfl ?_
  refine V_callVi (mc' := 0) (ms' := 0) (kc' := 1031 * r) (ks' := 6186 * r) (av := []) (st0 := []) (cls := 11) dL_law_1616 lk_L_99 rfl (by decide) rfl rfl rfl (cX11_thrown_ok M2 hI2) rfl rfl (Nat.le_of_ble_eq_true rfl) (by decide) (Nat.le_of_ble_eq_true rfl) (Or.inl rfl) rfl rfl (by omega) (by omega) (fun c M3 _ hI3 => ?_)
  refine V_iload (k := 1) dL_law_1619 rfl ?_
  refine V_icmpeq (tgt := 1626) dL_law_1621 (by decide) (fun _ => ?_) (fun _ => V_none)
  refine V_iload (k := 1) dL_law_1626 rfl ?_
  have hE : V l D dA sL_law false 175 40 (1031 * r) (6186 * r) 1643 [(6, .int b), (5, .int kk), (4, .int (nI k)), (0, .ref 6000), (1, .ref 0), (2, .ref 130), (3, .ref 174)] [] 175 M3 (K M3) := by
    refine V_goto (tgt := 1922) dL_law_1643 (by decide) ?_
    exact V_sub [2, 3, 4, 5, 6] rfl (hC M3 hI3)
  refine V_ifne (tgt := 1643) dL_law_1628 (by decide) (fun _ => hE) (fun _ => ?_)
  refine V_aload_n (k := 6) dL_law_1631 rfl rfl ?_
  refine V_iconst (v := 0) dL_law_1632 rfl ?_
  refine V_laldT (j := 0) dL_law_1633 rfl (by decide) (by decide) (by decide) ?_
  refine V_iload (k := 0) dL_law_1634 rfl ?_
  refine V_i2l dL_law_1636 ?_
  refine V_lcmp dL_law_1637 ?_
  exact V_ifeq (tgt := 1643) dL_law_1638 (by decide) (fun _ => hE) (fun _ => V_none)
theorem vL_c22 (hT : l.stackTraces = false) (hL : D.2 100 1 = L) (hx : ∀ j, nI (D.2 101 j) = xs j) (hL9 : L ≤ 3072) {r k : Nat} (hk : k + 6 ≤ L) {M : vM} (hI : v_WT M.2.2) {K : vM → Option (vR × vM)} (hC : ∀ M : vM, v_WT M.2.2 → V l D dA sL_law false 175 40 (1031 * r) (6186 * r) 1922 (lvB k) [] 175 M (K M)) : V l D dA sL_law false 175 40 (1031 * (r + 1)) (6186 * (r + 1)) 1646 (lvB k) [] 175 M (gWr (fL_court M (xs (k + 1)) (xs (k + 2)) (xs (k + 3))) (fun M1 => fX11_court M1 (xs (k + 1)) (xs (k + 2)) (xs (k + 3))) K) := by
  refine V_aload_n (k := 2) dL_law_1646 rfl rfl ?_
  refine V_sarg (k := k) (j := 1) (p0 := 1) (p4 := 0) (L := L) hL (hx (k + 1)) (by omega) (by omega) rfl rfl rfl dL_law_1647 dL_law_1648 dL_law_1650 dL_law_1651 dL_law_1652 ?_
  refine V_sarg (k := k) (j := 2) (p0 := 1) (p4 := 0) (L := L) hL (hx (k + 2)) (by omega) (by omega) rfl rfl rfl dL_law_1653 dL_law_1654 dL_law_1656 dL_law_1657 dL_law_1658 ?_
  refine V_sarg (k := k) (j := 3) (p0 := 1) (p4 := 0) (L := L) hL (hx (k + 3)) (by omega) (by omega) rfl rfl rfl dL_law_1659 dL_law_1660 dL_law_1662 dL_law_1663 dL_law_1664 ?_
  refine V_aload_n (k := 4) dL_law_1665 rfl rfl ?_
  refine V_callSXi (mc' := 3) (ms' := 18) (kc' := 1031 * r) (ks' := 6186 * r) (av := [.ref 0, .int (xs (k + 1)), .int (xs (k + 2)), .int (xs (k + 3)), .ref 174]) (st0 := []) dL_law_1666 lk_L_168 gw1208 (by decide) (cL_court_ok hT M (xs (k + 1)) (xs (k + 2)) (xs (k + 3)) hI) rfl rfl (Nat.le_of_ble_eq_true rfl) (by decide) (by decide) rfl rfl rfl (by omega) (by omega) (fun kk M1 _ hI1 => ?_)
  refine V_istore (lv' := [(5, .int kk), (4, .int (nI k)), (0, .ref 6000), (1, .ref 0), (2, .ref 130), (3, .ref 174)]) dL_law_1669 (by decide) rfl ?_
  refine V_aload_n (k := 4) dL_law_1671 rfl rfl ?_
  refine V_sarg (k := k) (j := 1) (p0 := 2) (p4 := 1) (L := L) hL (hx (k + 1)) (by omega) (by omega) rfl rfl rfl dL_law_1672 dL_law_1673 dL_law_1675 dL_law_1676 dL_law_1677 ?_
  refine V_sarg (k := k) (j := 2) (p0 := 2) (p4 := 1) (L := L) hL (hx (k + 2)) (by omega) (by omega) rfl rfl rfl dL_law_1678 dL_law_1679 dL_law_1681 dL_law_1682 dL_law_1683 ?_
  refine V_sarg (k := k) (j := 3) (p0 := 2) (p4 := 1) (L := L) hL (hx (k + 3)) (by omega) (by omega) rfl rfl rfl dL_law_1684 dL_law_1685 dL_law_1687 dL_law_1688 dL_law_1689 ?_
  refine V_callVi (mc' := 0) (ms' := 0) (kc' := 1031 * r) (ks' := 6186 * r) (av := [.int (xs (k + 1)), .int (xs (k + 2)), .int (xs (k + 3))]) (st0 := []) (cls := 11) dL_law_1690 lk_L_170 rfl (by decide) rfl rfl rfl (cX11_court_ok M1 (xs (k + 1)) (xs (k + 2)) (xs (k + 3)) hI1) rfl rfl (Nat.le_of_ble_eq_true rfl) (by decide) (Nat.le_of_ble_eq_true rfl) (Or.inl rfl) rfl rfl (by omega) (by omega) (fun b M2 _ hI2 => ?_)
  refine V_istore (lv' := [(6, .int b), (5, .int kk), (4, .int (nI k)), (0, .ref 6000), (1, .ref 0), (2, .ref 130), (3, .ref 174)]) dL_law_1693 (by decide) rfl ?_
  refine V_aload_n (k := 5) dL_law_1695 rfl rfl ?_
  refine V_callVi (mc' := 0) (ms' := 0) (kc' := 1031 * r) (ks' := 6186 * r) (av := []) (st0 := []) (cls := 11) dL_law_1696 lk_L_99 rfl (by decide) rfl rfl rfl (cX11_thrown_ok M2 hI2) rfl rfl (Nat.le_of_ble_eq_true rfl) (by decide) (Nat.le_of_ble_eq_true rfl) (Or.inl rfl) rfl rfl (by omega) (by omega) (fun c M3 _ hI3 => ?_)
  refine V_iload (k := 1) dL_law_1699 rfl ?_
  refine V_icmpeq (tgt := 1706) dL_law_1701 (by decide) (fun _ => ?_) (fun _ => V_none)
  refine V_iload (k := 1) dL_law_1706 rfl ?_
  have hE : V l D dA sL_law false 175 40 (1031 * r) (6186 * r) 1723 [(6, .int b), (5, .int kk), (4, .int (nI k)), (0, .ref 6000), (1, .ref 0), (2, .ref 130), (3, .ref 174)] [] 175 M3 (K M3) := by
    refine V_goto (tgt := 1922) dL_law_1723 (by decide) ?_
    exact V_sub [2, 3, 4, 5, 6] rfl (hC M3 hI3)
  refine V_ifne (tgt := 1723) dL_law_1708 (by decide) (fun _ => hE) (fun _ => ?_)
  refine V_aload_n (k := 6) dL_law_1711 rfl rfl ?_
  refine V_iconst (v := 0) dL_law_1712 rfl ?_
  refine V_laldT (j := 0) dL_law_1713 rfl (by decide) (by decide) (by decide) ?_
  refine V_iload (k := 0) dL_law_1714 rfl ?_
  refine V_i2l dL_law_1716 ?_
  refine V_lcmp dL_law_1717 ?_
  exact V_ifeq (tgt := 1723) dL_law_1718 (by decide) (fun _ => hE) (fun _ => V_none)
theorem vL_c23 (hT : l.stackTraces = false) (hL : D.2 100 1 = L) (hx : ∀ j, nI (D.2 101 j) = xs j) (hL9 : L ≤ 3072) {r k : Nat} (hk : k + 6 ≤ L) {M : vM} (hI : v_WT M.2.2) {K : vM → Option (vR × vM)} (hC : ∀ M : vM, v_WT M.2.2 → V l D dA sL_law false 175 40 (1031 * r) (6186 * r) 1922 (lvB k) [] 175 M (K M)) : V l D dA sL_law false 175 40 (1031 * (r + 1)) (6186 * (r + 1)) 1726 (lvB k) [] 175 M (gWr (fL_near M (xs (k + 1)) (xs (k + 2)) (xs (k + 3))) (fun M1 => fX11_near M1 (xs (k + 1)) (xs (k + 2)) (xs (k + 3))) K) := by
  refine V_aload_n (k := 2) dL_law_1726 rfl rfl ?_
  refine V_sarg (k := k) (j := 1) (p0 := 1) (p4 := 0) (L := L) hL (hx (k + 1)) (by omega) (by omega) rfl rfl rfl dL_law_1727 dL_law_1728 dL_law_1730 dL_law_1731 dL_law_1732 ?_
  refine V_sarg (k := k) (j := 2) (p0 := 1) (p4 := 0) (L := L) hL (hx (k + 2)) (by omega) (by omega) rfl rfl rfl dL_law_1733 dL_law_1734 dL_law_1736 dL_law_1737 dL_law_1738 ?_
  refine V_sarg (k := k) (j := 3) (p0 := 1) (p4 := 0) (L := L) hL (hx (k + 3)) (by omega) (by omega) rfl rfl rfl dL_law_1739 dL_law_1740 dL_law_1742 dL_law_1743 dL_law_1744 ?_
  refine V_aload_n (k := 4) dL_law_1745 rfl rfl ?_
  refine V_callSXi (mc' := 3) (ms' := 18) (kc' := 1031 * r) (ks' := 6186 * r) (av := [.ref 0, .int (xs (k + 1)), .int (xs (k + 2)), .int (xs (k + 3)), .ref 174]) (st0 := []) dL_law_1746 lk_L_171 gw1216 (by decide) (cL_near_ok hT M (xs (k + 1)) (xs (k + 2)) (xs (k + 3)) hI) rfl rfl (Nat.le_of_ble_eq_true rfl) (by decide) (by decide) rfl rfl rfl (by omega) (by omega) (fun kk M1 _ hI1 => ?_)
  refine V_istore (lv' := [(5, .int kk), (4, .int (nI k)), (0, .ref 6000), (1, .ref 0), (2, .ref 130), (3, .ref 174)]) dL_law_1749 (by decide) rfl ?_
  refine V_aload_n (k := 4) dL_law_1751 rfl rfl ?_
  refine V_sarg (k := k) (j := 1) (p0 := 2) (p4 := 1) (L := L) hL (hx (k + 1)) (by omega) (by omega) rfl rfl rfl dL_law_1752 dL_law_1753 dL_law_1755 dL_law_1756 dL_law_1757 ?_
  refine V_sarg (k := k) (j := 2) (p0 := 2) (p4 := 1) (L := L) hL (hx (k + 2)) (by omega) (by omega) rfl rfl rfl dL_law_1758 dL_law_1759 dL_law_1761 dL_law_1762 dL_law_1763 ?_
  refine V_sarg (k := k) (j := 3) (p0 := 2) (p4 := 1) (L := L) hL (hx (k + 3)) (by omega) (by omega) rfl rfl rfl dL_law_1764 dL_law_1765 dL_law_1767 dL_law_1768 dL_law_1769 ?_
  refine V_callVi (mc' := 0) (ms' := 0) (kc' := 1031 * r) (ks' := 6186 * r) (av := [.int (xs (k + 1)), .int (xs (k + 2)), .int (xs (k + 3))]) (st0 := []) (cls := 11) dL_law_1770 lk_L_173 rfl (by decide) rfl rfl rfl (cX11_near_ok M1 (xs (k + 1)) (xs (k + 2)) (xs (k + 3)) hI1) rfl rfl (Nat.le_of_ble_eq_true rfl) (by decide) (Nat.le_of_ble_eq_true rfl) (Or.inl rfl) rfl rfl (by omega) (by omega) (fun b M2 _ hI2 => ?_)
  refine V_istore (lv' := [(6, .int b), (5, .int kk), (4, .int (nI k)), (0, .ref 6000), (1, .ref 0), (2, .ref 130), (3, .ref 174)]) dL_law_1773 (by decide) rfl ?_
  refine V_aload_n (k := 5) dL_law_1775 rfl rfl ?_
  refine V_callVi (mc' := 0) (ms' := 0) (kc' := 1031 * r) (ks' := 6186 * r) (av := []) (st0 := []) (cls := 11) dL_law_1776 lk_L_99 rfl (by decide) rfl rfl rfl (cX11_thrown_ok M2 hI2) rfl rfl (Nat.le_of_ble_eq_true rfl) (by decide) (Nat.le_of_ble_eq_true rfl) (Or.inl rfl) rfl rfl (by omega) (by omega) (fun c M3 _ hI3 => ?_)
  refine V_iload (k := 1) dL_law_1779 rfl ?_
  refine V_icmpeq (tgt := 1786) dL_law_1781 (by decide) (fun _ => ?_) (fun _ => V_none)
  refine V_iload (k := 1) dL_law_1786 rfl ?_
  have hE : V l D dA sL_law false 175 40 (1031 * r) (6186 * r) 1803 [(6, .int b), (5, .int kk), (4, .int (nI k)), (0, .ref 6000), (1, .ref 0), (2, .ref 130), (3, .ref 174)] [] 175 M3 (K M3) := by
    refine V_goto (tgt := 1922) dL_law_1803 (by decide) ?_
    exact V_sub [2, 3, 4, 5, 6] rfl (hC M3 hI3)
  refine V_ifne (tgt := 1803) dL_law_1788 (by decide) (fun _ => hE) (fun _ => ?_)
  refine V_aload_n (k := 6) dL_law_1791 rfl rfl ?_
  refine V_iconst (v := 0) dL_law_1792 rfl ?_
  refine V_laldT (j := 0) dL_law_1793 rfl (by decide) (by decide) (by decide) ?_
  refine V_iload (k := 0) dL_law_1794 rfl ?_
  refine V_i2l dL_law_1796 ?_
  refine V_lcmp dL_law_1797 ?_
  exact V_ifeq (tgt := 1803) dL_law_1798 (by decide) (fun _ => hE) (fun _ => V_none)
theorem vL_c24 (hT : l.stackTraces = false) (hL : D.2 100 1 = L) (hx : ∀ j, nI (D.2 101 j) = xs j) (hL9 : L ≤ 3072) {r k : Nat} (hk : k + 6 ≤ L) {M : vM} (hI : v_WT M.2.2) {K : vM → Option (vR × vM)} (hC : ∀ M : vM, v_WT M.2.2 → V l D dA sL_law false 175 40 (1031 * r) (6186 * r) 1922 (lvB k) [] 175 M (K M)) : V l D dA sL_law false 175 40 (1031 * (r + 1)) (6186 * (r + 1)) 1806 (lvB k) [] 175 M (gWr (fL_drawn M (xs (k + 1)) (xs (k + 2)) (xs (k + 3)) (xs (k + 4))) (fun M1 => fX11_drawn M1 (xs (k + 1)) (xs (k + 2)) (xs (k + 3)) (xs (k + 4))) K) := by
  refine V_aload_n (k := 2) dL_law_1806 rfl rfl ?_
  refine V_sarg (k := k) (j := 1) (p0 := 1) (p4 := 0) (L := L) hL (hx (k + 1)) (by omega) (by omega) rfl rfl rfl dL_law_1807 dL_law_1808 dL_law_1810 dL_law_1811 dL_law_1812 ?_
  refine V_sarg (k := k) (j := 2) (p0 := 1) (p4 := 0) (L := L) hL (hx (k + 2)) (by omega) (by omega) rfl rfl rfl dL_law_1813 dL_law_1814 dL_law_1816 dL_law_1817 dL_law_1818 ?_
  refine V_sarg (k := k) (j := 3) (p0 := 1) (p4 := 0) (L := L) hL (hx (k + 3)) (by omega) (by omega) rfl rfl rfl dL_law_1819 dL_law_1820 dL_law_1822 dL_law_1823 dL_law_1824 ?_
  refine V_sarg (k := k) (j := 4) (p0 := 1) (p4 := 0) (L := L) hL (hx (k + 4)) (by omega) (by omega) rfl rfl rfl dL_law_1825 dL_law_1826 dL_law_1828 dL_law_1829 dL_law_1830 ?_
  refine V_aload_n (k := 4) dL_law_1831 rfl rfl ?_
  refine V_callSXi (mc' := 1030) (ms' := 6180) (kc' := 1031 * r) (ks' := 6186 * r) (av := [.ref 0, .int (xs (k + 1)), .int (xs (k + 2)), .int (xs (k + 3)), .int (xs (k + 4)), .ref 174]) (st0 := []) dL_law_1832 lk_L_174 gw1223 (by decide) (cL_drawn_ok hT M (xs (k + 1)) (xs (k + 2)) (xs (k + 3)) (xs (k + 4)) hI) rfl rfl (Nat.le_of_ble_eq_true rfl) (by decide) (by decide) rfl rfl rfl (by omega) (by omega) (fun kk M1 _ hI1 => ?_)
  refine V_istore (lv' := [(5, .int kk), (4, .int (nI k)), (0, .ref 6000), (1, .ref 0), (2, .ref 130), (3, .ref 174)]) dL_law_1835 (by decide) rfl ?_
  refine V_aload_n (k := 4) dL_law_1837 rfl rfl ?_
  refine V_sarg (k := k) (j := 1) (p0 := 2) (p4 := 1) (L := L) hL (hx (k + 1)) (by omega) (by omega) rfl rfl rfl dL_law_1838 dL_law_1839 dL_law_1841 dL_law_1842 dL_law_1843 ?_
  refine V_sarg (k := k) (j := 2) (p0 := 2) (p4 := 1) (L := L) hL (hx (k + 2)) (by omega) (by omega) rfl rfl rfl dL_law_1844 dL_law_1845 dL_law_1847 dL_law_1848 dL_law_1849 ?_
  refine V_sarg (k := k) (j := 3) (p0 := 2) (p4 := 1) (L := L) hL (hx (k + 3)) (by omega) (by omega) rfl rfl rfl dL_law_1850 dL_law_1851 dL_law_1853 dL_law_1854 dL_law_1855 ?_
  refine V_sarg (k := k) (j := 4) (p0 := 2) (p4 := 1) (L := L) hL (hx (k + 4)) (by omega) (by omega) rfl rfl rfl dL_law_1856 dL_law_1857 dL_law_1859 dL_law_1860 dL_law_1861 ?_
  refine V_callVi (mc' := 0) (ms' := 0) (kc' := 1031 * r) (ks' := 6186 * r) (av := [.int (xs (k + 1)), .int (xs (k + 2)), .int (xs (k + 3)), .int (xs (k + 4))]) (st0 := []) (cls := 11) dL_law_1862 lk_L_176 rfl (by decide) rfl rfl rfl (cX11_drawn_ok M1 (xs (k + 1)) (xs (k + 2)) (xs (k + 3)) (xs (k + 4)) hI1) rfl rfl (Nat.le_of_ble_eq_true rfl) (by decide) (Nat.le_of_ble_eq_true rfl) (Or.inl rfl) rfl rfl (by omega) (by omega) (fun b M2 _ hI2 => ?_)
  refine V_istore (lv' := [(6, .int b), (5, .int kk), (4, .int (nI k)), (0, .ref 6000), (1, .ref 0), (2, .ref 130), (3, .ref 174)]) dL_law_1865 (by decide) rfl ?_
  refine V_aload_n (k := 5) dL_law_1867 rfl rfl ?_
  refine V_callVi (mc' := 0) (ms' := 0) (kc' := 1031 * r) (ks' := 6186 * r) (av := []) (st0 := []) (cls := 11) dL_law_1868 lk_L_99 rfl (by decide) rfl rfl rfl (cX11_thrown_ok M2 hI2) rfl rfl (Nat.le_of_ble_eq_true rfl) (by decide) (Nat.le_of_ble_eq_true rfl) (Or.inl rfl) rfl rfl (by omega) (by omega) (fun c M3 _ hI3 => ?_)
  refine V_iload (k := 1) dL_law_1871 rfl ?_
  refine V_icmpeq (tgt := 1878) dL_law_1873 (by decide) (fun _ => ?_) (fun _ => V_none)
  refine V_iload (k := 1) dL_law_1878 rfl ?_
  have hE : V l D dA sL_law false 175 40 (1031 * r) (6186 * r) 1895 [(6, .int b), (5, .int kk), (4, .int (nI k)), (0, .ref 6000), (1, .ref 0), (2, .ref 130), (3, .ref 174)] [] 175 M3 (K M3) := by
    refine V_goto (tgt := 1922) dL_law_1895 (by decide) ?_
    exact V_sub [2, 3, 4, 5, 6] rfl (hC M3 hI3)
  refine V_ifne (tgt := 1895) dL_law_1880 (by decide) (fun _ => hE) (fun _ => ?_)
  refine V_aload_n (k := 6) dL_law_1883 rfl rfl ?_
  refine V_iconst (v := 0) dL_law_1884 rfl ?_
  refine V_laldT (j := 0) dL_law_1885 rfl (by decide) (by decide) (by decide) ?_
  refine V_iload (k := 0) dL_law_1886 rfl ?_
  refine V_i2l dL_law_1888 ?_
  refine V_lcmp dL_law_1889 ?_
  exact V_ifeq (tgt := 1895) dL_law_1890 (by decide) (fun _ => hE) (fun _ => V_none)
theorem vL_c25 (hL : D.2 100 1 = L) (hx : ∀ j, nI (D.2 101 j) = xs j) (hL9 : L ≤ 3072) {r k : Nat} (hk : k + 6 ≤ L) {M : vM} (hI : v_WT M.2.2) {K : vM → Option (vR × vM)} (hC : ∀ M : vM, v_WT M.2.2 → V l D dA sL_law false 175 40 (1031 * r) (6186 * r) 1922 (lvB k) [] 175 M (K M)) : V l D dA sL_law false 175 40 (1031 * (r + 1)) (6186 * (r + 1)) 1898 (lvB k) [] 175 M (gVo (fX10_image M) (fun M1 => fX11_image M1) K) := by
  refine V_aload_n (k := 2) dL_law_1898 rfl rfl ?_
  refine V_callVv (mc' := 0) (ms' := 0) (kc' := 1031 * r) (ks' := 6186 * r) (av := []) (st0 := []) (cls := 10) dL_law_1899 lk_L_177 rfl (by decide) rfl rfl rfl (cX10_image_ok M hI) rfl rfl (Nat.le_of_ble_eq_true rfl) (by decide) (Nat.le_of_ble_eq_true rfl) (Or.inl rfl) rfl rfl (by omega) (by omega) (fun M1 _ hI1 => ?_)
  refine V_aload_n (k := 3) dL_law_1902 rfl rfl ?_
  refine V_callVv (mc' := 0) (ms' := 0) (kc' := 1031 * r) (ks' := 6186 * r) (av := []) (st0 := []) (cls := 11) dL_law_1903 lk_L_180 rfl (by decide) rfl rfl rfl (cX11_image_ok M1 hI1) rfl rfl (Nat.le_of_ble_eq_true rfl) (by decide) (Nat.le_of_ble_eq_true rfl) (Or.inl rfl) rfl rfl (by omega) (by omega) (fun M2 _ hI2 => ?_)
  refine V_goto (tgt := 1922) dL_law_1906 (by decide) ?_
  exact hC M2 hI2
theorem vL_c26 (hL : D.2 100 1 = L) (hx : ∀ j, nI (D.2 101 j) = xs j) (hL9 : L ≤ 3072) {r k : Nat} (hk : k + 6 ≤ L) {M : vM} (hI : v_WT M.2.2) {K : vM → Option (vR × vM)} (hC : ∀ M : vM, v_WT M.2.2 → V l D dA sL_law false 175 40 (1031 * r) (6186 * r) 1922 (lvB k) [] 175 M (K M)) : V l D dA sL_law false 175 40 (1031 * (r + 1)) (6186 * (r + 1)) 1909 (lvB k) [] 175 M (gCm (fX10_restore M) (fun M1 => fX11_restore M1) K) := by
  refine V_aload_n (k := 2) dL_law_1909 rfl rfl ?_
  refine V_callVi (mc' := 0) (ms' := 0) (kc' := 1031 * r) (ks' := 6186 * r) (av := []) (st0 := []) (cls := 10) dL_law_1910 lk_L_181 rfl (by decide) rfl rfl rfl (cX10_restore_ok M hI) rfl rfl (Nat.le_of_ble_eq_true rfl) (by decide) (Nat.le_of_ble_eq_true rfl) (Or.inl rfl) rfl rfl (by omega) (by omega) (fun a M1 _ hI1 => ?_)
  refine V_aload_n (k := 3) dL_law_1913 rfl rfl ?_
  refine V_callVi (mc' := 0) (ms' := 0) (kc' := 1031 * r) (ks' := 6186 * r) (av := []) (st0 := [.int a]) (cls := 11) dL_law_1914 lk_L_185 rfl (by decide) rfl rfl rfl (cX11_restore_ok M1 hI1) rfl rfl (Nat.le_of_ble_eq_true rfl) (by decide) (Nat.le_of_ble_eq_true rfl) (Or.inl rfl) rfl rfl (by omega) (by omega) (fun b M2 _ hI2 => ?_)
  refine V_icmpeq (tgt := 1922) dL_law_1917 (by decide) (fun _ => ?_) (fun _ => V_none)
  exact hC M2 hI2
theorem vL_go (hT : l.stackTraces = false) (hL : D.2 100 1 = L) (hx : ∀ j, nI (D.2 101 j) = xs j) (hL9 : L ≤ 3072) : ∀ (r k : Nat) (M : vM), v_WT M.2.2 → k ≤ 3078 → V l D dA sL_law false 175 40 (1031 * r) (6186 * r) 23 (lvB k) [] 175 M (fL_go L xs r k M) := by
  have head : ∀ (r k : Nat) (M : vM), v_WT M.2.2 → k ≤ 3078 → ∀ o : Option (vR × vM), (k + 6 ≤ L → V l D dA sL_law false 175 40 (1031 * r) (6186 * r) 33 (lvB k) [] 175 M o) → V l D dA sL_law false 175 40 (1031 * r) (6186 * r) 23 (lvB k) [] 175 M (if k + 6 ≤ L then o else rI 1 M) := by
    intro r k M hI hk o ho
    refine V_iload (k := 0) dL_law_23 rfl ?_
    refine V_aload_n (k := 1) dL_law_25 rfl rfl ?_
    refine V_slen (L := L) dL_law_26 hL ?_
    refine V_bipush (v := 6) dL_law_27 rfl ?_
    refine V_isub dL_law_29 ?_
    by_cases h : k + 6 ≤ L
    · rw [if_pos h]
      have h2 : ¬ nI L - 6 < nI k := Int32.not_lt.mpr ((sc_lt hL9 hk).mpr h)
      exact V_false (o2 := none) h2 (V_icmpgt (tgt := 1928) dL_law_30 (by decide) (fun q => absurd q h2) (fun _ => ho h))
    · rw [if_neg h]
      have h2 : nI L - 6 < nI k := Int32.not_le.mp (fun q => h ((sc_lt hL9 hk).mp q))
      refine V_true (o2 := none) h2 (V_icmpgt (tgt := 1928) dL_law_30 (by decide) (fun _ => ?_) (fun q => absurd h2 q))
      refine V_iconst (v := 1) dL_law_1928 rfl ?_
      exact V_ret (fun _ => hI) (Or.inr (Or.inr (Or.inl ⟨rfl, _, rfl⟩))) dL_law_1929 (fun ty x h1 h2 => by cases h1; cases h2; rfl) rfl
  intro r
  induction r with
  | zero =>
    intro k M hI hk
    exact head 0 k M hI hk none (fun _ => V_none)
  | succ r ih =>
    intro k M hI hk
    have hC : k + 6 ≤ L → ∀ M : vM, v_WT M.2.2 → V l D dA sL_law false 175 40 (1031 * r) (6186 * r) 1922 (lvB k) [] 175 M (fL_go L xs r (k + 6) M) := by
      intro hk6 M2 hI2
      refine V_iinc (k := 0) (v := nI (k + 6)) (lv' := lvB (k + 6)) dL_law_1922 rfl ?_ (by decide) rfl ?_
      · show nI k + nI 6 = nI (k + 6)
        exact nI_add ..
      refine V_goto (tgt := 23) dL_law_1925 (by decide) ?_
      exact ih (k + 6) M2 hI2 (by omega)
    refine head (r + 1) k M hI hk _ (fun hk6 => ?_)
    have hC := hC hk6
    refine V_aload_n (k := 1) dL_law_33 rfl rfl ?_
    refine V_iload (k := 0) dL_law_34 rfl ?_
    refine V_sald (j := k) dL_law_36 hL (hx k) (v_in_nI (by omega) (by omega)) (nI_clamp (by omega)) ?_
    refine V_bipush (v := 31) dL_law_37 rfl ?_
    refine V_iand dL_law_39 ?_
    unfold fL_st
    refine V_tcase (k := 0) (tgt := 164) dL_law_40 (by decide) (by decide) rfl (by decide) (fun h0 => vL_c0 hL hx hL9 hk6 hI hC) (fun h0 => ?_)
    refine V_tcase (k := 1) (tgt := 237) dL_law_40 (by decide) (by decide) rfl (by decide) (fun h1 => vL_c1 hT hL hx hL9 hk6 hI hC) (fun h1 => ?_)
    refine V_tcase (k := 2) (tgt := 293) dL_law_40 (by decide) (by decide) rfl (by decide) (fun h2 => vL_c2 hL hx hL9 hk6 hI hC) (fun h2 => ?_)
    refine V_tcase (k := 3) (tgt := 306) dL_law_40 (by decide) (by decide) rfl (by decide) (fun h3 => vL_c3 hT hL hx hL9 hk6 hI hC) (fun h3 => ?_)
    refine V_tcase (k := 4) (tgt := 362) dL_law_40 (by decide) (by decide) rfl (by decide) (fun h4 => vL_c4 hT hL hx hL9 hk6 hI hC) (fun h4 => ?_)
    refine V_tcase (k := 5) (tgt := 430) dL_law_40 (by decide) (by decide) rfl (by decide) (fun h5 => vL_c5 hT hL hx hL9 hk6 hI hC) (fun h5 => ?_)
    refine V_tcase (k := 6) (tgt := 510) dL_law_40 (by decide) (by decide) rfl (by decide) (fun h6 => vL_c6 hT hL hx hL9 hk6 hI hC) (fun h6 => ?_)
    refine V_tcase (k := 7) (tgt := 578) dL_law_40 (by decide) (by decide) rfl (by decide) (fun h7 => vL_c7 hT hL hx hL9 hk6 hI hC) (fun h7 => ?_)
    refine V_tcase (k := 8) (tgt := 670) dL_law_40 (by decide) (by decide) rfl (by decide) (fun h8 => vL_c8 hT hL hx hL9 hk6 hI hC) (fun h8 => ?_)
    refine V_tcase (k := 9) (tgt := 745) dL_law_40 (by decide) (by decide) rfl (by decide) (fun h9 => vL_c9 hT hL hx hL9 hk6 hI hC) (fun h9 => ?_)
    refine V_tcase (k := 10) (tgt := 813) dL_law_40 (by decide) (by decide) rfl (by decide) (fun h10 => vL_c10 hT hL hx hL9 hk6 hI hC) (fun h10 => ?_)
    refine V_tcase (k := 11) (tgt := 881) dL_law_40 (by decide) (by decide) rfl (by decide) (fun h11 => vL_c11 hT hL hx hL9 hk6 hI hC) (fun h11 => ?_)
    refine V_tcase (k := 12) (tgt := 949) dL_law_40 (by decide) (by decide) rfl (by decide) (fun h12 => vL_c12 hT hL hx hL9 hk6 hI hC) (fun h12 => ?_)
    refine V_tcase (k := 13) (tgt := 1017) dL_law_40 (by decide) (by decide) rfl (by decide) (fun h13 => vL_c13 hT hL hx hL9 hk6 hI hC) (fun h13 => ?_)
    refine V_tcase (k := 14) (tgt := 1097) dL_law_40 (by decide) (by decide) rfl (by decide) (fun h14 => vL_c14 hL hx hL9 hk6 hI hC) (fun h14 => ?_)
    refine V_tcase (k := 15) (tgt := 1134) dL_law_40 (by decide) (by decide) rfl (by decide) (fun h15 => vL_c15 hT hL hx hL9 hk6 hI hC) (fun h15 => ?_)
    refine V_tcase (k := 16) (tgt := 1214) dL_law_40 (by decide) (by decide) rfl (by decide) (fun h16 => vL_c16 hT hL hx hL9 hk6 hI hC) (fun h16 => ?_)
    refine V_tcase (k := 17) (tgt := 1282) dL_law_40 (by decide) (by decide) rfl (by decide) (fun h17 => vL_c17 hT hL hx hL9 hk6 hI hC) (fun h17 => ?_)
    refine V_tcase (k := 18) (tgt := 1362) dL_law_40 (by decide) (by decide) rfl (by decide) (fun h18 => vL_c18 hT hL hx hL9 hk6 hI hC) (fun h18 => ?_)
    refine V_tcase (k := 19) (tgt := 1442) dL_law_40 (by decide) (by decide) rfl (by decide) (fun h19 => vL_c19 hT hL hx hL9 hk6 hI hC) (fun h19 => ?_)
    refine V_tcase (k := 20) (tgt := 1510) dL_law_40 (by decide) (by decide) rfl (by decide) (fun h20 => vL_c20 hT hL hx hL9 hk6 hI hC) (fun h20 => ?_)
    refine V_tcase (k := 21) (tgt := 1578) dL_law_40 (by decide) (by decide) rfl (by decide) (fun h21 => vL_c21 hT hL hx hL9 hk6 hI hC) (fun h21 => ?_)
    refine V_tcase (k := 22) (tgt := 1646) dL_law_40 (by decide) (by decide) rfl (by decide) (fun h22 => vL_c22 hT hL hx hL9 hk6 hI hC) (fun h22 => ?_)
    refine V_tcase (k := 23) (tgt := 1726) dL_law_40 (by decide) (by decide) rfl (by decide) (fun h23 => vL_c23 hT hL hx hL9 hk6 hI hC) (fun h23 => ?_)
    refine V_tcase (k := 24) (tgt := 1806) dL_law_40 (by decide) (by decide) rfl (by decide) (fun h24 => vL_c24 hT hL hx hL9 hk6 hI hC) (fun h24 => ?_)
    refine V_tcase (k := 25) (tgt := 1898) dL_law_40 (by decide) (by decide) rfl (by decide) (fun h25 => vL_c25 hL hx hL9 hk6 hI hC) (fun h25 => ?_)
    refine V_tcase (k := 26) (tgt := 1909) dL_law_40 (by decide) (by decide) rfl (by decide) (fun h26 => vL_c26 hL hx hL9 hk6 hI hC) (fun h26 => ?_)
    refine V_tdef (tgt := 1922) dL_law_40 (v_tout (m := 26) (by decide) (lt_s (lt_s (lt_s (lt_s (lt_s (lt_s (lt_s (lt_s (lt_s (lt_s (lt_s (lt_s (lt_s (lt_s (lt_s (lt_s (lt_s (lt_s (lt_s (lt_s (lt_s (lt_s (lt_s (lt_s (lt_s (lt_s (lt_s lt_0 h0) h1) h2) h3) h4) h5) h6) h7) h8) h9) h10) h11) h12) h13) h14) h15) h16) h17) h18) h19) h20) h21) h22) h23) h24) h25) h26)) (by decide) ?_
    exact V_kc (kc1 := 1031 * r) (ks1 := 6186 * r) (by omega) (by omega) (hC M hI)
/-- the law from its start: two objects and a row are made -/
def M0 : vM := (fun _ _ => 0, (fun _ _ => 0, fun _ _ => 0))
theorem z0_M0 : v_Zr 0 M0 := ⟨fun c j _ => ⟨rfl, rfl, rfl⟩, fun c j => Or.inl (Nat.le_refl 0)⟩
def M1S : vM := mk130 (mk0 M0)
theorem M1S_WT : v_WT M1S.2.2 := by
  refine ⟨?_, ?_, ?_⟩
  · have h : (v_FIN.all fun q => decide (M1S.2.2 q.1 q.2.1 = q.2.2 + 1)) = true := by decide +kernel
    exact fun q hq => of_decide_eq_true (List.all_eq_true.mp h q hq)
  · have h : ((List.range 6).all fun i => (List.range 12).any fun q => decide (M1S.2.2 4 i = v_plan q + 1)) = true := by decide +kernel
    intro i hi
    obtain ⟨q, hq, h2⟩ := List.any_eq_true.mp (List.all_eq_true.mp h i (List.mem_range.mpr hi))
    exact ⟨v_plan q, of_decide_eq_true h2, q, List.mem_range.mp hq, rfl⟩
  · have h : ((List.range 6).all fun i => (List.range 12).any fun q => decide (M1S.2.2 (46 + 15 * i) 0 = v_plan q + 1)) = true := by decide +kernel
    rintro w ⟨i, hi, rfl⟩
    obtain ⟨q, hq, h2⟩ := List.any_eq_true.mp (List.all_eq_true.mp h i (List.mem_range.mpr hi))
    exact ⟨v_plan q, of_decide_eq_true h2, q, List.mem_range.mp hq, rfl⟩
set_option maxRecDepth 20000 in
theorem vL_in (hT : l.stackTraces = false) (hL : D.2 100 1 = L) (hx : ∀ j, nI (D.2 101 j) = xs j) (hL9 : L ≤ 3072) : V l D dA sL_law true 175 40 528100 3300000 0 [(0, .ref 6000)] [] 0 M0 (fL_go L xs 512 0 M1S) := by
  have z0 := z0_M0
  refine V_new (cls := 10) (C := RX10) (T := TX10) (ty0 := tyX10) dL_law_0 (by decide) rfl rfl inG10 tyX10_ok dfX10 gw105 gw106 gw80 (Nat.le_of_ble_eq_true rfl) (Nat.le_of_ble_eq_true rfl) rfl rfl ?_
  refine V_dup dL_law_3 rfl ?_
  refine V_callIA (S' := sX10_init) (d' := 3) (mc' := 129) (ms' := 25921) (kc' := 527970) (ks' := 3274064) (nf' := 130) (M1 := mk0 M0) (st0 := [.ref 0]) dL_law_4 lk_L_84 rfl (ck0 _ (v_Zr_up z0)) rfl rfl (Nat.le_of_ble_eq_true rfl) (by decide) (by decide) rfl (by decide) (zk0 (v_Zr_up z0)) rfl rfl (Nat.le_of_ble_eq_true rfl) (Nat.le_of_ble_eq_true rfl) ?_
  have z1 := zk0 (v_Zr_up z0)
  refine V_astore_n (lv' := [(1, .ref 0), (0, .ref 6000)]) dL_law_7 rfl (by decide) rfl ?_
  refine V_new (cls := 11) (C := RX11) (T := TX11) (ty0 := tyX11) dL_law_8 (by decide) rfl rfl inG11 tyX11_ok dfX11 gw1235 gw1236 gw92 (Nat.le_of_ble_eq_true rfl) (Nat.le_of_ble_eq_true rfl) rfl rfl ?_
  refine V_dup dL_law_11 rfl ?_
  refine V_callIA (S' := sX11_init) (d' := 1) (mc' := 43) (ms' := 45373) (kc' := 527926) (ks' := 3228630) (nf' := 174) (M1 := mk130 (mk0 M0)) (st0 := [.ref 130]) dL_law_12 lk_L_87 rfl (ck130 _ (v_Zr_up z1)) rfl rfl (Nat.le_of_ble_eq_true rfl) (by decide) (by decide) rfl (by decide) (zk130 (v_Zr_up z1)) rfl rfl (Nat.le_of_ble_eq_true rfl) (Nat.le_of_ble_eq_true rfl) ?_
  refine V_astore_n (lv' := [(2, .ref 130), (1, .ref 0), (0, .ref 6000)]) dL_law_15 rfl (by decide) rfl ?_
  refine V_iconst (v := 1) dL_law_16 rfl ?_
  refine V_newa (t := 1) (len := 1) dL_law_17 (by decide) rfl (by decide) rfl (by decide) (Nat.le_of_ble_eq_true rfl) gw236 (Nat.le_of_ble_eq_true rfl) (Nat.le_of_ble_eq_true rfl) rfl rfl ?_
  refine V_astore_n (lv' := [(3, .ref 174), (2, .ref 130), (1, .ref 0), (0, .ref 6000)]) dL_law_19 rfl (by decide) rfl ?_
  refine V_iconst (v := 0) dL_law_20 rfl ?_
  refine V_istore (lv' := [(4, .int 0), (3, .ref 174), (2, .ref 130), (1, .ref 0), (0, .ref 6000)]) dL_law_21 (by decide) rfl ?_
  refine V_sub [0, 4, 3, 2, 1] (lv' := lvB 0) rfl ?_
  refine V_finL ?_
  exact V_kc (kc1 := 1031 * 512) (ks1 := 6186 * 512) (Nat.le_of_ble_eq_true rfl) (Nat.le_of_ble_eq_true rfl) (vL_go hT hL hx hL9 512 0 M1S M1S_WT (by omega))
end LawLoop
