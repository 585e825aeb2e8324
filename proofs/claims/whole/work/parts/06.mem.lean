/-! reads and writes -/
def v_in (i : Int32) (len : Nat) : Bool := !(decide (i < 0) || decide (len ≤ i.toNatClampNeg))
theorem v_in_vp {i : Int32} {len : Nat} (h : v_in i len = true) : vp_in i len := by
  unfold v_in at h
  simp only [Bool.not_eq_true', Bool.or_eq_false_iff, decide_eq_false_iff_not] at h
  exact fun q => q.elim h.1 h.2
def v_si (M : vM) (c j : Nat) (x : Int32) : vM := (fun c' j' => if c' = c ∧ j' = j then x else M.1 c' j', M.2)
def v_sl (M : vM) (c j : Nat) (x : Int64) : vM := (M.1, (fun c' j' => if c' = c ∧ j' = j then x else M.2.1 c' j', M.2.2))
def v_sr (M : vM) (c j : Nat) (x : Nat) : vM := (M.1, (M.2.1, fun c' j' => if c' = c ∧ j' = j then x else M.2.2 c' j'))
def v_nz (x : Int32) : Int32 := vp_nar .boolean x
def v_nb (x : Int32) : Int32 := vp_nar .byte x
theorem v_ce_congr {dA : Nat → ClassId} {ad : Nat → Nat} {M M' : vM} {i : Nat} (h1 : M'.1 i = M.1 i) (h2 : M'.2.1 i = M.2.1 i) (h3 : M'.2.2 i = M.2.2 i) : v_ce dA ad M' i = v_ce dA ad M i := by
  have e : v_fv ad M' i (v_LAY i).2.1 = v_fv ad M i (v_LAY i).2.1 := by
    funext j
    simp [v_fv, h1, h3]
  simp [v_ce, v_ar, e, h1, h2, h3]
theorem v_si_o {M : vM} {c j i : Nat} {x : Int32} (h : i ≠ c) : (v_si M c j x).1 i = M.1 i := by
  funext q
  simp [v_si, h]
theorem v_sl_o {M : vM} {c j i : Nat} {x : Int64} (h : i ≠ c) : (v_sl M c j x).2.1 i = M.2.1 i := by
  funext q
  simp [v_sl, h]
theorem v_sr_o {M : vM} {c j i : Nat} {x : Nat} (h : i ≠ c) : (v_sr M c j x).2.2 i = M.2.2 i := by
  funext q
  simp [v_sr, h]
/-- what the tables say of a field, from the class own by the entry idx -/
def vF (own : String) (idx cls j : Nat) (ty : FieldType) (fin : Bool) : Prop :=
  ∃ (C : String) (T : u_T) (ty0 : Nat → FieldType), vwCl[cls]? = some (C, T, v_N cls) ∧ j < v_N cls ∧ (∀ w ∈ u_ws C T (v_N cls), w ∈ v_G) ∧ (Cond.fieldLink own idx (T j).1 (T j).2.1 (T j).2.2.1 ∈ v_G ∨ (fin = false ∧ ∃ h, Cond.fieldLinkNest own idx (T j).1 (T j).2.1 (T j).2.2.1 h ∈ v_NW)) ∧
    (∀ k, k < v_N cls → parseFieldDescriptor (T k).2.2.1 = some (ty0 k)) ∧ (∀ a, a < v_N cls → ∀ b, b < v_N cls → a ≠ b → (T a).2.1 ≠ (T b).2.1) ∧ ty0 j = ty ∧ (T j).2.2.2 = fin ∧ (T j).1 = C
section V3
variable {l : Launch} {D : va_G} {dA : Nat → ClassId} {S : vS} {al : Bool} {nf d kc ks pc pc' : Nat} {lv lv' : List (Nat × Value)} {st st' : List Value} {n : Nat} {M : vM} {o : Option (vR × vM)}
theorem v_obj {ad : Nat → Nat} {c cls : Nat} (hL : v_LAY c = (0, cls, 0)) : v_ce dA ad M c = .inr (cls, (List.range (v_N cls)).map (v_fv ad M c cls)) := by simp [v_ce, hL]
theorem v_arr {ad : Nat → Nat} {c t len : Nat} (hL : v_LAY c = (1, t, len)) : v_ce dA ad M c = .inl (dA t, v_ar ad M c t len) := by simp [v_ce, hL]
theorem v_fget {ad : Nat → Nat} {c cls j : Nat} (hj : j < v_N cls) : ((List.range (v_N cls)).map (v_fv ad M c cls))[j]? = some (v_fv ad M c cls j) := by simp [List.getElem?_map, List.getElem?_range hj]
theorem v_fset {ad : Nat → Nat} {M' : vM} {c cls j : Nat} {v : Value} (hv : v = v_fv ad M' c cls j) (ho : ∀ i, i ≠ j → v_fv ad M' c cls i = v_fv ad M c cls i) : ((List.range (v_N cls)).map (v_fv ad M c cls)).set j v = (List.range (v_N cls)).map (v_fv ad M' c cls) := by
  apply List.ext_getElem?
  intro i
  rw [List.getElem?_set]
  by_cases hi : i < v_N cls
  · rw [v_fget hi]
    by_cases hc : j = i
    · subst hc
      simp [hi, hv]
    · rw [if_neg hc, v_fget hi, ho i (fun h => hc h.symm)]
  · have h1 : ((List.range (v_N cls)).map (v_fv ad M c cls))[i]? = none := by simp; omega
    have h2 : ((List.range (v_N cls)).map (v_fv ad M' c cls))[i]? = none := by simp; omega
    rw [h2]
    by_cases hc : j = i
    · subst hc
      simp [hi]
    · rw [if_neg hc, h1]
theorem v_nwU {s : State} {args : Array Value} {w : Cond} (h : v_nwK w = true → va_Nw w s) (hk : v_nwK w = true) : w.before args s = true := by
  have h1 := h hk
  cases w <;> first | exact va_Nw.use rfl h1 | (simp [v_nwK] at hk)
/-- a field's read, as it lies -/
theorem V_getv {c cls j idx : Nat} {ty : FieldType} {fin : Bool} {v : Value} (hd : decode S.2.1 pc = .ok (.getfield idx, 3)) (hL : v_LAY c = (0, cls, 0)) (hc : c < n) (hF : vF S.1.cls idx cls j ty fin) (hv : ∀ ad, v_fv ad M c cls j = vcv ad v)
    (kk : V l D dA S al nf d kc ks (pc + 3) lv (v :: st) n M o) : V l D dA S al nf d kc ks pc lv (.ref c :: st) n M o := by
  intro r M' ho
  refine ⟨(kk r M' ho).1, ?_⟩
  intro ad p e R s m args below meth cd H locs cells slots Q A ls C Wd Zr h3 h4 hl Rt
  have kk := (kk r M' ho).2 ad p e R s m args below meth cd H locs cells slots Q A ls C Wd Zr h3 h4 hl Rt
  obtain ⟨hx, hb, -, -, hown, hts, -⟩ := id C
  obtain ⟨hP, hK, -, -, -, hG⟩ := id Wd
  obtain ⟨CC, T, ty0, f1, f2, f3, f4, -, -, -, -, f9⟩ := hF
  have he := v_wl_get (dA := dA) (ad := ad) (M := M) hc
  rw [v_obj hL] at he
  rcases f4 with f4 | ⟨h0, h, f4⟩
  · exact va_get (D := D) (Ts := v_G) hx hb hts f3 hown hK hP c he f1 j f2 (hts _ f4) (fun _ h => h) ((v_fget f2).trans (congrArg some (hv ad))) hd kk
  · exact va_getN (D := D) (Ts := v_G) hx hb hts f3 hown hK hP c he f1 j f2 (v_nwU (fun _ => hG.1 _ f4) rfl) (fun _ h => h) ((v_fget f2).trans (congrArg some (hv ad))) hd kk
theorem V_geti {c cls j idx : Nat} {ty : FieldType} {fin : Bool} (hd : decode S.2.1 pc = .ok (.getfield idx, 3)) (hL : v_LAY c = (0, cls, 0)) (hc : c < n) (hF : vF S.1.cls idx cls j ty fin) (hk : v_FK cls j ≠ 2)
    (kk : V l D dA S al nf d kc ks (pc + 3) lv (.int (M.1 c j) :: st) n M o) : V l D dA S al nf d kc ks pc lv (.ref c :: st) n M o :=
  V_getv hd hL hc hF (fun ad => by simp [v_fv, hk, vcv]) kk
theorem V_getr {c cls j idx k : Nat} {ty : FieldType} {fin : Bool} (hd : decode S.2.1 pc = .ok (.getfield idx, 3)) (hL : v_LAY c = (0, cls, 0)) (hc : c < n) (hF : vF S.1.cls idx cls j ty fin) (hk : v_FK cls j = 2) (hr : M.2.2 c j = k + 1)
    (kk : V l D dA S al nf d kc ks (pc + 3) lv (.ref k :: st) n M o) : V l D dA S al nf d kc ks pc lv (.ref c :: st) n M o :=
  V_getv hd hL hc hF (fun ad => by simp [v_fv, hk, vcv, hr, v_rf, va_rf]) kk
theorem v_Zr_si {n c j : Nat} {x : Int32} (h : v_Zr n M) (hc : c < n) : v_Zr n (v_si M c j x) := by
  refine ⟨fun c' j' h9 => ?_, h.2⟩
  have h1 := h.1 c' j' h9
  refine ⟨?_, h1.2⟩
  show (if c' = c ∧ j' = j then x else M.1 c' j') = 0
  rw [if_neg (by omega)]
  exact h1.1
theorem v_Zr_sl {n c j : Nat} {x : Int64} (h : v_Zr n M) (hc : c < n) : v_Zr n (v_sl M c j x) := by
  refine ⟨fun c' j' h9 => ?_, h.2⟩
  have h1 := h.1 c' j' h9
  refine ⟨h1.1, ?_, h1.2.2⟩
  show (if c' = c ∧ j' = j then x else M.2.1 c' j') = 0
  rw [if_neg (by omega)]
  exact h1.2.1
theorem v_Zr_sr {n c j x : Nat} (h : v_Zr n M) (hc : c < n) (hx : x ≤ n ∨ 1001 ≤ x) : v_Zr n (v_sr M c j x) := by
  refine ⟨fun c' j' h9 => ?_, fun c' j' => ?_⟩
  · have h1 := h.1 c' j' h9
    refine ⟨h1.1, h1.2.1, ?_⟩
    show (if c' = c ∧ j' = j then x else M.2.2 c' j') = 0
    rw [if_neg (by omega)]
    exact h1.2.2
  · show (if c' = c ∧ j' = j then x else M.2.2 c' j') ≤ n ∨ 1001 ≤ (if c' = c ∧ j' = j then x else M.2.2 c' j')
    by_cases q : c' = c ∧ j' = j
    · rw [if_pos q]; exact hx
    · rw [if_neg q]; exact h.2 c' j'
/-- a field's write -/
theorem V_putv {c cls j idx : Nat} {ty : FieldType} {fin : Bool} {v : Value} {M1 : vM} (hd : decode S.2.1 pc = .ok (.putfield idx, 3)) (hL : v_LAY c = (0, cls, 0)) (hc : c < n) (hF : vF S.1.cls idx cls j ty fin) (hfin : fin = true → S.1.name = "<init>" ∧ v_LAY c = (0, cls, 0) ∧ (vwCl[cls]?.map (fun q => q.1)) = some S.1.cls)
    (hn : ∀ ad, narrow ty (vcv ad v) = vcv ad v) (hfit : ∀ ad, fits ty (vcv ad v) = true) (hv : ∀ ad, vcv ad v = v_fv ad M1 c cls j) (ho : ∀ ad i, i ≠ j → v_fv ad M1 c cls i = v_fv ad M c cls i) (hM : ∀ i, i ≠ c → M1.1 i = M.1 i ∧ M1.2.1 i = M.2.1 i ∧ M1.2.2 i = M.2.2 i) (hZ : v_Zr n M → v_Zr n M1)
    (kk : V l D dA S al nf d kc ks (pc + 3) lv st n M1 o) : V l D dA S al nf d kc ks pc lv (v :: .ref c :: st) n M o := by
  intro r M' ho9
  refine ⟨(kk r M' ho9).1, ?_⟩
  intro ad p e R s m args below meth cd H locs cells slots Q A ls C Wd Zr h3 h4 hl Rt
  obtain ⟨hx, hb, -, -, hown, hts, -, -, hnm, -⟩ := id C
  obtain ⟨hP, hK, hD, hS, hA, hG⟩ := id Wd
  obtain ⟨CC, T, ty0, f1, f2, f3, f4, f5, f6, f7, f8, f9⟩ := hF
  have he := v_wl_get (dA := dA) (ad := ad) (M := M) hc
  rw [v_obj hL] at he
  have hset : ∀ H1 locs1, va_P D vwCl ((v_wl dA ad n M).set c (ad c, .inr (cls, ((List.range (v_N cls)).map (v_fv ad M c cls)).set j (vcv ad v)))) H1 → va_D A ((v_wl dA ad n M).set c (ad c, .inr (cls, ((List.range (v_N cls)).map (v_fv ad M c cls)).set j (vcv ad v)))) → va_S A s.heap H1 locs1 →
      W p l e R s m args below meth cd H1 locs1 cells slots Q (F0 m (pc + 3) ls (st.map (vcv ad))) := by
    intro H1 locs1 p1 d1 s1
    have e1 : (v_wl dA ad n M).set c (ad c, .inr (cls, ((List.range (v_N cls)).map (v_fv ad M c cls)).set j (vcv ad v))) = v_wl dA ad n M1 := by
      refine v_wl_set ?_ (fun i hi => v_ce_congr (hM i hi).1 (hM i hi).2.1 (hM i hi).2.2)
      rw [v_obj hL, v_fset (hv ad) (ho ad)]
    rw [e1] at p1 d1
    exact (kk r M' ho9).2 ad p e R s m args below meth cd H1 locs1 cells slots Q A ls C ⟨p1, hK, d1, s1, hA, hG⟩ (fun h => hZ (Zr h)) h3 h4 hl Rt
  have hlen : j < ((List.range (v_N cls)).map (v_fv ad M c cls)).length := by simp [f2]
  cases fin with
  | false =>
    rcases f4 with f4 | ⟨h0, h, f4⟩
    · exact va_put (D := D) (Ts := v_G) hx hb hts f3 ty0 f5 f6 hown hK hP hD hS c he f1 j f2 (hts _ f4) (fun _ h => h) f8 (f5 j f2) (by rw [f7]; exact hn ad) (by rw [f7]; exact hfit ad) hlen hd hset
    · exact va_putN (D := D) (Ts := v_G) hx hb hts f3 ty0 f5 f6 hown hK hP hD hS c he f1 j f2 (v_nwU (fun _ => hG.1 _ f4) rfl) (fun _ h => h) f8 (f5 j f2) (by rw [f7]; exact hn ad) (by rw [f7]; exact hfit ad) hlen hd hset
  | true =>
    obtain ⟨g1, -, g2⟩ := hfin rfl
    rcases f4 with f4 | ⟨h0, h, f4⟩
    · refine va_putF (D := D) (Ts := v_G) hx hb hts f3 ty0 f5 f6 hown hK hP hD hS c he f1 j f2 (hts _ f4) (fun _ h => h) f8 (hnm.trans g1) ?_ (f5 j f2) (by rw [f7]; exact hn ad) (by rw [f7]; exact hfit ad) hlen hd hset
      rw [f1] at g2
      rw [f9]
      exact Option.some.inj g2
    · cases h0
theorem V_puti {c cls j idx : Nat} {ty : FieldType} {x : Int32} (hd : decode S.2.1 pc = .ok (.putfield idx, 3)) (hL : v_LAY c = (0, cls, 0)) (hc : c < n) (hF : vF S.1.cls idx cls j ty false) (hk : v_FK cls j ≠ 2) (hn : narrow ty (.int x) = .int x) (hfit : fits ty (.int x) = true)
    (kk : V l D dA S al nf d kc ks (pc + 3) lv st n (v_si M c j x) o) : V l D dA S al nf d kc ks pc lv (.int x :: .ref c :: st) n M o := by
  refine V_putv hd hL hc hF (fun h => by cases h) (fun _ => hn) (fun _ => hfit) (fun ad => ?_) (fun ad i hi => ?_) (fun i hi => ⟨v_si_o hi, rfl, rfl⟩) (fun h => v_Zr_si h hc) kk
  · simp [v_fv, hk, vcv, v_si]
  · simp [v_fv, v_si, hi]
theorem V_putr {c cls j idx k : Nat} {ty : FieldType} {fin : Bool} (hd : decode S.2.1 pc = .ok (.putfield idx, 3)) (hL : v_LAY c = (0, cls, 0)) (hc : c < n) (hF : vF S.1.cls idx cls j ty fin) (hk : v_FK cls j = 2) (hfin : fin = true → S.1.name = "<init>" ∧ v_LAY c = (0, cls, 0) ∧ (vwCl[cls]?.map (fun q => q.1)) = some S.1.cls) (hty : ∀ a, narrow ty (.ref a) = .ref a ∧ fits ty (.ref a) = true) (hkn : k < n ∨ 1000 ≤ k)
    (kk : V l D dA S al nf d kc ks (pc + 3) lv st n (v_sr M c j (k + 1)) o) : V l D dA S al nf d kc ks pc lv (.ref k :: .ref c :: st) n M o := by
  refine V_putv (M1 := v_sr M c j (k + 1)) hd hL hc hF hfin (fun _ => (hty _).1) (fun _ => (hty _).2) (fun ad => ?_) (fun ad i hi => ?_) (fun i hi => ⟨rfl, rfl, v_sr_o hi⟩) (fun h => v_Zr_sr h hc (by omega)) kk
  · simp [v_fv, hk, vcv, v_sr, v_rf, va_rf]
  · simp [v_fv, v_sr, hi]
end V3
