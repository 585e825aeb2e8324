/-! returns, throws, calls -/
def vG (f : Option (vR × vM)) (K : Option Value → vM → Option (vR × vM)) : Option (vR × vM) := match f with
  | none => none
  | some (.inl k, M1) => some (.inl k, M1)
  | some (.inr v, M1) => K v M1
def bi (f : Option (vR × vM)) (K : Int32 → vM → Option (vR × vM)) : Option (vR × vM) := vG f (fun v M1 => match v with
  | some (.int x) => K x M1
  | _ => none)
def bl (f : Option (vR × vM)) (K : Int64 → vM → Option (vR × vM)) : Option (vR × vM) := vG f (fun v M1 => match v with
  | some (.long x) => K x M1
  | _ => none)
def br (f : Option (vR × vM)) (K : Nat → vM → Option (vR × vM)) : Option (vR × vM) := vG f (fun v M1 => match v with
  | some (.ref x) => K x M1
  | _ => none)
def bv (f : Option (vR × vM)) (K : vM → Option (vR × vM)) : Option (vR × vM) := vG f (fun v M1 => match v with
  | none => K M1
  | _ => none)
abbrev rI (x : Int32) (M : vM) : Option (vR × vM) := some (.inr (some (.int x)), M)
abbrev rL (x : Int64) (M : vM) : Option (vR × vM) := some (.inr (some (.long x)), M)
abbrev rR (x : Nat) (M : vM) : Option (vR × vM) := some (.inr (some (.ref x)), M)
abbrev rV (M : vM) : Option (vR × vM) := some (.inr none, M)
abbrev rT (k : Nat) (M : vM) : Option (vR × vM) := some (.inl k, M)
theorem bi_I (x : Int32) (M : vM) (K : Int32 → vM → Option (vR × vM)) : bi (rI x M) K = K x M := rfl
theorem bi_T (k : Nat) (M : vM) (K : Int32 → vM → Option (vR × vM)) : bi (rT k M) K = rT k M := rfl
theorem bl_L (x : Int64) (M : vM) (K : Int64 → vM → Option (vR × vM)) : bl (rL x M) K = K x M := rfl
theorem br_R (x : Nat) (M : vM) (K : Nat → vM → Option (vR × vM)) : br (rR x M) K = K x M := rfl
theorem br_T (k : Nat) (M : vM) (K : Nat → vM → Option (vR × vM)) : br (rT k M) K = rT k M := rfl
theorem bv_V (M : vM) (K : vM → Option (vR × vM)) : bv (rV M) K = K M := rfl
theorem bv_T (k : Nat) (M : vM) (K : vM → Option (vR × vM)) : bv (rT k M) K = rT k M := rfl
theorem v_exS {al : Bool} {ad : Nat → Nat} {n : Nat} : v_ex al ad ad n := ⟨fun _ _ => rfl, fun _ _ => rfl, fun _ => rfl⟩
section V5
variable {l : Launch} {D : va_G} {dA : Nat → ClassId} {S : vS} {al : Bool} {nf d kc ks pc pc' : Nat} {lv lv' : List (Nat × Value)} {st st' : List Value} {n : Nat} {M : vM} {o : Option (vR × vM)}
theorem V_ret {v : Option Value} (hI : vI al M) (hok : v_okR S.2.2.2.1 v) (hd : decode S.2.1 pc = .ok (v_rins S.2.2.2.1, 1)) (hv : ∀ ty x, S.2.2.2.1 = some ty → v = some (.int x) → narrow ty (.int x) = .int x) (hs : v.toList = st) : V l D dA S al n d kc ks pc lv st n M (some (.inr v, M)) := by
  intro r M' ho
  cases ho
  refine ⟨⟨hI, fun v9 h9 => by cases h9; exact hok⟩, ?_⟩
  intro ad p e R s m args below meth cd H locs cells slots Q A ls C Wd Zr h3 h4 hl Rt
  subst hs
  have h9 := (Rt ad v_exS).1 v rfl H locs pc ls Wd hd hv
  have e9 : (v.map (vcv ad)).toList = (v.toList).map (vcv ad) := by cases v <;> rfl
  rw [e9] at h9
  exact W.widen (by omega) (by omega) h9
/-- 'throw new E("text")' -/
theorem V_throw {k ik is ic sid : Nat} {text : String} (hI : vI al M) (hl9 : l.stackTraces = false) (hcls : Bundle.fit (v_exn k) = true)
    (hk : Cond.classLink S.1.cls ik (v_exn k) ∈ v_G) (hini : Cond.initialized (v_exn k) ∈ v_G) (hstr : (S.1.cls, (is, (text, sid))) ∈ v_STR) (hat : ∀ w ∈ vx_atS S.1.cls ic (v_exn k) ["java/lang/RuntimeException", "java/lang/Exception"], w ∈ v_G ∨ w ∈ v_NW)
    (hgood : ∀ w ∈ Cond.classLink S.1.cls ik (v_exn k) :: Cond.initialized (v_exn k) :: vx_atS S.1.cls ic (v_exn k) ["java/lang/RuntimeException", "java/lang/Exception"], vx_ot w = true)
    (d0 : decode S.2.1 pc = .ok (.new ik, 3)) (d3 : decode S.2.1 (pc + 3) = .ok (.dup, 1)) (d4 : decode S.2.1 (pc + 4) = .ok (.ldc is, 2)) (d6 : decode S.2.1 (pc + 6) = .ok (.invokespecial ic, 3)) (d9 : decode S.2.1 (pc + 9) = .ok (.athrow, 1))
    (hh : S.2.2.2.2 = []) (hdd : 6 ≤ d) (hkc : 1 ≤ kc) (hks : 6 ≤ ks) (hcat : (st.map fun v => v.category).sum ≤ 8) : V l D dA S al n d kc ks pc lv st n M (rT k M) := by
  intro r M' ho
  cases ho
  refine ⟨⟨hI, fun v9 h9 => (by cases h9)⟩, ?_⟩
  intro ad p e R s m args below meth cd H locs cells slots Q A ls C Wd Zr h3 h4 hl Rt
  obtain ⟨Qc, XC, mc, ms, free, rfl, c1, c2, c3, c4⟩ := (Rt ad v_exS).2 k rfl
  obtain ⟨hx, hb, hml, -, hown, hts, hlocks, htab, -, hfr, hlo⟩ := id C
  obtain ⟨hP, hK, hD, hS, hA, hG⟩ := id Wd
  have hout : ∀ x ∈ cd.exceptionTable.toList, covers x (pc + 9) = false := by
    rw [htab, hh]
    intro x hx9
    cases hx9
  have hcat9 : ((st.map (vcv ad)).map fun v => v.category).sum ≤ 8 := by
    rw [List.map_map]
    have : ((fun v => v.category) ∘ vcv ad) = fun v => v.category := by
      funext v
      exact vcv_cat ad v
    rw [this]
    exact hcat
  refine vx_throwS (A := A) (names := ["java/lang/RuntimeException", "java/lang/Exception"]) hx hb hl9 hown hcls (by decide +kernel) (hts _ hk) (hts _ hini) (hG.2.1 _ hstr) ?_ hgood hG.2.2.2.1 hG.2.2.2.2.1 hS (hl.1.trans hml.symm) d0 d3 d4 d6 d9 hout ?_ ?_ ?_ ?_ hlocks ?_ (fun z hz => c3 _ (hS.2.2 z hz)) (by omega) (by omega)
  · intro w hw
    rcases hat w hw with h | h
    · exact hts w h
    · exact v_nwU (fun _ => hG.1 w h) (List.mem_filter.mp h).2
  · show 2 + 3 < R.frames
    omega
  · show _ + (13 * (2 + 1) + 43) ≤ R.locals
    omega
  · omega
  · omega
  · intro t ht hz hq
    refine c4 t ht ⟨?_, hD⟩ ?_
    · exact hP.kept (fun k q hk => hq q.1 (hP k q hk).lt)
    · exact ⟨Nat.le_trans hS.1 hz, fun q h1 h2 => (hq q (Nat.lt_of_lt_of_le h1 hS.1)).trans (hS.2.1 q h1 h2)⟩
end V5
