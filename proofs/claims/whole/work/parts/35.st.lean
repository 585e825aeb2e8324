
def R_law : String := "NeverTwiceLaw"
def lw_P (b : Addr) (xs : List Int32) (args : Array Value) (s : State) : Prop := args = #[.ref b] ∧ s.IntsAt b xs ∧ xs.length ≤ 3072 ∧ (Jvm.Cond.and given_1 narrow_1).before args s = true
def lw_Q (_ : Array Value) (s : State) (o : Outcome) (t : State) : Prop := o = .returned (some (.int 1)) ∧ Framed s o t [] 601024 7293034
def lw_Z (below : List Frame) (a : Array Value) (s : State) : State → Prop := fun t => ∃ o, t.status = .running ∧ Ended t below o ∧ lw_Q a s o t
/-- the law's own end, with 1 on the stack, nothing written that was there before, its room as the claim has it -/
theorem lw_ret {p : Program} {l : Launch} {e : Env} {s : State} {m : MethodId} {below : List Frame} {meth : Method} {c : Code} {b : Nat} (hx : p.tables.exec = Jvm.exec) (hb : c.code = code) (hr : meth.sig.returnType = ret) (hlocks : meth.locks = false) {pc : Nat} {H : Heap} {ls : Array Slot} (hdg : decode code pc = .ok (.ireturn, 1)) : W p l e room_1 s m #[Value.ref b] below meth c H [] 601024 7293034 (lw_Z below #[Value.ref b] s) (F0 m pc ls [.int 1]) := by
  intro T hT X
  obtain ⟨fs, hret, hrun, hended, hW, hframe⟩ := X.leave (v := some (.int 1)) (hlocks := hlocks) (fun h => by rw [hr] at h; cases h)
  have hmeth' : T.vm.method? m = some meth := X.method'
  refine ⟨T.setFrames fs, ?_, .returned (some (.int 1)), hrun, hended, rfl, ⟨_, rfl⟩, hW, hframe⟩
  jvm_step X.here [X.here.top, hx, hb, hdg, hmeth', hr, ret, narrow_b1]
  (try refine ⟨rfl, ?_⟩); (try refine ⟨rfl, ?_⟩)
  first | (intro acts; rw [hret _ acts rfl rfl rfl]) | rw [hret _ _ rfl rfl rfl]
  exact Steps.refl _
/-- what holds at the law's entry: the machine, the code, the tables' words (any of lw_tbl by 'hts w (by decide +kernel)'), the script of L ints xs at the cell b, what the Statement gives of the start (any of its parts by flat_of_before) -/
def lw_At (p : Program) (s : State) (m : MethodId) (meth : Method) (c : Code) (b L : Nat) (xs : Nat → Int32) : Prop :=
  p.tables.exec = Jvm.exec ∧ c.code = code ∧ meth.sig.returnType = ret ∧ c.maxLocals = 7 ∧ s.vm.findClass R_law = some m.cls ∧ (∀ w ∈ lw_tbl, w.before #[Value.ref b] s = true) ∧ va_X b L xs s s.heap ∧ b < s.heap.size ∧ meth.locks = false ∧ (Jvm.Cond.and given_1 narrow_1).before #[Value.ref b] s = true ∧ c.exceptionTable.toList = [] ∧ meth.name = "law"
section LawStart
variable {args : Array Value} {s : State}
/-- the representatives of the string constants -/
def st_tm (i : Nat) : Term := ([.string "NeverTwice$Reader" 34, .string "NeverTwice$Reader" 40, .string "NeverTwice$Reader" 42, .string "NeverTwice$Reader" 95, .string "NeverTwice$Reader" 97, .string "NeverTwice$Reader" 102, .string "NeverTwice$Reader" 107, .string "NeverTwice$Reader" 109, .string "NeverTwice$Reader" 113, .string "NeverTwice$Reader" 115, .string "NeverTwice$Reader" 111, .string "NeverTwice$Reader" 117, .string "NeverTwice$Reader" 130, .string "NeverTwice" 366, .string "NeverTwice" 243, .string "NeverTwice" 331, .string "NeverTwice" 235, .string "NeverTwice" 364, .string "NeverTwice" 155, .string "NeverTwice" 359, .string "NeverTwice" 296, .string "NeverTwice" 103].getD i (.int 0))
def st_F : List Cond := flatC (Jvm.Cond.and given_1 narrow_1)
theorem st_in {w : Cond} (h : (Jvm.Cond.and given_1 narrow_1).before args s = true) (hw : w ∈ st_F) : w.before args s = true := flat_of_before _ h w hw
theorem st_ok1 : ((List.range 22).all fun i => decide (Cond.exactly (st_tm i) "java/lang/String" ∈ st_F) && (decide (Cond.eq (.field (st_tm i) "java/lang/String" "coder" "B") (.int 0) ∈ st_F) && (decide (Cond.arrayOf (.field (st_tm i) "java/lang/String" "value" "[B") .byte ∈ st_F) && decide (Cond.eq (.length (.field (st_tm i) "java/lang/String" "value" "[B")) (.int (Int32.ofNat (v_lenS.getD i 0))) ∈ st_F)))) = true := by decide +kernel
theorem st_e0 : (st_F.drop 105).take 3 = (List.range 3).map (fun j => Cond.eq (.elem (.field (st_tm 0) "java/lang/String" "value" "[B") (.int (Int32.ofNat j))) (.int ((v_bytS.getD 0 []).getD j 0))) := by decide +kernel
theorem st_e1 : (st_F.drop 112).take 3 = (List.range 3).map (fun j => Cond.eq (.elem (.field (st_tm 1) "java/lang/String" "value" "[B") (.int (Int32.ofNat j))) (.int ((v_bytS.getD 1 []).getD j 0))) := by decide +kernel
theorem st_e2 : (st_F.drop 119).take 5 = (List.range 5).map (fun j => Cond.eq (.elem (.field (st_tm 2) "java/lang/String" "value" "[B") (.int (Int32.ofNat j))) (.int ((v_bytS.getD 2 []).getD j 0))) := by decide +kernel
theorem st_e3 : (st_F.drop 128).take 4 = (List.range 4).map (fun j => Cond.eq (.elem (.field (st_tm 3) "java/lang/String" "value" "[B") (.int (Int32.ofNat j))) (.int ((v_bytS.getD 3 []).getD j 0))) := by decide +kernel
theorem st_e4 : (st_F.drop 136).take 5 = (List.range 5).map (fun j => Cond.eq (.elem (.field (st_tm 4) "java/lang/String" "value" "[B") (.int (Int32.ofNat j))) (.int ((v_bytS.getD 4 []).getD j 0))) := by decide +kernel
theorem st_e5 : (st_F.drop 145).take 5 = (List.range 5).map (fun j => Cond.eq (.elem (.field (st_tm 5) "java/lang/String" "value" "[B") (.int (Int32.ofNat j))) (.int ((v_bytS.getD 5 []).getD j 0))) := by decide +kernel
theorem st_e6 : (st_F.drop 154).take 4 = (List.range 4).map (fun j => Cond.eq (.elem (.field (st_tm 6) "java/lang/String" "value" "[B") (.int (Int32.ofNat j))) (.int ((v_bytS.getD 6 []).getD j 0))) := by decide +kernel
theorem st_e7 : (st_F.drop 162).take 4 = (List.range 4).map (fun j => Cond.eq (.elem (.field (st_tm 7) "java/lang/String" "value" "[B") (.int (Int32.ofNat j))) (.int ((v_bytS.getD 7 []).getD j 0))) := by decide +kernel
theorem st_e8 : (st_F.drop 185).take 4 = (List.range 4).map (fun j => Cond.eq (.elem (.field (st_tm 8) "java/lang/String" "value" "[B") (.int (Int32.ofNat j))) (.int ((v_bytS.getD 8 []).getD j 0))) := by decide +kernel
theorem st_e9 : (st_F.drop 193).take 5 = (List.range 5).map (fun j => Cond.eq (.elem (.field (st_tm 9) "java/lang/String" "value" "[B") (.int (Int32.ofNat j))) (.int ((v_bytS.getD 9 []).getD j 0))) := by decide +kernel
theorem st_e10 : (st_F.drop 170).take 3 = (List.range 3).map (fun j => Cond.eq (.elem (.field (st_tm 10) "java/lang/String" "value" "[B") (.int (Int32.ofNat j))) (.int ((v_bytS.getD 10 []).getD j 0))) := by decide +kernel
theorem st_e11 : (st_F.drop 202).take 5 = (List.range 5).map (fun j => Cond.eq (.elem (.field (st_tm 11) "java/lang/String" "value" "[B") (.int (Int32.ofNat j))) (.int ((v_bytS.getD 11 []).getD j 0))) := by decide +kernel
theorem st_e12 : (st_F.drop 177).take 4 = (List.range 4).map (fun j => Cond.eq (.elem (.field (st_tm 12) "java/lang/String" "value" "[B") (.int (Int32.ofNat j))) (.int ((v_bytS.getD 12 []).getD j 0))) := by decide +kernel
theorem st_e13 : (st_F.drop 296).take 28 = (List.range 28).map (fun j => Cond.eq (.elem (.field (st_tm 13) "java/lang/String" "value" "[B") (.int (Int32.ofNat j))) (.int ((v_bytS.getD 13 []).getD j 0))) := by decide +kernel
theorem st_e14 : (st_F.drop 285).take 7 = (List.range 7).map (fun j => Cond.eq (.elem (.field (st_tm 14) "java/lang/String" "value" "[B") (.int (Int32.ofNat j))) (.int ((v_bytS.getD 14 []).getD j 0))) := by decide +kernel
theorem st_e15 : (st_F.drop 344).take 6 = (List.range 6).map (fun j => Cond.eq (.elem (.field (st_tm 15) "java/lang/String" "value" "[B") (.int (Int32.ofNat j))) (.int ((v_bytS.getD 15 []).getD j 0))) := by decide +kernel
theorem st_e16 : (st_F.drop 258).take 23 = (List.range 23).map (fun j => Cond.eq (.elem (.field (st_tm 16) "java/lang/String" "value" "[B") (.int (Int32.ofNat j))) (.int ((v_bytS.getD 16 []).getD j 0))) := by decide +kernel
theorem st_e17 : (st_F.drop 243).take 11 = (List.range 11).map (fun j => Cond.eq (.elem (.field (st_tm 17) "java/lang/String" "value" "[B") (.int (Int32.ofNat j))) (.int ((v_bytS.getD 17 []).getD j 0))) := by decide +kernel
theorem st_e18 : (st_F.drop 211).take 12 = (List.range 12).map (fun j => Cond.eq (.elem (.field (st_tm 18) "java/lang/String" "value" "[B") (.int (Int32.ofNat j))) (.int ((v_bytS.getD 18 []).getD j 0))) := by decide +kernel
theorem st_e19 : (st_F.drop 227).take 12 = (List.range 12).map (fun j => Cond.eq (.elem (.field (st_tm 19) "java/lang/String" "value" "[B") (.int (Int32.ofNat j))) (.int ((v_bytS.getD 19 []).getD j 0))) := by decide +kernel
theorem st_e20 : (st_F.drop 328).take 12 = (List.range 12).map (fun j => Cond.eq (.elem (.field (st_tm 20) "java/lang/String" "value" "[B") (.int (Int32.ofNat j))) (.int ((v_bytS.getD 20 []).getD j 0))) := by decide +kernel
theorem st_e21 : (st_F.drop 71).take 30 = (List.range 30).map (fun j => Cond.eq (.elem (.field (st_tm 21) "java/lang/String" "value" "[B") (.int (Int32.ofNat j))) (.int ((v_bytS.getD 21 []).getD j 0))) := by decide +kernel
theorem st_ok2 : ∀ i, i < 22 → ∀ j, j < v_lenS.getD i 0 → Cond.eq (.elem (.field (st_tm i) "java/lang/String" "value" "[B") (.int (Int32.ofNat j))) (.int ((v_bytS.getD i []).getD j 0)) ∈ st_F := by
  have key : ∀ {o n : Nat} {f : Nat → Cond}, (st_F.drop o).take n = (List.range n).map f → ∀ j, j < n → f j ∈ st_F := fun h j hj => List.mem_of_mem_drop (List.mem_of_mem_take (by rw [h]; exact List.mem_map.mpr ⟨j, List.mem_range.mpr hj, rfl⟩))
  intro i hi
  match i, hi with
  | 0, _ => exact key st_e0
  | 1, _ => exact key st_e1
  | 2, _ => exact key st_e2
  | 3, _ => exact key st_e3
  | 4, _ => exact key st_e4
  | 5, _ => exact key st_e5
  | 6, _ => exact key st_e6
  | 7, _ => exact key st_e7
  | 8, _ => exact key st_e8
  | 9, _ => exact key st_e9
  | 10, _ => exact key st_e10
  | 11, _ => exact key st_e11
  | 12, _ => exact key st_e12
  | 13, _ => exact key st_e13
  | 14, _ => exact key st_e14
  | 15, _ => exact key st_e15
  | 16, _ => exact key st_e16
  | 17, _ => exact key st_e17
  | 18, _ => exact key st_e18
  | 19, _ => exact key st_e19
  | 20, _ => exact key st_e20
  | 21, _ => exact key st_e21
  | n + 22, h => exact absurd h (by omega)
theorem st_ok3 : ((List.range 22).all fun i => (List.range 22).all fun j => decide (i = j) || (decide (Int32.ofNat (v_lenS.getD i 0) ≠ Int32.ofNat (v_lenS.getD j 0)) || (decide (v_lenS.getD i 0 = v_lenS.getD j 0) && (List.range (v_lenS.getD i 0)).any fun k => decide ((v_bytS.getD i []).getD k 0 ≠ (v_bytS.getD j []).getD k 0)))) = true := by decide +kernel
theorem st_ok1' {i : Nat} (h : (Jvm.Cond.and given_1 narrow_1).before args s = true) (hi : i < 22) : (Cond.exactly (st_tm i) "java/lang/String").before args s = true ∧ (Cond.eq (.field (st_tm i) "java/lang/String" "coder" "B") (.int 0)).before args s = true ∧ (Cond.arrayOf (.field (st_tm i) "java/lang/String" "value" "[B") .byte).before args s = true ∧ (Cond.eq (.length (.field (st_tm i) "java/lang/String" "value" "[B")) (.int (Int32.ofNat (v_lenS.getD i 0)))).before args s = true := by
  have h1 := List.all_eq_true.mp st_ok1 i (List.mem_range.mpr hi)
  simp only [Bool.and_eq_true, decide_eq_true_eq] at h1
  exact ⟨st_in h h1.1, st_in h h1.2.1, st_in h h1.2.2.1, st_in h h1.2.2.2⟩
theorem st_ok2' {i j : Nat} (h : (Jvm.Cond.and given_1 narrow_1).before args s = true) (hi : i < 22) (hj : j < v_lenS.getD i 0) : (Cond.eq (.elem (.field (st_tm i) "java/lang/String" "value" "[B") (.int (Int32.ofNat j))) (.int ((v_bytS.getD i []).getD j 0))).before args s = true :=
  st_in h (st_ok2 i hi j hj)
theorem st_ne {i j : Nat} (h : (Jvm.Cond.and given_1 narrow_1).before args s = true) (hi : i < 22) (hj : j < 22) (hij : i ≠ j) : (Cond.not (Cond.eq (st_tm i) (st_tm j))).before args s = true := by
  obtain ⟨a1, a2, a3, a4⟩ := st_ok1' h hi
  obtain ⟨b1, b2, b3, b4⟩ := st_ok1' h hj
  obtain ⟨a, -, -, -, q1, -⟩ := Cond.exactly_spec (args := args) (first := s) (o := none) (s := s) (idx := []) (t := st_tm i) (cls := "java/lang/String") a1
  obtain ⟨b, -, -, -, q2, -⟩ := Cond.exactly_spec (args := args) (first := s) (o := none) (s := s) (idx := []) (t := st_tm j) (cls := "java/lang/String") b1
  have hne : a ≠ b := by
    intro e
    subst e
    have hF : (Term.field (st_tm i) "java/lang/String" "value" "[B").eval args s none [] s = (Term.field (st_tm j) "java/lang/String" "value" "[B").eval args s none [] s := by
      rw [va_fe q1, va_fe q2]
    have hl : (Term.length (.field (st_tm i) "java/lang/String" "value" "[B")).eval args s none [] s = (Term.length (.field (st_tm j) "java/lang/String" "value" "[B")).eval args s none [] s := by
      unfold Term.eval
      rw [hF]
    rw [va_eqt a4, va_eqt b4] at hl
    have hl2 : Int32.ofNat (v_lenS.getD i 0) = Int32.ofNat (v_lenS.getD j 0) := Value.int.inj (Option.some.inj hl)
    have h3 := List.all_eq_true.mp (List.all_eq_true.mp st_ok3 i (List.mem_range.mpr hi)) j (List.mem_range.mpr hj)
    simp only [Bool.or_eq_true, Bool.and_eq_true, decide_eq_true_eq] at h3
    rcases h3 with h3 | h3 | ⟨h3, h4⟩
    · exact hij h3
    · exact h3 hl2
    · obtain ⟨k, hk, hk2⟩ := List.any_eq_true.mp h4
      have hk3 := of_decide_eq_true hk2
      have hk4 := List.mem_range.mp hk
      have he : (Term.elem (.field (st_tm i) "java/lang/String" "value" "[B") (.int (Int32.ofNat k))).eval args s none [] s = (Term.elem (.field (st_tm j) "java/lang/String" "value" "[B") (.int (Int32.ofNat k))).eval args s none [] s := by
        unfold Term.eval
        rw [hF]
      rw [va_eqt (st_ok2' h hi hk4), va_eqt (st_ok2' h hj (by rw [← h3]; exact hk4))] at he
      exact hk3 (Value.int.inj (Option.some.inj he))
  simp [Cond.before, Cond.holds, Cond.value, q1, q2, hne]
theorem st_S {A : Nat → Prop} (h : (Jvm.Cond.and given_1 narrow_1).before args s = true) (hA : ∀ a : Nat, a < s.heap.size → ¬ A a) : ∃ adK adV : Nat → Nat, vk_S 22 v_lenS v_bytS adK adV A s s.heap ∧ ∀ i : Nat, i < 22 → (st_tm i).eval args s none [] s = some (.ref (adK i)) :=
  vk_Sof (fun i hi => by
    have := List.all_eq_true.mp (show ((List.range 22).all fun i => decide (v_lenS.getD i 0 < 2 ^ 31)) = true by decide +kernel) i (List.mem_range.mpr hi)
    exact of_decide_eq_true this) (fun i hi => (st_ok1' h hi).1) (fun i hi => (st_ok1' h hi).2.1) (fun i hi => (st_ok1' h hi).2.2.1) (fun i hi => (st_ok1' h hi).2.2.2) (fun i hi j hj => st_ok2' h hi hj) (fun i j hi hj hij => Or.inl (st_ne h hi hj hij)) hA
/-- each place of a string constant: its word, and what it comes to -/
def st_q (q : String × (Nat × (String × Nat))) : Bool := decide (Cond.stringRef q.1 q.2.1 q.2.2.1 ∈ lw_tbl) && (decide (st_tm q.2.2.2 = .string q.1 q.2.1) || decide (Cond.eq (st_tm q.2.2.2) (.string q.1 q.2.1) ∈ st_F))
theorem st_qok : (v_STR.all fun q => st_q q && decide (q.2.2.2 < 22)) = true := by decide +kernel
theorem st_eqR {t u : Term} {a : Nat} (h : (Cond.eq t u).before args s = true) (ht : t.eval args s none [] s = some (.ref a)) : u.eval args s none [] s = some (.ref a) := by
  cases hu : u.eval args s none [] s with
  | none => simp [Cond.before, Cond.holds, Cond.value, ht, hu] at h
  | some w =>
    cases w <;> simp_all [Cond.before, Cond.holds, Cond.value]
theorem st_R {adK : Nat → Nat} (h : (Jvm.Cond.and given_1 narrow_1).before args s = true) (hts : ∀ w ∈ lw_tbl, w.before args s = true) (hev : ∀ i : Nat, i < 22 → (st_tm i).eval args s none [] s = some (.ref (adK i))) (q : String × (Nat × (String × Nat))) (hq : q ∈ v_STR) : vk_R q.1 q.2.1 q.2.2.1 (adK q.2.2.2) s := by
  have h1 := List.all_eq_true.mp st_qok q hq
  unfold st_q at h1
  simp only [Bool.or_eq_true, Bool.and_eq_true, decide_eq_true_eq] at h1
  obtain ⟨⟨h2, h3⟩, h4⟩ := h1
  have h5 := hev q.2.2.2 h4
  refine vk_R.of (A := args) (hts _ h2) ?_
  rcases h3 with h3 | h3
  · rw [h3] at h5
    exact h5
  · exact st_eqR (st_in h h3) h5
theorem st_NW (hts : ∀ w ∈ lw_tbl, w.before args s = true) : ∀ w ∈ v_NW, va_Nw w s := by
  intro w hw
  have h1 := List.mem_filter.mp hw
  have h2 := hts w h1.1
  have h3 : w.onTables = true := by
    have h4 := h1.2
    cases w <;> first | rfl | (simp [v_nwK] at h4)
  exact va_Nw.of h3 h2
theorem st_K (hG : ∀ w ∈ v_G, w.before args s = true) : ∀ c : Nat, ∃ q : ClassId × (Nat → Nat), ∀ r, vwCl[c]? = some r → u_Kn s r.1 r.2.1 r.2.2 q.1 q.2 := by
  intro c
  by_cases hc : c < 12
  · match c, hc with
    | 0, _ =>
      obtain ⟨cC, iS, h⟩ := u_known hG inG0 (hG _ gw269)
      exact ⟨(cC, iS), fun r hr => by cases hr; exact h⟩
    | 1, _ =>
      obtain ⟨cC, iS, h⟩ := u_known hG inG1 (hG _ gw169)
      exact ⟨(cC, iS), fun r hr => by cases hr; exact h⟩
    | 2, _ =>
      obtain ⟨cC, iS, h⟩ := u_known hG inG2 (hG _ gw279)
      exact ⟨(cC, iS), fun r hr => by cases hr; exact h⟩
    | 3, _ =>
      obtain ⟨cC, iS, h⟩ := u_known hG inG3 (hG _ gw332)
      exact ⟨(cC, iS), fun r hr => by cases hr; exact h⟩
    | 4, _ =>
      obtain ⟨cC, iS, h⟩ := u_known hG inG4 (hG _ gw129)
      exact ⟨(cC, iS), fun r hr => by cases hr; exact h⟩
    | 5, _ =>
      obtain ⟨cC, iS, h⟩ := u_known hG inG5 (hG _ gw308)
      exact ⟨(cC, iS), fun r hr => by cases hr; exact h⟩
    | 6, _ =>
      obtain ⟨cC, iS, h⟩ := u_known hG inG6 (hG _ gw238)
      exact ⟨(cC, iS), fun r hr => by cases hr; exact h⟩
    | 7, _ =>
      obtain ⟨cC, iS, h⟩ := u_known hG inG7 (hG _ gw208)
      exact ⟨(cC, iS), fun r hr => by cases hr; exact h⟩
    | 8, _ =>
      obtain ⟨cC, iS, h⟩ := u_known hG inG8 (hG _ gw114)
      exact ⟨(cC, iS), fun r hr => by cases hr; exact h⟩
    | 9, _ =>
      obtain ⟨cC, iS, h⟩ := u_known hG inG9 (hG _ gw394)
      exact ⟨(cC, iS), fun r hr => by cases hr; exact h⟩
    | 10, _ =>
      obtain ⟨cC, iS, h⟩ := u_known hG inG10 (hG _ gw106)
      exact ⟨(cC, iS), fun r hr => by cases hr; exact h⟩
    | 11, _ =>
      obtain ⟨cC, iS, h⟩ := u_known hG inG11 (hG _ gw1236)
      exact ⟨(cC, iS), fun r hr => by cases hr; exact h⟩
    | n + 12, h => exact absurd h (by omega)
  · refine ⟨(0, fun _ => 0), fun r hr => ?_⟩
    have h1 := (List.getElem?_eq_some_iff.mp hr).1
    have h2 : vwCl.length = 12 := rfl
    omega
theorem st_A (hG : ∀ w ∈ v_G, w.before args s = true) (hts : ∀ w ∈ lw_tbl, w.before args s = true) : ∀ t : Nat, ∃ cA : ClassId, t < 7 → ArrOfT s cA (v_ty t) ∧ va_RA s cA (v_ty t) := by
  intro t
  by_cases ht : t < 7
  · match t, ht with
    | 0, _ =>
      obtain ⟨c, k, comp, h1, h2, h3⟩ := Cond.arrayClass_spec (hG _ gw206)
      exact ⟨c, fun _ => ⟨fun n z => ⟨fun k h => (by cases h), k, h2, comp, h3⟩, h1⟩⟩
    | 1, _ =>
      obtain ⟨c, k, comp, h1, h2, h3⟩ := Cond.arrayClass_spec (hG _ gw236)
      exact ⟨c, fun _ => ⟨fun n z => ⟨fun k h => (by cases h), k, h2, comp, h3⟩, h1⟩⟩
    | 2, _ =>
      obtain ⟨c, k, comp, h1, h2, h3⟩ := Cond.arrayClass_spec (hG _ gw127)
      exact ⟨c, fun _ => ⟨fun n z => ⟨fun k h => (by cases h), k, h2, comp, h3⟩, h1⟩⟩
    | 3, _ =>
      obtain ⟨c, k, comp, h1, h2, h3⟩ := Cond.arrayClass_spec (hG _ gw235)
      exact ⟨c, fun _ => ⟨fun n z => ⟨fun k h => (by cases h), k, h2, comp, h3⟩, h1⟩⟩
    | 4, _ =>
      obtain ⟨comp, c, k, h1, h2, h3, h4, h5⟩ := Cond.arrayOver_spec (hts (.arrayOver (.object "NeverTwice$Plan")) (List.mem_of_getElem? (i := 165) (by decide +kernel)))
      exact ⟨c, fun _ => ⟨fun n z => ⟨fun k h => (by cases h), k, h3, comp, h4⟩, k, comp, h3, h4, h1, h5⟩⟩
    | 5, _ =>
      obtain ⟨comp, c, k, h1, h2, h3, h4, h5⟩ := Cond.arrayOver_spec (hts (.arrayOver (.object "NeverTwice$Work")) (List.mem_of_getElem? (i := 167) (by decide +kernel)))
      exact ⟨c, fun _ => ⟨fun n z => ⟨fun k h => (by cases h), k, h3, comp, h4⟩, k, comp, h3, h4, h1, h5⟩⟩
    | 6, _ =>
      obtain ⟨comp, c, k, h1, h2, h3, h4, h5⟩ := Cond.arrayOver_spec (hts (.arrayOver (.object "java/lang/String")) (List.mem_of_getElem? (i := 1242) (by decide +kernel)))
      exact ⟨c, fun _ => ⟨fun n z => ⟨fun k h => (by cases h), k, h3, comp, h4⟩, k, comp, h3, h4, h1, h5⟩⟩
    | n + 7, h => exact absurd h (by omega)
  · exact ⟨0, fun h => absurd h ht⟩
theorem st_xs (x : Int32) : nI x.toBitVec.toNat = x := Int32.toBitVec_inj.mp (by
  show BitVec.ofNat 32 _ = _
  simp)
theorem st_nIs (xs : Nat → Int32) (j : Nat) : nI ((xs j).toBitVec.toNat) = xs j := st_xs _
end LawStart
/-- the law comes to its end where the two sides agree -/
theorem start_of {p : Program} {e : Env} {s : State} {m : MethodId} {below : List Frame} {meth : Method} {c : Code} (l : Launch) (hT : l.stackTraces = false) {b L : Nat} {xs : Nat → Int32} (hL : L ≤ 3072) (C0 : lw_At p s m meth c b L xs) {M' : vM} (hpure : fL_go L xs 512 0 M1S = rI 1 M') : W p l e room_1 s m #[Value.ref b] below meth c s.heap [] 0 0 (lw_Z below #[Value.ref b] s) (entryFrame m ([Value.ref b] : List Value).toArray 7) := by
  obtain ⟨hx, hb, hret, hml, hown, hts, hX, hbl, hlocks, hgv, htab, hnm⟩ := C0
  have hG : ∀ w ∈ v_G, w.before #[Value.ref b] s = true := fun w hw => hts w (List.mem_filter.mp hw).1
  have hA : ∀ a : Nat, a < s.heap.size → ¬ (s.heap.size ≤ a) := fun a h => by omega
  obtain ⟨adK, adV, hSt, hev⟩ := st_S (A := fun q => s.heap.size ≤ q) hgv hA
  obtain ⟨K, hK⟩ := Classical.skolem.mp (st_K hG)
  obtain ⟨dA, hdA⟩ := Classical.skolem.mp (st_A hG hts)
  have hsio := va_Zqof (A := fun q => s.heap.size ≤ q) (hts (.laysStatic "jdk/internal/util/Preconditions" "SIOOBE_FORMATTER" "Ljava/util/function/BiFunction;") (List.mem_of_getElem? (i := 678) (by decide +kernel))) (hts (.initialized "jdk/internal/util/Preconditions") (List.mem_of_getElem? (i := 99) (by decide +kernel))) (st_in hgv (show Cond.isRef (Term.static "jdk/internal/util/Preconditions" "SIOOBE_FORMATTER" "Ljava/util/function/BiFunction;") ∈ st_F by decide +kernel)) hA
  obtain ⟨sio, hsio2⟩ : ∃ t : Nat, va_Z "jdk/internal/util/Preconditions" "SIOOBE_FORMATTER" "Ljava/util/function/BiFunction;" .null (fun q => s.heap.size ≤ q) s s.heap ∨ va_Z "jdk/internal/util/Preconditions" "SIOOBE_FORMATTER" "Ljava/util/function/BiFunction;" (.ref t) (fun q => s.heap.size ≤ q) s s.heap := by
    rcases hsio with h | ⟨t, h⟩
    · exact ⟨0, Or.inl h⟩
    · exact ⟨t, Or.inr h⟩
  let D : va_G := (fun c => (K c).1, fun c j => if c = 100 then (if j = 0 then b else L) else if c = 101 then (xs j).toBitVec.toNat else (K c).2 j)
  let ad : Nat → Nat := fun i => if i = 6000 then b else if i = 5000 then sio else if 2000 ≤ i then adV (i - 2000) else adK (i - 1000)
  have adK' : ∀ i, i < 22 → ad (1000 + i) = adK i := by
    intro i hi
    show (if 1000 + i = 6000 then b else if 1000 + i = 5000 then sio else if 2000 ≤ 1000 + i then adV (1000 + i - 2000) else adK (1000 + i - 1000)) = adK i
    rw [if_neg (by omega), if_neg (by omega), if_neg (by omega), Nat.add_sub_cancel_left]
  have adV' : ∀ i, i < 22 → ad (2000 + i) = adV i := by
    intro i hi
    show (if 2000 + i = 6000 then b else if 2000 + i = 5000 then sio else if 2000 ≤ 2000 + i then adV (2000 + i - 2000) else adK (2000 + i - 1000)) = adV i
    rw [if_neg (by omega), if_neg (by omega), if_pos (by omega), Nat.add_sub_cancel_left]
  have hKn : va_K D vwCl (v_tys dA) s := by
    refine ⟨fun c q hq => ?_, fun k q hq => ?_⟩
    · have hc : c < 12 := (List.getElem?_eq_some_iff.mp hq).1
      have h1 := hK c q hq
      have e : D.2 c = (K c).2 := by
        funext j
        show (if c = 100 then (if j = 0 then b else L) else if c = 101 then (xs j).toBitVec.toNat else (K c).2 j) = (K c).2 j
        rw [if_neg (by omega), if_neg (by omega)]
      rw [e]
      exact h1
    · have hk : k < 7 := by
        have := (List.getElem?_eq_some_iff.mp hq).1
        simpa [v_tys] using this
      rw [v_tys_get hk] at hq
      cases hq
      exact hdA k hk
  have hGE : v_GE D ad (fun q => s.heap.size ≤ q) s s.heap := by
    refine ⟨st_NW hts, fun q hq => ?_, ⟨fun i hi => ?_, fun i j hi hj h => ?_⟩, vx_Zqof (hts (.laysStatic "java/lang/Throwable" "UNASSIGNED_STACK" "[Ljava/lang/StackTraceElement;") (List.mem_of_getElem? (i := 587) (by decide +kernel))) (hts (.initialized "java/lang/Throwable") (List.mem_of_getElem? (i := 93) (by decide +kernel))) (st_in hgv (show Cond.isRef (Term.static "java/lang/Throwable" "UNASSIGNED_STACK" "[Ljava/lang/StackTraceElement;") ∈ st_F by decide +kernel)) hA, vx_Zqof (hts (.laysStatic "java/lang/Throwable" "SUPPRESSED_SENTINEL" "Ljava/util/List;") (List.mem_of_getElem? (i := 589) (by decide +kernel))) (hts (.initialized "java/lang/Throwable") (List.mem_of_getElem? (i := 93) (by decide +kernel))) (st_in hgv (show Cond.isRef (Term.static "java/lang/Throwable" "SUPPRESSED_SENTINEL" "Ljava/util/List;") ∈ st_F by decide +kernel)) hA, va_Zof (hts (.laysStatic "java/lang/String" "COMPACT_STRINGS" "Z") (List.mem_of_getElem? (i := 662) (by decide +kernel))) (hts (.initialized "java/lang/String") (List.mem_of_getElem? (i := 97) (by decide +kernel))) (va_eqi (st_in hgv (show Cond.eq (Term.static "java/lang/String" "COMPACT_STRINGS" "Z") (Term.int 1) ∈ st_F by decide +kernel))) hA, hsio2, va_AO.of (hts (.arrayOver (.object "NeverTwice$Plan")) (List.mem_of_getElem? (i := 165) (by decide +kernel))), va_AO.of (hts (.arrayOver (.object "NeverTwice$Work")) (List.mem_of_getElem? (i := 167) (by decide +kernel))), va_AO.of (hts (.arrayOver (.object "java/lang/String")) (List.mem_of_getElem? (i := 1242) (by decide +kernel))), va_Nc.of (st_in hgv (show Cond.not (Cond.castable "java/lang/IllegalArgumentException" "java/util/NoSuchElementException") ∈ st_F by decide +kernel)), ⟨?_, hbl, fun h => absurd hbl (by
      have h2 : s.heap.size ≤ b := h
      omega)⟩, rfl⟩
    · have h1 := List.all_eq_true.mp st_qok q hq
      simp only [Bool.and_eq_true, decide_eq_true_eq] at h1
      rw [adK' _ h1.2]
      exact st_R hgv hts hev q hq
    · have h1 := hSt.1 i hi
      have e1 := adK' i hi
      have e2 := adV' i hi
      show va_O "java/lang/String" (ad (1000 + i)) _ s s.heap ∧ va_OF "java/lang/String" "coder" "B" (.int 0) (ad (1000 + i)) _ s s.heap ∧ va_OF "java/lang/String" "value" "[B" (.ref (ad (2000 + i))) (ad (1000 + i)) _ s s.heap ∧ va_T .byte (ad (2000 + i)) (v_lenS.getD i 0) (fun j => .int ((v_bytS.getD i []).getD j 0)) _ s s.heap
      rw [e1, e2]
      exact h1
    · have h9 : ad (1000 + i) = ad (1000 + j) := h
      rw [adK' i hi, adK' j hj] at h9
      exact hSt.2 i j hi hj h9
    · have e : (fun j => nI (D.2 101 j)) = xs := by
        funext j
        exact st_nIs xs j
      show va_X b L (fun j => nI (D.2 101 j)) s s.heap
      rw [e]
      exact hX
  have hV := vL_in (l := l) (D := D) (dA := dA) (L := L) (xs := xs) hT rfl (st_nIs xs) hL _ _ hpure
  have C : vCx sL_law 40 room_1 p s m #[Value.ref b] meth c := ⟨hx, hb, hml, hret, hown, hG, hlocks, htab, hnm, Nat.le_of_ble_eq_true rfl, Nat.le_of_ble_eq_true rfl⟩
  have hl := v_entry (ad := ad) (av := [.ref 6000]) (nL := 7) (lv := [(0, .ref 6000)]) (Nat.le_of_ble_eq_true rfl) rfl (v_args_map _ 0)
  rw [lg_entry_eq]
  have hW : v_Wd D dA ad 0 M0 (fun q => s.heap.size ≤ q) s s.heap [] := by
    refine ⟨fun k q hk => ?_, hKn, ⟨fun i j p q hi => ?_, fun k q hk => ?_⟩, va_S.rf, fun q h => h, hGE⟩
    · simp [v_wl] at hk
    · simp [v_wl] at hi
    · simp [v_wl] at hk
  refine hV.2 ad p e room_1 s m _ below meth c s.heap [] 0 0 _ (fun q => s.heap.size ≤ q) _ C hW (fun _ => z0_M0) (Nat.le_of_ble_eq_true rfl) (Nat.le_of_ble_eq_true rfl) hl ?_
  intro ad' hex
  refine ⟨fun v hv H locs pc ls Wd hd hn => ?_, fun k hk => by cases hk⟩
  cases hv
  refine va_forget (fun q hq => Wd.2.2.2.1.2.2 q hq) ?_
  exact lw_ret hx hb hret hlocks hd
