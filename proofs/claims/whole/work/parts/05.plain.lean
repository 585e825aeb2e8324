section V2
variable {l : Launch} {D : va_G} {dA : Nat → ClassId} {S : vS} {al : Bool} {nf d kc ks pc pc' : Nat} {lv lv' : List (Nat × Value)} {st st' : List Value} {n : Nat} {M : vM} {o : Option (vR × vM)}
theorem V_iadd {a b : Int32} (hd : decode S.2.1 pc = .ok (.iadd, 1)) (kk : V l D dA S al nf d kc ks (pc + 1) lv (.int (a + b) :: st) n M o) : V l D dA S al nf d kc ks pc lv (.int b :: .int a :: st) n M o :=
  V_step (fun hx hb _ w => lv_iadd hx hb hd w) kk
theorem V_isub {a b : Int32} (hd : decode S.2.1 pc = .ok (.isub, 1)) (kk : V l D dA S al nf d kc ks (pc + 1) lv (.int (a - b) :: st) n M o) : V l D dA S al nf d kc ks pc lv (.int b :: .int a :: st) n M o :=
  V_step (fun hx hb _ w => lv_isub hx hb hd w) kk
theorem V_imul {a b : Int32} (hd : decode S.2.1 pc = .ok (.imul, 1)) (kk : V l D dA S al nf d kc ks (pc + 1) lv (.int (a * b) :: st) n M o) : V l D dA S al nf d kc ks pc lv (.int b :: .int a :: st) n M o :=
  V_step (fun hx hb _ w => lv_imul hx hb hd w) kk
theorem V_iand {a b : Int32} (hd : decode S.2.1 pc = .ok (.iand, 1)) (kk : V l D dA S al nf d kc ks (pc + 1) lv (.int (a &&& b) :: st) n M o) : V l D dA S al nf d kc ks pc lv (.int b :: .int a :: st) n M o :=
  V_step (fun hx hb _ w => lv_iand hx hb hd w) kk
theorem V_ior {a b : Int32} (hd : decode S.2.1 pc = .ok (.ior, 1)) (kk : V l D dA S al nf d kc ks (pc + 1) lv (.int (a ||| b) :: st) n M o) : V l D dA S al nf d kc ks pc lv (.int b :: .int a :: st) n M o :=
  V_step (fun hx hb _ w => lv_ior hx hb hd w) kk
theorem V_ixor {a b : Int32} (hd : decode S.2.1 pc = .ok (.ixor, 1)) (kk : V l D dA S al nf d kc ks (pc + 1) lv (.int (a ^^^ b) :: st) n M o) : V l D dA S al nf d kc ks pc lv (.int b :: .int a :: st) n M o :=
  V_step (fun hx hb _ w => lv_ixor hx hb hd w) kk
theorem V_ishl {a b : Int32} (hd : decode S.2.1 pc = .ok (.ishl, 1)) (kk : V l D dA S al nf d kc ks (pc + 1) lv (.int (a <<< (b &&& 31)) :: st) n M o) : V l D dA S al nf d kc ks pc lv (.int b :: .int a :: st) n M o :=
  V_step (fun hx hb _ w => lv_ishl hx hb hd w) kk
theorem V_ishr {a b : Int32} (hd : decode S.2.1 pc = .ok (.ishr, 1)) (kk : V l D dA S al nf d kc ks (pc + 1) lv (.int (a >>> (b &&& 31)) :: st) n M o) : V l D dA S al nf d kc ks pc lv (.int b :: .int a :: st) n M o :=
  V_step (fun hx hb _ w => lv_ishr hx hb hd w) kk
theorem V_iushr {a b : Int32} (hd : decode S.2.1 pc = .ok (.iushr, 1)) (kk : V l D dA S al nf d kc ks (pc + 1) lv (.int ((a.toUInt32 >>> (b.toUInt32 &&& Int32.toUInt32 31)).toInt32) :: st) n M o) : V l D dA S al nf d kc ks pc lv (.int b :: .int a :: st) n M o :=
  V_step (fun hx hb _ w => lv_iushr hx hb hd rfl w) kk
theorem V_ladd {a b : Int64} (hd : decode S.2.1 pc = .ok (.ladd, 1)) (kk : V l D dA S al nf d kc ks (pc + 1) lv (.long (a + b) :: st) n M o) : V l D dA S al nf d kc ks pc lv (.long b :: .long a :: st) n M o :=
  V_step (fun hx hb _ w => lv_ladd hx hb hd w) kk
theorem V_lsub {a b : Int64} (hd : decode S.2.1 pc = .ok (.lsub, 1)) (kk : V l D dA S al nf d kc ks (pc + 1) lv (.long (a - b) :: st) n M o) : V l D dA S al nf d kc ks pc lv (.long b :: .long a :: st) n M o :=
  V_step (fun hx hb _ w => lv_lsub hx hb hd w) kk
theorem V_lmul {a b : Int64} (hd : decode S.2.1 pc = .ok (.lmul, 1)) (kk : V l D dA S al nf d kc ks (pc + 1) lv (.long (a * b) :: st) n M o) : V l D dA S al nf d kc ks pc lv (.long b :: .long a :: st) n M o :=
  V_step (fun hx hb _ w => lv_lmul hx hb hd w) kk
theorem V_land {a b : Int64} (hd : decode S.2.1 pc = .ok (.land, 1)) (kk : V l D dA S al nf d kc ks (pc + 1) lv (.long (a &&& b) :: st) n M o) : V l D dA S al nf d kc ks pc lv (.long b :: .long a :: st) n M o :=
  V_step (fun hx hb _ w => lv_land hx hb hd w) kk
theorem V_lor {a b : Int64} (hd : decode S.2.1 pc = .ok (.lor, 1)) (kk : V l D dA S al nf d kc ks (pc + 1) lv (.long (a ||| b) :: st) n M o) : V l D dA S al nf d kc ks pc lv (.long b :: .long a :: st) n M o :=
  V_step (fun hx hb _ w => lv_lor hx hb hd w) kk
theorem V_lshl {a : Int64} {b : Int32} (hd : decode S.2.1 pc = .ok (.lshl, 1)) (kk : V l D dA S al nf d kc ks (pc + 1) lv (.long (a <<< (b.toInt64 &&& 63)) :: st) n M o) : V l D dA S al nf d kc ks pc lv (.int b :: .long a :: st) n M o :=
  V_step (fun hx hb _ w => lv_lshl hx hb hd rfl w) kk
theorem V_lshr {a : Int64} {b : Int32} (hd : decode S.2.1 pc = .ok (.lshr, 1)) (kk : V l D dA S al nf d kc ks (pc + 1) lv (.long (a >>> (b.toInt64 &&& 63)) :: st) n M o) : V l D dA S al nf d kc ks pc lv (.int b :: .long a :: st) n M o :=
  V_step (fun hx hb _ w => lv_lshr hx hb hd rfl w) kk
theorem V_i2l {a : Int32} (hd : decode S.2.1 pc = .ok (.i2l, 1)) (kk : V l D dA S al nf d kc ks (pc + 1) lv (.long a.toInt64 :: st) n M o) : V l D dA S al nf d kc ks pc lv (.int a :: st) n M o :=
  V_step (fun hx hb _ w => lv_i2l hx hb hd rfl w) kk
theorem V_l2i {a : Int64} (hd : decode S.2.1 pc = .ok (.l2i, 1)) (kk : V l D dA S al nf d kc ks (pc + 1) lv (.int a.toInt32 :: st) n M o) : V l D dA S al nf d kc ks pc lv (.long a :: st) n M o :=
  V_step (fun hx hb _ w => lv_l2i hx hb hd rfl w) kk
theorem V_i2b {a : Int32} (hd : decode S.2.1 pc = .ok (.i2b, 1)) (kk : V l D dA S al nf d kc ks (pc + 1) lv (.int a.toInt8.toInt32 :: st) n M o) : V l D dA S al nf d kc ks pc lv (.int a :: st) n M o :=
  V_step (fun hx hb _ w => lv_i2b hx hb hd rfl w) kk
theorem V_i2c {a : Int32} (hd : decode S.2.1 pc = .ok (.i2c, 1)) (kk : V l D dA S al nf d kc ks (pc + 1) lv (.int (a.toUInt32 % 65536).toInt32 :: st) n M o) : V l D dA S al nf d kc ks pc lv (.int a :: st) n M o :=
  V_step (fun hx hb _ w => lv_i2c hx hb hd rfl w) kk
theorem V_lcmp {a b : Int64} (hd : decode S.2.1 pc = .ok (.lcmp, 1)) (kk : V l D dA S al nf d kc ks (pc + 1) lv (.int (lg_cmp a b) :: st) n M o) : V l D dA S al nf d kc ks pc lv (.long b :: .long a :: st) n M o :=
  V_step (fun hx hb _ w => W.lcmp hx hb hd w) kk
theorem V_ineg {a : Int32} (hd : decode S.2.1 pc = .ok (.ineg, 1)) (kk : V l D dA S al nf d kc ks (pc + 1) lv (.int (-a) :: st) n M o) : V l D dA S al nf d kc ks pc lv (.int a :: st) n M o :=
  V_step (fun hx hb _ w => lv_ineg hx hb hd w) kk
theorem V_iconst {z : Int} {v : Int32} (hd : decode S.2.1 pc = .ok (.iconst z, 1)) (hv : Int32.ofInt z = v) (kk : V l D dA S al nf d kc ks (pc + 1) lv (.int v :: st) n M o) : V l D dA S al nf d kc ks pc lv (st) n M o :=
  V_step (fun hx hb _ w => lv_iconst hx hb hd hv w) kk
theorem V_bipush {z : Int} {v : Int32} (hd : decode S.2.1 pc = .ok (.bipush z, 2)) (hv : (Int8.ofInt z).toInt32 = v) (kk : V l D dA S al nf d kc ks (pc + 2) lv (.int v :: st) n M o) : V l D dA S al nf d kc ks pc lv (st) n M o :=
  V_step (fun hx hb _ w => lv_bipush hx hb hd hv w) kk
theorem V_sipush {z : Int} {v : Int32} (hd : decode S.2.1 pc = .ok (.sipush z, 3)) (hv : (Int16.ofInt z).toInt32 = v) (kk : V l D dA S al nf d kc ks (pc + 3) lv (.int v :: st) n M o) : V l D dA S al nf d kc ks pc lv (st) n M o :=
  V_step (fun hx hb _ w => lv_sipush hx hb hd hv w) kk
theorem V_lconst {z : Fin 2} {v : Int64} (hd : decode S.2.1 pc = .ok (.lconst z, 1)) (hv : Int64.ofNat (z : Nat) = v) (kk : V l D dA S al nf d kc ks (pc + 1) lv (.long v :: st) n M o) : V l D dA S al nf d kc ks pc lv (st) n M o :=
  V_step (fun hx hb _ w => lv_lconst hx hb hd hv w) kk
theorem V_dup {v : Value} (hd : decode S.2.1 pc = .ok (.dup, 1)) (hv : v.category = 1) (kk : V l D dA S al nf d kc ks (pc + 1) lv (v :: v :: st) n M o) : V l D dA S al nf d kc ks pc lv (v :: st) n M o :=
  V_step (fun hx hb _ w => lv_dup hx hb hd ((vcv_cat _ _).trans hv) w) kk
theorem V_pop {v : Value} (hd : decode S.2.1 pc = .ok (.pop, 1)) (hv : v.category = 1) (kk : V l D dA S al nf d kc ks (pc + 1) lv (st) n M o) : V l D dA S al nf d kc ks pc lv (v :: st) n M o :=
  V_step (fun hx hb _ w => lv_pop hx hb hd ((vcv_cat _ _).trans hv) w) kk
theorem V_dup2 {u v : Value} (hd : decode S.2.1 pc = .ok (.dup2, 1)) (hu : u.category = 1) (hv : v.category = 1) (kk : V l D dA S al nf d kc ks (pc + 1) lv (u :: v :: u :: v :: st) n M o) : V l D dA S al nf d kc ks pc lv (u :: v :: st) n M o :=
  V_step (fun hx hb _ w => lv_dup2_11 hx hb hd ((vcv_cat _ _).trans hu) ((vcv_cat _ _).trans hv) w) kk
theorem V_goto {off : Int} {tgt : Nat} (hd : decode S.2.1 pc = .ok (.goto off, 3)) (ht : (pc : Int) + off = (tgt : Int)) (kk : V l D dA S al nf d kc ks tgt lv st n M o) : V l D dA S al nf d kc ks pc lv st n M o :=
  V_step (fun hx hb _ w => lv_goto hx hb hd ht w) kk
theorem V_ifeq {x : Int32} {off : Int} {tgt : Nat} {o1 o2 : Option (vR × vM)} (hd : decode S.2.1 pc = .ok (.ifCond .eq off, 3)) (ht : (pc : Int) + off = (tgt : Int)) (kt : x = 0 → V l D dA S al nf d kc ks tgt lv st n M o1) (kf : ¬ x = 0 → V l D dA S al nf d kc ks (pc + 3) lv st n M o2) : V l D dA S al nf d kc ks pc lv (.int x :: st) n M (if x = 0 then o1 else o2) := by
  intro r M' ho
  by_cases h : x = 0
  · rw [if_pos h] at ho
    refine ⟨(kt h r M' ho).1, ?_⟩
    intro ad p e R s m args below meth c H locs cells slots Q A ls C Wd Zr h3 h4 hl Rt
    exact lv_if_eq C.1 C.2.1 hd ht (fun _ => (kt h r M' ho).2 ad p e R s m args below meth c H locs cells slots Q A ls C Wd Zr h3 h4 hl Rt) (fun h9 => absurd h h9)
  · rw [if_neg h] at ho
    refine ⟨(kf h r M' ho).1, ?_⟩
    intro ad p e R s m args below meth c H locs cells slots Q A ls C Wd Zr h3 h4 hl Rt
    exact lv_if_eq C.1 C.2.1 hd ht (fun h9 => absurd h9 h) (fun _ => (kf h r M' ho).2 ad p e R s m args below meth c H locs cells slots Q A ls C Wd Zr h3 h4 hl Rt)
theorem V_icmpeq {x y : Int32} {off : Int} {tgt : Nat} {o1 o2 : Option (vR × vM)} (hd : decode S.2.1 pc = .ok (.if_icmp .eq off, 3)) (ht : (pc : Int) + off = (tgt : Int)) (kt : x = y → V l D dA S al nf d kc ks tgt lv st n M o1) (kf : ¬ x = y → V l D dA S al nf d kc ks (pc + 3) lv st n M o2) : V l D dA S al nf d kc ks pc lv (.int y :: .int x :: st) n M (if x = y then o1 else o2) := by
  intro r M' ho
  by_cases h : x = y
  · rw [if_pos h] at ho
    refine ⟨(kt h r M' ho).1, ?_⟩
    intro ad p e R s m args below meth c H locs cells slots Q A ls C Wd Zr h3 h4 hl Rt
    exact lv_icmp_eq C.1 C.2.1 hd ht (fun _ => (kt h r M' ho).2 ad p e R s m args below meth c H locs cells slots Q A ls C Wd Zr h3 h4 hl Rt) (fun h9 => absurd h h9)
  · rw [if_neg h] at ho
    refine ⟨(kf h r M' ho).1, ?_⟩
    intro ad p e R s m args below meth c H locs cells slots Q A ls C Wd Zr h3 h4 hl Rt
    exact lv_icmp_eq C.1 C.2.1 hd ht (fun h9 => absurd h9 h) (fun _ => (kf h r M' ho).2 ad p e R s m args below meth c H locs cells slots Q A ls C Wd Zr h3 h4 hl Rt)
theorem V_ifne {x : Int32} {off : Int} {tgt : Nat} {o1 o2 : Option (vR × vM)} (hd : decode S.2.1 pc = .ok (.ifCond .ne off, 3)) (ht : (pc : Int) + off = (tgt : Int)) (kt : ¬ x = 0 → V l D dA S al nf d kc ks tgt lv st n M o1) (kf : x = 0 → V l D dA S al nf d kc ks (pc + 3) lv st n M o2) : V l D dA S al nf d kc ks pc lv (.int x :: st) n M (if x = 0 then o2 else o1) := by
  intro r M' ho
  by_cases h : x = 0
  · rw [if_pos h] at ho
    refine ⟨(kf h r M' ho).1, ?_⟩
    intro ad p e R s m args below meth c H locs cells slots Q A ls C Wd Zr h3 h4 hl Rt
    exact lv_if_ne C.1 C.2.1 hd ht (fun h9 => absurd h h9) (fun _ => (kf h r M' ho).2 ad p e R s m args below meth c H locs cells slots Q A ls C Wd Zr h3 h4 hl Rt)
  · rw [if_neg h] at ho
    refine ⟨(kt h r M' ho).1, ?_⟩
    intro ad p e R s m args below meth c H locs cells slots Q A ls C Wd Zr h3 h4 hl Rt
    exact lv_if_ne C.1 C.2.1 hd ht (fun _ => (kt h r M' ho).2 ad p e R s m args below meth c H locs cells slots Q A ls C Wd Zr h3 h4 hl Rt) (fun h9 => absurd h9 h)
theorem V_icmpne {x y : Int32} {off : Int} {tgt : Nat} {o1 o2 : Option (vR × vM)} (hd : decode S.2.1 pc = .ok (.if_icmp .ne off, 3)) (ht : (pc : Int) + off = (tgt : Int)) (kt : ¬ x = y → V l D dA S al nf d kc ks tgt lv st n M o1) (kf : x = y → V l D dA S al nf d kc ks (pc + 3) lv st n M o2) : V l D dA S al nf d kc ks pc lv (.int y :: .int x :: st) n M (if x = y then o2 else o1) := by
  intro r M' ho
  by_cases h : x = y
  · rw [if_pos h] at ho
    refine ⟨(kf h r M' ho).1, ?_⟩
    intro ad p e R s m args below meth c H locs cells slots Q A ls C Wd Zr h3 h4 hl Rt
    exact lv_icmp_ne C.1 C.2.1 hd ht (fun h9 => absurd h h9) (fun _ => (kf h r M' ho).2 ad p e R s m args below meth c H locs cells slots Q A ls C Wd Zr h3 h4 hl Rt)
  · rw [if_neg h] at ho
    refine ⟨(kt h r M' ho).1, ?_⟩
    intro ad p e R s m args below meth c H locs cells slots Q A ls C Wd Zr h3 h4 hl Rt
    exact lv_icmp_ne C.1 C.2.1 hd ht (fun _ => (kt h r M' ho).2 ad p e R s m args below meth c H locs cells slots Q A ls C Wd Zr h3 h4 hl Rt) (fun h9 => absurd h9 h)
theorem V_iflt {x : Int32} {off : Int} {tgt : Nat} {o1 o2 : Option (vR × vM)} (hd : decode S.2.1 pc = .ok (.ifCond .lt off, 3)) (ht : (pc : Int) + off = (tgt : Int)) (kt : x < 0 → V l D dA S al nf d kc ks tgt lv st n M o1) (kf : ¬ x < 0 → V l D dA S al nf d kc ks (pc + 3) lv st n M o2) : V l D dA S al nf d kc ks pc lv (.int x :: st) n M (if x < 0 then o1 else o2) := by
  intro r M' ho
  by_cases h : x < 0
  · rw [if_pos h] at ho
    refine ⟨(kt h r M' ho).1, ?_⟩
    intro ad p e R s m args below meth c H locs cells slots Q A ls C Wd Zr h3 h4 hl Rt
    exact lv_if_lt C.1 C.2.1 hd ht (fun _ => (kt h r M' ho).2 ad p e R s m args below meth c H locs cells slots Q A ls C Wd Zr h3 h4 hl Rt) (fun h9 => absurd h h9)
  · rw [if_neg h] at ho
    refine ⟨(kf h r M' ho).1, ?_⟩
    intro ad p e R s m args below meth c H locs cells slots Q A ls C Wd Zr h3 h4 hl Rt
    exact lv_if_lt C.1 C.2.1 hd ht (fun h9 => absurd h9 h) (fun _ => (kf h r M' ho).2 ad p e R s m args below meth c H locs cells slots Q A ls C Wd Zr h3 h4 hl Rt)
theorem V_icmplt {x y : Int32} {off : Int} {tgt : Nat} {o1 o2 : Option (vR × vM)} (hd : decode S.2.1 pc = .ok (.if_icmp .lt off, 3)) (ht : (pc : Int) + off = (tgt : Int)) (kt : x < y → V l D dA S al nf d kc ks tgt lv st n M o1) (kf : ¬ x < y → V l D dA S al nf d kc ks (pc + 3) lv st n M o2) : V l D dA S al nf d kc ks pc lv (.int y :: .int x :: st) n M (if x < y then o1 else o2) := by
  intro r M' ho
  by_cases h : x < y
  · rw [if_pos h] at ho
    refine ⟨(kt h r M' ho).1, ?_⟩
    intro ad p e R s m args below meth c H locs cells slots Q A ls C Wd Zr h3 h4 hl Rt
    exact lv_icmp_lt C.1 C.2.1 hd ht (fun _ => (kt h r M' ho).2 ad p e R s m args below meth c H locs cells slots Q A ls C Wd Zr h3 h4 hl Rt) (fun h9 => absurd h h9)
  · rw [if_neg h] at ho
    refine ⟨(kf h r M' ho).1, ?_⟩
    intro ad p e R s m args below meth c H locs cells slots Q A ls C Wd Zr h3 h4 hl Rt
    exact lv_icmp_lt C.1 C.2.1 hd ht (fun h9 => absurd h9 h) (fun _ => (kf h r M' ho).2 ad p e R s m args below meth c H locs cells slots Q A ls C Wd Zr h3 h4 hl Rt)
theorem V_ifge {x : Int32} {off : Int} {tgt : Nat} {o1 o2 : Option (vR × vM)} (hd : decode S.2.1 pc = .ok (.ifCond .ge off, 3)) (ht : (pc : Int) + off = (tgt : Int)) (kt : 0 ≤ x → V l D dA S al nf d kc ks tgt lv st n M o1) (kf : ¬ 0 ≤ x → V l D dA S al nf d kc ks (pc + 3) lv st n M o2) : V l D dA S al nf d kc ks pc lv (.int x :: st) n M (if 0 ≤ x then o1 else o2) := by
  intro r M' ho
  by_cases h : 0 ≤ x
  · rw [if_pos h] at ho
    refine ⟨(kt h r M' ho).1, ?_⟩
    intro ad p e R s m args below meth c H locs cells slots Q A ls C Wd Zr h3 h4 hl Rt
    exact lv_if_ge C.1 C.2.1 hd ht (fun _ => (kt h r M' ho).2 ad p e R s m args below meth c H locs cells slots Q A ls C Wd Zr h3 h4 hl Rt) (fun h9 => absurd h h9)
  · rw [if_neg h] at ho
    refine ⟨(kf h r M' ho).1, ?_⟩
    intro ad p e R s m args below meth c H locs cells slots Q A ls C Wd Zr h3 h4 hl Rt
    exact lv_if_ge C.1 C.2.1 hd ht (fun h9 => absurd h9 h) (fun _ => (kf h r M' ho).2 ad p e R s m args below meth c H locs cells slots Q A ls C Wd Zr h3 h4 hl Rt)
theorem V_icmpge {x y : Int32} {off : Int} {tgt : Nat} {o1 o2 : Option (vR × vM)} (hd : decode S.2.1 pc = .ok (.if_icmp .ge off, 3)) (ht : (pc : Int) + off = (tgt : Int)) (kt : y ≤ x → V l D dA S al nf d kc ks tgt lv st n M o1) (kf : ¬ y ≤ x → V l D dA S al nf d kc ks (pc + 3) lv st n M o2) : V l D dA S al nf d kc ks pc lv (.int y :: .int x :: st) n M (if y ≤ x then o1 else o2) := by
  intro r M' ho
  by_cases h : y ≤ x
  · rw [if_pos h] at ho
    refine ⟨(kt h r M' ho).1, ?_⟩
    intro ad p e R s m args below meth c H locs cells slots Q A ls C Wd Zr h3 h4 hl Rt
    exact lv_icmp_ge C.1 C.2.1 hd ht (fun _ => (kt h r M' ho).2 ad p e R s m args below meth c H locs cells slots Q A ls C Wd Zr h3 h4 hl Rt) (fun h9 => absurd h h9)
  · rw [if_neg h] at ho
    refine ⟨(kf h r M' ho).1, ?_⟩
    intro ad p e R s m args below meth c H locs cells slots Q A ls C Wd Zr h3 h4 hl Rt
    exact lv_icmp_ge C.1 C.2.1 hd ht (fun h9 => absurd h9 h) (fun _ => (kf h r M' ho).2 ad p e R s m args below meth c H locs cells slots Q A ls C Wd Zr h3 h4 hl Rt)
theorem V_ifgt {x : Int32} {off : Int} {tgt : Nat} {o1 o2 : Option (vR × vM)} (hd : decode S.2.1 pc = .ok (.ifCond .gt off, 3)) (ht : (pc : Int) + off = (tgt : Int)) (kt : 0 < x → V l D dA S al nf d kc ks tgt lv st n M o1) (kf : ¬ 0 < x → V l D dA S al nf d kc ks (pc + 3) lv st n M o2) : V l D dA S al nf d kc ks pc lv (.int x :: st) n M (if 0 < x then o1 else o2) := by
  intro r M' ho
  by_cases h : 0 < x
  · rw [if_pos h] at ho
    refine ⟨(kt h r M' ho).1, ?_⟩
    intro ad p e R s m args below meth c H locs cells slots Q A ls C Wd Zr h3 h4 hl Rt
    exact lv_if_gt C.1 C.2.1 hd ht (fun _ => (kt h r M' ho).2 ad p e R s m args below meth c H locs cells slots Q A ls C Wd Zr h3 h4 hl Rt) (fun h9 => absurd h h9)
  · rw [if_neg h] at ho
    refine ⟨(kf h r M' ho).1, ?_⟩
    intro ad p e R s m args below meth c H locs cells slots Q A ls C Wd Zr h3 h4 hl Rt
    exact lv_if_gt C.1 C.2.1 hd ht (fun h9 => absurd h9 h) (fun _ => (kf h r M' ho).2 ad p e R s m args below meth c H locs cells slots Q A ls C Wd Zr h3 h4 hl Rt)
theorem V_icmpgt {x y : Int32} {off : Int} {tgt : Nat} {o1 o2 : Option (vR × vM)} (hd : decode S.2.1 pc = .ok (.if_icmp .gt off, 3)) (ht : (pc : Int) + off = (tgt : Int)) (kt : y < x → V l D dA S al nf d kc ks tgt lv st n M o1) (kf : ¬ y < x → V l D dA S al nf d kc ks (pc + 3) lv st n M o2) : V l D dA S al nf d kc ks pc lv (.int y :: .int x :: st) n M (if y < x then o1 else o2) := by
  intro r M' ho
  by_cases h : y < x
  · rw [if_pos h] at ho
    refine ⟨(kt h r M' ho).1, ?_⟩
    intro ad p e R s m args below meth c H locs cells slots Q A ls C Wd Zr h3 h4 hl Rt
    exact lv_icmp_gt C.1 C.2.1 hd ht (fun _ => (kt h r M' ho).2 ad p e R s m args below meth c H locs cells slots Q A ls C Wd Zr h3 h4 hl Rt) (fun h9 => absurd h h9)
  · rw [if_neg h] at ho
    refine ⟨(kf h r M' ho).1, ?_⟩
    intro ad p e R s m args below meth c H locs cells slots Q A ls C Wd Zr h3 h4 hl Rt
    exact lv_icmp_gt C.1 C.2.1 hd ht (fun h9 => absurd h9 h) (fun _ => (kf h r M' ho).2 ad p e R s m args below meth c H locs cells slots Q A ls C Wd Zr h3 h4 hl Rt)
theorem V_ifle {x : Int32} {off : Int} {tgt : Nat} {o1 o2 : Option (vR × vM)} (hd : decode S.2.1 pc = .ok (.ifCond .le off, 3)) (ht : (pc : Int) + off = (tgt : Int)) (kt : x ≤ 0 → V l D dA S al nf d kc ks tgt lv st n M o1) (kf : ¬ x ≤ 0 → V l D dA S al nf d kc ks (pc + 3) lv st n M o2) : V l D dA S al nf d kc ks pc lv (.int x :: st) n M (if x ≤ 0 then o1 else o2) := by
  intro r M' ho
  by_cases h : x ≤ 0
  · rw [if_pos h] at ho
    refine ⟨(kt h r M' ho).1, ?_⟩
    intro ad p e R s m args below meth c H locs cells slots Q A ls C Wd Zr h3 h4 hl Rt
    exact lv_if_le C.1 C.2.1 hd ht (fun _ => (kt h r M' ho).2 ad p e R s m args below meth c H locs cells slots Q A ls C Wd Zr h3 h4 hl Rt) (fun h9 => absurd h h9)
  · rw [if_neg h] at ho
    refine ⟨(kf h r M' ho).1, ?_⟩
    intro ad p e R s m args below meth c H locs cells slots Q A ls C Wd Zr h3 h4 hl Rt
    exact lv_if_le C.1 C.2.1 hd ht (fun h9 => absurd h9 h) (fun _ => (kf h r M' ho).2 ad p e R s m args below meth c H locs cells slots Q A ls C Wd Zr h3 h4 hl Rt)
theorem V_icmple {x y : Int32} {off : Int} {tgt : Nat} {o1 o2 : Option (vR × vM)} (hd : decode S.2.1 pc = .ok (.if_icmp .le off, 3)) (ht : (pc : Int) + off = (tgt : Int)) (kt : x ≤ y → V l D dA S al nf d kc ks tgt lv st n M o1) (kf : ¬ x ≤ y → V l D dA S al nf d kc ks (pc + 3) lv st n M o2) : V l D dA S al nf d kc ks pc lv (.int y :: .int x :: st) n M (if x ≤ y then o1 else o2) := by
  intro r M' ho
  by_cases h : x ≤ y
  · rw [if_pos h] at ho
    refine ⟨(kt h r M' ho).1, ?_⟩
    intro ad p e R s m args below meth c H locs cells slots Q A ls C Wd Zr h3 h4 hl Rt
    exact lv_icmp_le C.1 C.2.1 hd ht (fun _ => (kt h r M' ho).2 ad p e R s m args below meth c H locs cells slots Q A ls C Wd Zr h3 h4 hl Rt) (fun h9 => absurd h h9)
  · rw [if_neg h] at ho
    refine ⟨(kf h r M' ho).1, ?_⟩
    intro ad p e R s m args below meth c H locs cells slots Q A ls C Wd Zr h3 h4 hl Rt
    exact lv_icmp_le C.1 C.2.1 hd ht (fun h9 => absurd h9 h) (fun _ => (kf h r M' ho).2 ad p e R s m args below meth c H locs cells slots Q A ls C Wd Zr h3 h4 hl Rt)
end V2
