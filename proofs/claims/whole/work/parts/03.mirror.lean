/-! THE MIRROR MACHINE. A pure picture of the bytecode: cells have small numbers, the first made is 0. A cell: an object (class, fields), or an array of ints, longs, booleans, Nets. -/
abbrev mr_c : Type := (Nat × List Value) ⊕ (Nat × (Nat → Int32)) ⊕ (Nat × (Nat → Int64)) ⊕ (Nat × (Nat → Int32)) ⊕ (Nat × (Nat → Option Nat))
/-- cells, how many are made, how many slots they have, the script's length, the script -/
abbrev mr_h : Type := (Nat → mr_c) × Nat × Nat × Nat × (Nat → Int32)
def mr_O (c : Nat) (fs : List Value) : mr_c := .inl (c, fs)
def mr_I (n : Nat) (f : Nat → Int32) : mr_c := .inr (.inl (n, f))
def mr_J (n : Nat) (f : Nat → Int64) : mr_c := .inr (.inr (.inl (n, f)))
def mr_Z (n : Nat) (f : Nat → Int32) : mr_c := .inr (.inr (.inr (.inl (n, f))))
def mr_A (n : Nat) (f : Nat → Option Nat) : mr_c := .inr (.inr (.inr (.inr (n, f))))
def mr_up (h : mr_h) (a : Nat) (c : mr_c) : mr_h := (va_up h.1 a c, h.2)
def mr_add (h : mr_h) (n : Nat) (c : mr_c) : mr_h := (va_up h.1 h.2.1 c, h.2.1 + 1, h.2.2.1 + n, h.2.2.2)
def mr_ft (M pc : Nat) : Option (Instr × Nat) := match mr_M[M]? with
  | none => none
  | some q => match decode (mr_bytes q) pc with
    | .ok r => some r
    | .error _ => none
def mr_own (M : Nat) : Nat := match mr_M[M]? with
  | some q => q.1
  | none => 99
def mr_isI (M : Nat) : Bool := match mr_M[M]? with
  | some q => mr_kd q == 2
  | none => false
def mr_gl (M x : Nat) : Option (Nat × Nat) := (mr_fL.find? (fun e => e.1.1 == mr_own M && e.1.2 == x)).map (fun e => (e.2.1, e.2.2.1))
def mr_nl (M x : Nat) : Option Nat := (mr_cL.find? (fun e => e.1.1 == mr_own M && e.1.2 == x)).map (fun e => e.2.1)
def mr_ik (M x : Nat) : Option Int32 := (mr_kI.find? (fun e => e.1.1 == mr_own M && e.1.2 == x)).map (fun e => e.2.1)
def mr_jk (M x : Nat) : Option Int64 := (mr_kJ.find? (fun e => e.1.1 == mr_own M && e.1.2 == x)).map (fun e => e.2.1)
def mr_hgt (M : Nat) : Nat := match mr_M[M]? with
  | some q => mr_hg q
  | none => 0
def mr_tl (M x : Nat) : Option Nat := if 1 ≤ mr_hgt M then (mr_mL.find? (fun e => e.1.1 == mr_own M && e.1.2 == x)).map (fun e => e.2.1) else none
/-- the called method and how many parameters it has; it is lower than the caller -/
def mr_lk (M x kd : Nat) : Option (Nat × Nat) := match mr_tl M x, mr_M[M]? with
  | some t, some q => match mr_M[t]? with
    | some r => if mr_hg r < mr_hg q ∧ mr_kd r = kd ∧ t < 181 ∧ r.1 ≠ 14 then some (t, mr_na r) else none
    | none => none
  | _, _ => none
def mr_isL : Option Value → Bool
  | some (.long _) => true
  | some (.double _) => true
  | _ => false
def mr_set1 (lv : List Value) (i : Nat) (v : Value) : Option (List Value) := if i < lv.length ∧ (i = 0 ∨ mr_isL lv[i - 1]? = false) then some (lv.set i v) else none
def mr_set2 (lv : List Value) (i : Nat) (v : Value) : Option (List Value) := if i + 1 < lv.length ∧ (i = 0 ∨ mr_isL lv[i - 1]? = false) then some ((lv.set i v).set (i + 1) .null) else none
def mr_sl : List Value → List Value
  | [] => []
  | v :: vs => if v.category = 2 then v :: .null :: mr_sl vs else v :: mr_sl vs
def mr_ent (as : List Value) (n : Nat) : List Value := mr_sl as ++ List.replicate (n - (mr_sl as).length) .null
abbrev mr_n : Type := Nat × List Value × List Value × mr_h
def mr_b2 (len pc : Nat) (lv st : List Value) (h : mr_h) (f : Int32 → Int32 → Int32) : Option mr_n := if len = 1 then match st with
  | .int y :: .int x :: r => some (pc + 1, lv, .int (f x y) :: r, h)
  | _ => none else none
def mr_l2 (len pc : Nat) (lv st : List Value) (h : mr_h) (f : Int64 → Int64 → Int64) : Option mr_n := if len = 1 then match st with
  | .long y :: .long x :: r => some (pc + 1, lv, .long (f x y) :: r, h)
  | _ => none else none
def mr_jmp (pc : Nat) (off : Int) (lv st : List Value) (h : mr_h) : Option mr_n := if 0 ≤ (pc : Int) + off then some (((pc : Int) + off).toNat, lv, st, h) else none
def mr_ldi (len l pc k : Nat) (lv st : List Value) (h : mr_h) : Option mr_n := if len = l then match lv[k]? with
  | some (.int x) => some (pc + l, lv, .int x :: st, h)
  | _ => none else none
def mr_ldl (len l pc k : Nat) (lv st : List Value) (h : mr_h) : Option mr_n := if len = l then match lv[k]? with
  | some (.long x) => some (pc + l, lv, .long x :: st, h)
  | _ => none else none
def mr_lda (len l pc k : Nat) (lv st : List Value) (h : mr_h) : Option mr_n := if len = l then match lv[k]? with
  | some (.ref x) => some (pc + l, lv, .ref x :: st, h)
  | some (.retAddr 0) => some (pc + l, lv, .retAddr 0 :: st, h)
  | _ => none else none
def mr_sti (len l pc k : Nat) (lv st : List Value) (h : mr_h) : Option mr_n := if len = l then match st with
  | .int x :: r => (mr_set1 lv k (.int x)).map (fun lv' => (pc + l, lv', r, h))
  | _ => none else none
def mr_stl (len l pc k : Nat) (lv st : List Value) (h : mr_h) : Option mr_n := if len = l then match st with
  | .long x :: r => (mr_set2 lv k (.long x)).map (fun lv' => (pc + l, lv', r, h))
  | _ => none else none
def mr_sta (len l pc k : Nat) (lv st : List Value) (h : mr_h) : Option mr_n := if len = l then match st with
  | .ref x :: r => (mr_set1 lv k (.ref x)).map (fun lv' => (pc + l, lv', r, h))
  | _ => none else none
def mr_cmp (c : ClassFile.Cond) (x y : Int32) : Prop := match c with
  | .eq => x = y
  | .ne => ¬ x = y
  | .lt => x < y
  | .ge => y ≤ x
  | .gt => y < x
  | .le => x ≤ y
def mr_cmpD (c : ClassFile.Cond) (x y : Int32) : Decidable (mr_cmp c x y) := match c with
  | .eq => inferInstanceAs (Decidable (x = y))
  | .ne => inferInstanceAs (Decidable (¬ x = y))
  | .lt => inferInstanceAs (Decidable (x < y))
  | .ge => inferInstanceAs (Decidable (y ≤ x))
  | .gt => inferInstanceAs (Decidable (y < x))
  | .le => inferInstanceAs (Decidable (x ≤ y))
def mr_ite (c : ClassFile.Cond) (x y : Int32) (a b : Option mr_n) : Option mr_n := match mr_cmpD c x y with
  | .isTrue _ => a
  | .isFalse _ => b
def mr_fit (t : FieldType) (v : Value) : Bool := match t, v with
  | .int, .int _ => true
  | .long, .long _ => true
  | .array _, .ref _ => true
  | .object _, .ref _ => true
  | _, _ => false
def mr_get (M x pc : Nat) (lv st : List Value) (h : mr_h) : Option mr_n := match st with
  | .ref a :: r => match h.1 a, mr_gl M x with
    | .inl (c, fs), some (ci, k) => if c = ci then (fs[k]?).map (fun v => (pc + 3, lv, v :: r, h)) else none
    | _, _ => none
  | _ => none
def mr_put (M x pc : Nat) (lv st : List Value) (h : mr_h) : Option mr_n := match st with
  | v :: .ref a :: r => match h.1 a, mr_gl M x with
    | .inl (c, fs), some (ci, k) => if c = ci ∧ k < fs.length ∧ mr_fit (mr_ty ci k) v = true ∧ ((mr_T ci k).2.2.2 = false ∨ (mr_own M = ci ∧ mr_isI M = true)) then some (pc + 3, lv, r, mr_up h a (.inl (c, fs.set k v))) else none
    | _, _ => none
  | _ => none
def mr_ald (pc : Nat) (lv st : List Value) (h : mr_h) : Option mr_n := match st with
  | .int i :: .ref a :: r => match h.1 a with
    | .inr (.inl (n, f)) => if i < 0 ∨ n ≤ i.toNatClampNeg then none else some (pc + 1, lv, .int (f i.toNatClampNeg) :: r, h)
    | _ => none
  | .int i :: .retAddr 0 :: r => if i < 0 ∨ h.2.2.2.1 ≤ i.toNatClampNeg then none else some (pc + 1, lv, .int (h.2.2.2.2 i.toNatClampNeg) :: r, h)
  | _ => none
def mr_ast (pc : Nat) (lv st : List Value) (h : mr_h) : Option mr_n := match st with
  | .int x :: .int i :: .ref a :: r => match h.1 a with
    | .inr (.inl (n, f)) => if i < 0 ∨ n ≤ i.toNatClampNeg then none else some (pc + 1, lv, r, mr_up h a (.inr (.inl (n, upd f i.toNatClampNeg x))))
    | _ => none
  | _ => none
def mr_lld (pc : Nat) (lv st : List Value) (h : mr_h) : Option mr_n := match st with
  | .int i :: .ref a :: r => match h.1 a with
    | .inr (.inr (.inl (n, f))) => if i < 0 ∨ n ≤ i.toNatClampNeg then none else some (pc + 1, lv, .long (f i.toNatClampNeg) :: r, h)
    | _ => none
  | _ => none
def mr_lst (pc : Nat) (lv st : List Value) (h : mr_h) : Option mr_n := match st with
  | .long x :: .int i :: .ref a :: r => match h.1 a with
    | .inr (.inr (.inl (n, f))) => if i < 0 ∨ n ≤ i.toNatClampNeg then none else some (pc + 1, lv, r, mr_up h a (.inr (.inr (.inl (n, vp_updL f i.toNatClampNeg x)))))
    | _ => none
  | _ => none
def mr_zld (pc : Nat) (lv st : List Value) (h : mr_h) : Option mr_n := match st with
  | .int i :: .ref a :: r => match h.1 a with
    | .inr (.inr (.inr (.inl (n, f)))) => if i < 0 ∨ n ≤ i.toNatClampNeg then none else some (pc + 1, lv, .int (f i.toNatClampNeg) :: r, h)
    | _ => none
  | _ => none
def mr_zst (pc : Nat) (lv st : List Value) (h : mr_h) : Option mr_n := match st with
  | .int x :: .int i :: .ref a :: r => match h.1 a with
    | .inr (.inr (.inr (.inl (n, f)))) => if i < 0 ∨ n ≤ i.toNatClampNeg then none else some (pc + 1, lv, r, mr_up h a (.inr (.inr (.inr (.inl (n, upd f i.toNatClampNeg (x &&& 1)))))))
    | _ => none
  | _ => none
def mr_qld (pc : Nat) (lv st : List Value) (h : mr_h) : Option mr_n := match st with
  | .int i :: .ref a :: r => match h.1 a with
    | .inr (.inr (.inr (.inr (n, f)))) => if i < 0 ∨ n ≤ i.toNatClampNeg then none else (f i.toNatClampNeg).map (fun k => (pc + 1, lv, .ref k :: r, h))
    | _ => none
  | _ => none
def mr_qst (pc : Nat) (lv st : List Value) (h : mr_h) : Option mr_n := match st with
  | .ref v :: .int i :: .ref a :: r => match h.1 a, h.1 v with
    | .inr (.inr (.inr (.inr (n, f)))), .inl (3, _) => if i < 0 ∨ n ≤ i.toNatClampNeg then none else some (pc + 1, lv, r, mr_up h a (.inr (.inr (.inr (.inr (n, va_up f i.toNatClampNeg (some v)))))))
    | _, _ => none
  | _ => none
def mr_dfs (ci : Nat) : List Value := (List.range (mr_N ci)).map (fun k => defaultValue (mr_ty ci k))
def mr_new (M x pc : Nat) (lv st : List Value) (h : mr_h) : Option mr_n := (mr_nl M x).map (fun ci => (pc + 3, lv, .ref h.2.1 :: st, mr_add h (mr_N ci) (.inl (ci, mr_dfs ci))))
def mr_nar (t : ArrayType) (pc : Nat) (lv st : List Value) (h : mr_h) : Option mr_n := match st with
  | .int n :: r => if n < 0 ∨ 10000 < n.toNatClampNeg then none else match t with
    | .int => some (pc + 2, lv, .ref h.2.1 :: r, mr_add h n.toNatClampNeg (.inr (.inl (n.toNatClampNeg, fun _ => 0))))
    | .long => some (pc + 2, lv, .ref h.2.1 :: r, mr_add h n.toNatClampNeg (.inr (.inr (.inl (n.toNatClampNeg, fun _ => 0)))))
    | .boolean => some (pc + 2, lv, .ref h.2.1 :: r, mr_add h n.toNatClampNeg (.inr (.inr (.inr (.inl (n.toNatClampNeg, fun _ => 0))))))
    | _ => none
  | _ => none
def mr_naq (M x pc : Nat) (lv st : List Value) (h : mr_h) : Option mr_n := match st with
  | .int n :: r => if n < 0 ∨ 10000 < n.toNatClampNeg then none else if mr_nl M x = some 3 then some (pc + 3, lv, .ref h.2.1 :: r, mr_add h n.toNatClampNeg (.inr (.inr (.inr (.inr (n.toNatClampNeg, fun _ => none)))))) else none
  | _ => none
def mr_sta3 (M x pc : Nat) (lv st : List Value) (h : mr_h) : Option mr_n := match mr_tl M x, st with
  | some 1000, .int n :: .int dp :: .ref a :: .int sp :: .ref b :: r => match h.1 b, h.1 a with
    | .inr (.inl (n0, f)), .inr (.inl (n1, g)) => if ¬ a = b ∧ ¬ sp < 0 ∧ ¬ dp < 0 ∧ ¬ n < 0 ∧ sp.toNatClampNeg + n.toNatClampNeg ≤ n0 ∧ dp.toNatClampNeg + n.toNatClampNeg ≤ n1 ∧ r.length ≤ 2 then some (pc + 3, lv, r, mr_up h a (.inr (.inl (n1, va_cpy f g sp.toNatClampNeg dp.toNatClampNeg n.toNatClampNeg)))) else none
    | _, _ => none
  | some 1002, .int y :: .int x :: r => if r.length ≤ 4 then some (pc + 3, lv, .int (if x < y then y else x) :: r, h) else none
  | some 1003, .int y :: .int x :: r => if r.length ≤ 4 then some (pc + 3, lv, .int (if y < x then y else x) :: r, h) else none
  | _, _ => none
def mr_spe (M x pc : Nat) (lv st : List Value) (h : mr_h) : Option mr_n := match mr_tl M x, st with
  | some 1001, .ref _ :: r => if r.length ≤ 4 then some (pc + 3, lv, r, h) else none
  | _, _ => none
/-- one instruction that neither calls a method of ours nor returns -/
def mr_one (M : Nat) (i : Instr) (len pc : Nat) (lv st : List Value) (h : mr_h) : Option mr_n :=
  match i with
  | .iconst n => if len = 1 then some (pc + 1, lv, .int (Int32.ofInt n) :: st, h) else none
  | .bipush n => if len = 2 then some (pc + 2, lv, .int (Int8.ofInt n).toInt32 :: st, h) else none
  | .sipush n => if len = 3 then some (pc + 3, lv, .int (Int16.ofInt n).toInt32 :: st, h) else none
  | .lconst n => if len = 1 then some (pc + 1, lv, .long (Int64.ofNat (n : Nat)) :: st, h) else none
  | .ldc_w x => if len = 3 then (mr_ik M x).map (fun v => (pc + 3, lv, .int v :: st, h)) else none
  | .ldc2_w x => if len = 3 then (mr_jk M x).map (fun v => (pc + 3, lv, .long v :: st, h)) else none
  | .iload_n k => mr_ldi len 1 pc k lv st h
  | .iload k => mr_ldi len 2 pc k lv st h
  | .lload_n k => mr_ldl len 1 pc k lv st h
  | .lload k => mr_ldl len 2 pc k lv st h
  | .aload_n k => mr_lda len 1 pc k lv st h
  | .istore_n k => mr_sti len 1 pc k lv st h
  | .istore k => mr_sti len 2 pc k lv st h
  | .lstore_n k => mr_stl len 1 pc k lv st h
  | .lstore k => mr_stl len 2 pc k lv st h
  | .astore_n k => mr_sta len 1 pc k lv st h
  | .iinc k n => if len = 3 then match lv[k]? with
    | some (.int x) => (mr_set1 lv k (.int (x + Int32.ofInt n))).map (fun lv' => (pc + 3, lv', st, h))
    | _ => none else none
  | .iadd => mr_b2 len pc lv st h (fun x y => x + y)
  | .isub => mr_b2 len pc lv st h (fun x y => x - y)
  | .imul => mr_b2 len pc lv st h (fun x y => x * y)
  | .iand => mr_b2 len pc lv st h (fun x y => x &&& y)
  | .ior => mr_b2 len pc lv st h (fun x y => x ||| y)
  | .ixor => mr_b2 len pc lv st h (fun x y => x ^^^ y)
  | .ishl => mr_b2 len pc lv st h (fun x y => x <<< (y &&& 31))
  | .ishr => mr_b2 len pc lv st h (fun x y => x >>> (y &&& 31))
  | .iushr => mr_b2 len pc lv st h (fun x y => (x.toUInt32 >>> (y.toUInt32 &&& Int32.toUInt32 31)).toInt32)
  | .idiv => match st with
    | .int y :: _ => if y = 0 then none else mr_b2 len pc lv st h (fun x y => x / y)
    | _ => none
  | .irem => match st with
    | .int y :: _ => if y = 0 then none else mr_b2 len pc lv st h (fun x y => x - x / y * y)
    | _ => none
  | .ladd => mr_l2 len pc lv st h (fun x y => x + y)
  | .lmul => mr_l2 len pc lv st h (fun x y => x * y)
  | .ldiv => match st with
    | .long y :: _ => if y = 0 then none else mr_l2 len pc lv st h (fun x y => x / y)
    | _ => none
  | .lrem => match st with
    | .long y :: _ => if y = 0 then none else mr_l2 len pc lv st h (fun x y => x - x / y * y)
    | _ => none
  | .lcmp => if len = 1 then match st with
    | .long y :: .long x :: r => some (pc + 1, lv, .int (lg_cmp x y) :: r, h)
    | _ => none else none
  | .i2l => if len = 1 then match st with
    | .int x :: r => some (pc + 1, lv, .long x.toInt64 :: r, h)
    | _ => none else none
  | .l2i => if len = 1 then match st with
    | .long x :: r => some (pc + 1, lv, .int x.toInt32 :: r, h)
    | _ => none else none
  | .dup => if len = 1 then match st with
    | v :: r => if v.category = 1 then some (pc + 1, lv, v :: v :: r, h) else none
    | _ => none else none
  | .pop => if len = 1 then match st with
    | v :: r => if v.category = 1 then some (pc + 1, lv, r, h) else none
    | _ => none else none
  | .dup2 => if len = 1 then match st with
    | v :: w :: r => if v.category = 1 ∧ w.category = 1 then some (pc + 1, lv, v :: w :: v :: w :: r, h) else none
    | _ => none else none
  | .goto off => if len = 3 then mr_jmp pc off lv st h else none
  | .ifCond c off => if len = 3 ∧ 0 ≤ (pc : Int) + off then match st with
    | .int x :: r => mr_ite c x 0 (mr_jmp pc off lv r h) (some (pc + 3, lv, r, h))
    | _ => none else none
  | .if_icmp c off => if len = 3 ∧ 0 ≤ (pc : Int) + off then match st with
    | .int y :: .int x :: r => mr_ite c x y (mr_jmp pc off lv r h) (some (pc + 3, lv, r, h))
    | _ => none else none
  | .tableswitch d lo hi offs => match st with
    | .int x :: r => if x.toInt < lo ∨ hi < x.toInt then mr_jmp pc d lv r h else match offs[(x.toInt - lo).toNat]? with
      | some o => mr_jmp pc o lv r h
      | none => none
    | _ => none
  | .lookupswitch d ps => match st with
    | .int x :: r => if (ps.toList.zip (ps.toList.drop 1)).all (fun (a, next) => a.1 < next.1) = true then mr_jmp pc (Op.lookupswitch.offset ps.toList d x.toInt) lv r h else none
    | _ => none
  | .getfield x => if len = 3 then mr_get M x pc lv st h else none
  | .putfield x => if len = 3 then mr_put M x pc lv st h else none
  | .iaload => if len = 1 then mr_ald pc lv st h else none
  | .iastore => if len = 1 then mr_ast pc lv st h else none
  | .laload => if len = 1 then mr_lld pc lv st h else none
  | .lastore => if len = 1 then mr_lst pc lv st h else none
  | .baload => if len = 1 then mr_zld pc lv st h else none
  | .bastore => if len = 1 then mr_zst pc lv st h else none
  | .aaload => if len = 1 then mr_qld pc lv st h else none
  | .aastore => if len = 1 then mr_qst pc lv st h else none
  | .arraylength => if len = 1 then match st with
    | .retAddr 0 :: r => some (pc + 1, lv, .int (Int32.ofNat h.2.2.2.1) :: r, h)
    | _ => none else none
  | .new x => if len = 3 then mr_new M x pc lv st h else none
  | .newarray t => if len = 2 then mr_nar t pc lv st h else none
  | .anewarray x => if len = 3 then mr_naq M x pc lv st h else none
  | .invokestatic x => if len = 3 then mr_sta3 M x pc lv st h else none
  | .invokespecial x => if len = 3 then mr_spe M x pc lv st h else none
  | _ => none
def mr_tk : Nat → List Value → List Value → Option (List Value × List Value)
  | 0, st, acc => some (acc, st)
  | _ + 1, [], _ => none
  | n + 1, v :: st, acc => mr_tk n st (v :: acc)
def mr_cs (M x : Nat) (st : List Value) : Option (Nat × List Value × List Value) := match mr_lk M x 0 with
  | some (t, n) => match mr_tk n st [] with
    | some (as, r) => if r.length ≤ 4 ∨ (r.map fun v => v.category).sum ≤ 8 then some (t, as, r) else none
    | none => none
  | none => none
def mr_ci (M x : Nat) (st : List Value) : Option (Nat × List Value × List Value) := match mr_lk M x 2 with
  | some (t, n) => match mr_tk n st [] with
    | some (as, .ref b :: r) => if r.length ≤ 4 ∨ (r.map fun v => v.category).sum ≤ 8 then some (t, .ref b :: as, r) else none
    | _ => none
  | none => none
def mr_cv (M x : Nat) (st : List Value) (h : mr_h) : Option (Nat × List Value × List Value) := match mr_lk M x 1 with
  | some (t, n) => match mr_tk n st [] with
    | some (as, .ref b :: r) => match h.1 b with
      | .inl (c, _) => if (r.length ≤ 4 ∨ (r.map fun v => v.category).sum ≤ 8) ∧ c = mr_own t then some (t, .ref b :: as, r) else none
      | _ => none
    | _ => none
  | none => none
/-- a call of a method of ours: which, its arguments, the rest of the stack -/
def mr_cal (M : Nat) (i : Instr) (len : Nat) (st : List Value) (h : mr_h) : Option (Nat × List Value × List Value) := if len = 3 then match i with
  | .invokestatic x => mr_cs M x st
  | .invokespecial x => mr_ci M x st
  | .invokevirtual x => mr_cv M x st h
  | _ => none else none
def mr_rty (M : Nat) : Option FieldType := match mr_M[M]? with
  | some q => mr_ret q
  | none => some (.object "")
/-- a return: the answer -/
def mr_rt (M : Nat) (i : Instr) (len : Nat) (st : List Value) : Option (Option Value) := if len = 1 then match i, st with
  | .ireturn, [.int v] => if mr_rty M = some .int ∨ (mr_rty M = some .boolean ∧ v &&& 1 = v) then some (some (.int v)) else none
  | .lreturn, [.long v] => if mr_rty M = some .long then some (some (.long v)) else none
  | .return_, [] => if mr_rty M = none then some none else none
  | _, _ => none else none
def mr_mxl (M : Nat) : Nat := match mr_M[M]? with
  | some q => mr_maxL q
  | none => 0
def mr_ex : Nat → Nat → Nat → List Value → List Value → mr_h → Option (Option Value × mr_h)
  | 0, _, _, _, _, _ => none
  | n + 1, M, pc, lv, st, h => match mr_ft M pc with
    | none => none
    | some (i, len) => match mr_one M i len pc lv st h with
      | some (pc', lv', st', h') => mr_ex n M pc' lv' st' h'
      | none => match mr_cal M i len st h with
        | some (t, as, r) => if (mr_sl as).length ≤ mr_mxl t then match mr_ex n t 0 (mr_ent as (mr_mxl t)) [] h with
          | some (v, h') => mr_ex n M (pc + 3) lv (v.toList ++ r) h'
          | none => none else none
        | none => match mr_rt M i len st with
          | some v => some (v, h)
          | none => none
