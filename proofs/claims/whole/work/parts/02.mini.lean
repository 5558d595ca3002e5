/-! ===== a small machine over numbered cells: its state is two tables of numbers (ints, longs); references are (sort, number of the cell) ===== -/
abbrev mm_S : Type := (Nat → Nat → Int32) × (Nat → Nat → Int64)
abbrev mm_V : Type := Int32 ⊕ (Int64 ⊕ (Nat × Nat))
abbrev mm_L : Type := List (Nat × mm_V)
abbrev mm_R : Type := Option mm_V × mm_S
abbrev mm_I (x : Int32) : mm_V := .inl x
abbrev mm_J (x : Int64) : mm_V := .inr (.inl x)
abbrev mm_P (t k : Nat) : mm_V := .inr (.inr (t, k))
def mm_cat (v : mm_V) : Nat := match v with
  | .inl _ => 1
  | .inr (.inl _) => 2
  | .inr (.inr _) => 1
def mm_ui (f : Nat → Nat → Int32) (k i : Nat) (x : Int32) : Nat → Nat → Int32 := fun a => if a = k then upd (f k) i x else f a
def mm_ul (f : Nat → Nat → Int64) (k i : Nat) (x : Int64) : Nat → Nat → Int64 := fun a => if a = k then vp_updL (f k) i x else f a
def mm_lk : mm_L → Nat → Option mm_V
  | [], _ => none
  | (j, v) :: r, i => bif Nat.beq j i then some v else mm_lk r i
def mm_s1 (ls : mm_L) (i : Nat) (v : mm_V) : mm_L := (i, v) :: ls.filter (fun q => !(q.1 == i) && !(q.1 + 1 == i && mm_cat q.2 == 2))
def mm_s2 (ls : mm_L) (i : Nat) (v : mm_V) : mm_L := (i, v) :: ls.filter (fun q => !(q.1 == i) && (!(q.1 == i + 1) && !(q.1 + 1 == i && mm_cat q.2 == 2)))
def mm_pk (ls : mm_L) : List Nat → mm_L
  | [] => []
  | i :: r => match mm_lk ls i with
    | some v => (i, v) :: mm_pk ls r
    | none => mm_pk ls r
def mm_at {α : Type} : List (Nat × α) → Nat → Option α
  | [], _ => none
  | (j, x) :: r, k => bif Nat.beq j k then some x else mm_at r k
/-- how long an instruction is (a switch: as it says) -/
def mm_len (n : Nat) (i : Instr) : Nat := match i with
  | .aload _ | .iload _ | .lload _ | .astore _ | .istore _ | .lstore _ | .bipush _ | .ldc _ => 2
  | .sipush _ | .ldc_w _ | .ldc2_w _ | .getfield _ | .putfield _ | .getstatic _ | .invokestatic _ | .invokevirtual _ | .goto _ | .ifCond _ _ | .if_icmp _ _ | .iinc _ _ => 3
  | .tableswitch _ _ _ _ | .lookupswitch _ _ => n
  | _ => 1
abbrev mm_K : Type := Nat → mm_L → List mm_V → mm_S → Option mm_R
def mm_pi (st : List mm_V) (f : Int32 → List mm_V → Option mm_R) : Option mm_R := match st with
  | .inl a :: r => f a r
  | _ => none
def mm_pj (st : List mm_V) (f : Int64 → List mm_V → Option mm_R) : Option mm_R := match st with
  | .inr (.inl a) :: r => f a r
  | _ => none
def mm_pr (st : List mm_V) (f : Nat → Nat → List mm_V → Option mm_R) : Option mm_R := match st with
  | .inr (.inr (t, k)) :: r => f t k r
  | _ => none
def mm_oi (o : Option mm_V) (f : Int32 → Option mm_R) : Option mm_R := match o with
  | some (.inl a) => f a
  | _ => none
def mm_oj (o : Option mm_V) (f : Int64 → Option mm_R) : Option mm_R := match o with
  | some (.inr (.inl a)) => f a
  | _ => none
def mm_or (o : Option mm_V) (f : Nat → Nat → Option mm_R) : Option mm_R := match o with
  | some (.inr (.inr (t, k))) => f t k
  | _ => none
def mm_jp (pc : Nat) (off : Int) (f : Nat → Option mm_R) : Option mm_R := match (pc : Int) + off with
  | .ofNat t => f t
  | .negSucc _ => none
def mm_cmp (c : ClassFile.Cond) (x y : Int32) (t f : Option mm_R) : Option mm_R := match c with
  | .eq => if x = y then t else f
  | .ne => if x = y then f else t
  | .lt => if x < y then t else f
  | .ge => if y ≤ x then t else f
  | .gt => if y < x then t else f
  | .le => if x ≤ y then t else f
def mm_ts (pc : Nat) (x : Int32) (d : Int) (f : Nat → Option mm_R) : List Int → Int → Option mm_R
  | [], _ => mm_jp pc d f
  | o :: r, i => bif (Int32.ofInt i).toInt == i then (if x = Int32.ofInt i then mm_jp pc o f else mm_ts pc x d f r (i + 1)) else none
def mm_lw (pc : Nat) (x : Int32) (d : Int) (f : Nat → Option mm_R) : List (Int × Int) → Option mm_R
  | [] => mm_jp pc d f
  | (a, o) :: r => bif (Int32.ofInt a).toInt == a then (if x = Int32.ofInt a then mm_jp pc o f else mm_lw pc x d f r) else none
def mm_rt (rt : Nat) (v : Int32) (z : mm_S) : Option mm_R := match rt with
  | 0 => some (some (mm_I v), z)
  | 1 => if v = 0 then some (some (mm_I 0), z) else if v = 1 then some (some (mm_I 1), z) else none
  | _ => none
/-- a call: the arguments off the stack; what it answers comes on it -/
def mm_cl (n : Nat) (f : List mm_V → mm_S → (Option mm_V → mm_S → Option mm_R) → Option mm_R) (st : List mm_V) (z : mm_S) (kk : List mm_V → mm_S → Option mm_R) : Option mm_R :=
  bif Nat.ble n st.length && Nat.ble ((st.drop n).map mm_cat).sum 8 then f (st.take n).reverse z (fun r z' => kk (r.toList ++ st.drop n) z') else none
/-- a field: its class, its place, its sort (0 an int, 1 a long, 2 a boolean, 3 a reference), of a reference: the sort and how far off its cell is -/
abbrev mm_F : Type := Nat × Nat × Nat × Nat × Nat
def mm_fv (d : Nat × Nat × Nat × Nat) (o : Nat) (z : mm_S) : mm_V := match d.2.1 with
  | 1 => mm_J (z.2 o d.1)
  | 3 => mm_P d.2.2.1 (o + d.2.2.2)
  | _ => mm_I (z.1 o d.1)
section MM
variable (fld : Nat → Option mm_F) (cst gst : Nat → Option mm_V) (arV arS : Nat → Nat) (mV mS : Nat → List mm_V → mm_S → (Option mm_V → mm_S → Option mm_R) → Option mm_R) (lenA : Nat → Nat) (roA : Nat → Nat → Int32) (sn : Nat → Nat → Nat) (nL rt : Nat)
/-- one instruction -/
def mm_step (i : Instr) (pc : Nat) (ls : mm_L) (st : List mm_V) (z : mm_S) (kk : mm_K) : Option mm_R := match i with
  | .iconst n => kk (pc + 1) ls (mm_I (Int32.ofInt n) :: st) z
  | .bipush n => kk (pc + 2) ls (mm_I (Int8.ofInt n).toInt32 :: st) z
  | .sipush n => kk (pc + 3) ls (mm_I (Int16.ofInt n).toInt32 :: st) z
  | .lconst n => kk (pc + 1) ls (mm_J (Int64.ofNat (n : Nat)) :: st) z
  | .ldc k => match cst k with
    | some v => bif mm_cat v == 1 then kk (pc + 2) ls (v :: st) z else none
    | none => none
  | .ldc_w k => match cst k with
    | some v => bif mm_cat v == 1 then kk (pc + 3) ls (v :: st) z else none
    | none => none
  | .ldc2_w k => mm_oj (cst k) fun v => kk (pc + 3) ls (mm_J v :: st) z
  | .getstatic k => match gst k with
    | some v => kk (pc + 3) ls (v :: st) z
    | none => none
  | .iload i => mm_oi (mm_lk ls i) fun v => kk (pc + 2) ls (mm_I v :: st) z
  | .iload_n i => mm_oi (mm_lk ls (i : Nat)) fun v => kk (pc + 1) ls (mm_I v :: st) z
  | .lload i => mm_oj (mm_lk ls i) fun v => kk (pc + 2) ls (mm_J v :: st) z
  | .lload_n i => mm_oj (mm_lk ls (i : Nat)) fun v => kk (pc + 1) ls (mm_J v :: st) z
  | .aload i => mm_or (mm_lk ls i) fun t k => kk (pc + 2) ls (mm_P t k :: st) z
  | .aload_n i => mm_or (mm_lk ls (i : Nat)) fun t k => kk (pc + 1) ls (mm_P t k :: st) z
  | .istore i => mm_pi st fun v r => bif Nat.blt i nL then kk (pc + 2) (mm_s1 ls i (mm_I v)) r z else none
  | .istore_n i => mm_pi st fun v r => bif Nat.blt (i : Nat) nL then kk (pc + 1) (mm_s1 ls (i : Nat) (mm_I v)) r z else none
  | .lstore i => mm_pj st fun v r => bif Nat.blt (i + 1) nL then kk (pc + 2) (mm_s2 ls i (mm_J v)) r z else none
  | .lstore_n i => mm_pj st fun v r => bif Nat.blt ((i : Nat) + 1) nL then kk (pc + 1) (mm_s2 ls (i : Nat) (mm_J v)) r z else none
  | .astore i => mm_pr st fun t k r => bif Nat.blt i nL then kk (pc + 2) (mm_s1 ls i (mm_P t k)) r z else none
  | .astore_n i => mm_pr st fun t k r => bif Nat.blt (i : Nat) nL then kk (pc + 1) (mm_s1 ls (i : Nat) (mm_P t k)) r z else none
  | .iinc i n => mm_oi (mm_lk ls i) fun v => bif Nat.blt i nL then kk (pc + 3) (mm_s1 ls i (mm_I (v + Int32.ofInt n))) st z else none
  | .iadd => mm_pi st fun y r => mm_pi r fun x r => kk (pc + 1) ls (mm_I (x + y) :: r) z
  | .isub => mm_pi st fun y r => mm_pi r fun x r => kk (pc + 1) ls (mm_I (x - y) :: r) z
  | .imul => mm_pi st fun y r => mm_pi r fun x r => kk (pc + 1) ls (mm_I (x * y) :: r) z
  | .iand => mm_pi st fun y r => mm_pi r fun x r => kk (pc + 1) ls (mm_I (x &&& y) :: r) z
  | .ior => mm_pi st fun y r => mm_pi r fun x r => kk (pc + 1) ls (mm_I (x ||| y) :: r) z
  | .ixor => mm_pi st fun y r => mm_pi r fun x r => kk (pc + 1) ls (mm_I (x ^^^ y) :: r) z
  | .idiv => mm_pi st fun y r => mm_pi r fun x r => if y = 0 then none else kk (pc + 1) ls (mm_I (x / y) :: r) z
  | .irem => mm_pi st fun y r => mm_pi r fun x r => if y = 0 then none else kk (pc + 1) ls (mm_I (x - x / y * y) :: r) z
  | .ishl => mm_pi st fun y r => mm_pi r fun x r => kk (pc + 1) ls (mm_I (x <<< (y &&& 31)) :: r) z
  | .ishr => mm_pi st fun y r => mm_pi r fun x r => kk (pc + 1) ls (mm_I (x >>> (y &&& 31)) :: r) z
  | .iushr => mm_pi st fun y r => mm_pi r fun x r => kk (pc + 1) ls (mm_I (x.toUInt32 >>> (y.toUInt32 &&& Int32.toUInt32 31)).toInt32 :: r) z
  | .ladd => mm_pj st fun y r => mm_pj r fun x r => kk (pc + 1) ls (mm_J (x + y) :: r) z
  | .lsub => mm_pj st fun y r => mm_pj r fun x r => kk (pc + 1) ls (mm_J (x - y) :: r) z
  | .land => mm_pj st fun y r => mm_pj r fun x r => kk (pc + 1) ls (mm_J (x &&& y) :: r) z
  | .lor => mm_pj st fun y r => mm_pj r fun x r => kk (pc + 1) ls (mm_J (x ||| y) :: r) z
  | .lxor => mm_pj st fun y r => mm_pj r fun x r => kk (pc + 1) ls (mm_J (x ^^^ y) :: r) z
  | .lshl => mm_pi st fun y r => mm_pj r fun x r => kk (pc + 1) ls (mm_J (x <<< (y.toInt64 &&& 63)) :: r) z
  | .lshr => mm_pi st fun y r => mm_pj r fun x r => kk (pc + 1) ls (mm_J (x >>> (y.toInt64 &&& 63)) :: r) z
  | .lushr => mm_pi st fun y r => mm_pj r fun x r => kk (pc + 1) ls (mm_J (x.toUInt64 >>> (y.toInt64.toUInt64 &&& Int64.toUInt64 63)).toInt64 :: r) z
  | .lcmp => mm_pj st fun y r => mm_pj r fun x r => kk (pc + 1) ls (mm_I (lg_cmp x y) :: r) z
  | .i2l => mm_pi st fun x r => kk (pc + 1) ls (mm_J x.toInt64 :: r) z
  | .l2i => mm_pj st fun x r => kk (pc + 1) ls (mm_I x.toInt32 :: r) z
  | .i2b => mm_pi st fun x r => kk (pc + 1) ls (mm_I x.toInt8.toInt32 :: r) z
  | .i2s => mm_pi st fun x r => kk (pc + 1) ls (mm_I x.toInt16.toInt32 :: r) z
  | .dup => match st with
    | v :: r => bif mm_cat v == 1 then kk (pc + 1) ls (v :: v :: r) z else none
    | [] => none
  | .dup2 => match st with
    | v :: u :: r => bif mm_cat v == 1 && mm_cat u == 1 then kk (pc + 1) ls (v :: u :: v :: u :: r) z else none
    | _ => none
  | .pop => match st with
    | v :: r => bif mm_cat v == 1 then kk (pc + 1) ls r z else none
    | [] => none
  | .pop2 => match st with
    | v :: r => bif mm_cat v == 2 then kk (pc + 1) ls r z else none
    | [] => none
  | .goto off => mm_jp pc off fun t => kk t ls st z
  | .ifCond c off => mm_pi st fun x r => mm_jp pc off fun t => mm_cmp c x 0 (kk t ls r z) (kk (pc + 3) ls r z)
  | .if_icmp c off => mm_pi st fun y r => mm_pi r fun x r => mm_jp pc off fun t => mm_cmp c x y (kk t ls r z) (kk (pc + 3) ls r z)
  | .tableswitch d lo hi offs => mm_pi st fun x r => bif lo + offs.toList.length == hi + 1 then mm_ts pc x d (fun t => kk t ls r z) offs.toList lo else none
  | .lookupswitch d ps => mm_pi st fun x r => bif (ps.toList.zip (ps.toList.drop 1)).all (fun (a, next) => a.1 < next.1) then mm_lw pc x d (fun t => kk t ls r z) ps.toList else none
  | .getfield k => match fld k with
    | some d => mm_pr st fun t o r => bif Nat.beq t d.1 then kk (pc + 3) ls (mm_fv d.2 o z :: r) z else none
    | none => none
  | .putfield k => match fld k with
    | some d => match d.2.2.1 with
      | 0 => mm_pi st fun v r => mm_pr r fun t o r => bif Nat.beq t d.1 then kk (pc + 3) ls r (mm_ui z.1 o d.2.1 v, z.2) else none
      | 1 => mm_pj st fun v r => mm_pr r fun t o r => bif Nat.beq t d.1 then kk (pc + 3) ls r (z.1, mm_ul z.2 o d.2.1 v) else none
      | 2 => mm_pi st fun v r => mm_pr r fun t o r => bif Nat.beq t d.1 then (if v = 0 then kk (pc + 3) ls r (mm_ui z.1 o d.2.1 0, z.2) else if v = 1 then kk (pc + 3) ls r (mm_ui z.1 o d.2.1 1, z.2) else none) else none
      | _ => none
    | none => none
  | .arraylength => mm_pr st fun t k r => bif Nat.ble 10 t && Nat.ble t 14 then kk (pc + 1) ls (mm_I (Int32.ofNat (lenA k)) :: r) z else none
  | .iaload => mm_pi st fun i r => mm_pr r fun t k r => if i < 0 ∨ lenA k ≤ i.toNatClampNeg then none else (bif Nat.beq t 10 then kk (pc + 1) ls (mm_I (z.1 k i.toNatClampNeg) :: r) z else bif Nat.beq t 14 then kk (pc + 1) ls (mm_I (roA k i.toNatClampNeg) :: r) z else none)
  | .laload => mm_pi st fun i r => mm_pr r fun t k r => if i < 0 ∨ lenA k ≤ i.toNatClampNeg then none else (bif Nat.beq t 11 then kk (pc + 1) ls (mm_J (z.2 k i.toNatClampNeg) :: r) z else none)
  | .baload => mm_pi st fun i r => mm_pr r fun t k r => if i < 0 ∨ lenA k ≤ i.toNatClampNeg then none else (bif Nat.beq t 12 then kk (pc + 1) ls (mm_I (z.1 k i.toNatClampNeg) :: r) z else none)
  | .aaload => mm_pi st fun i r => mm_pr r fun t k r => if i < 0 ∨ lenA k ≤ i.toNatClampNeg then none else (bif Nat.beq t 13 then kk (pc + 1) ls (mm_P 20 (sn k i.toNatClampNeg) :: r) z else none)
  | .iastore => mm_pi st fun v r => mm_pi r fun i r => mm_pr r fun t k r => if i < 0 ∨ lenA k ≤ i.toNatClampNeg then none else (bif Nat.beq t 10 then kk (pc + 1) ls r (mm_ui z.1 k i.toNatClampNeg v, z.2) else none)
  | .lastore => mm_pj st fun v r => mm_pi r fun i r => mm_pr r fun t k r => if i < 0 ∨ lenA k ≤ i.toNatClampNeg then none else (bif Nat.beq t 11 then kk (pc + 1) ls r (z.1, mm_ul z.2 k i.toNatClampNeg v) else none)
  | .bastore => mm_pi st fun v r => mm_pi r fun i r => mm_pr r fun t k r => if i < 0 ∨ lenA k ≤ i.toNatClampNeg then none else (bif Nat.beq t 12 then (if v = 0 then kk (pc + 1) ls r (mm_ui z.1 k i.toNatClampNeg 0, z.2) else if v = 1 then kk (pc + 1) ls r (mm_ui z.1 k i.toNatClampNeg 1, z.2) else none) else none)
  | .invokevirtual k => mm_cl (arV k) (mV k) st z fun st' z' => kk (pc + 3) ls st' z'
  | .invokestatic k => mm_cl (arS k) (mS k) st z fun st' z' => kk (pc + 3) ls st' z'
  | .ireturn => mm_pi st fun v r => match r with
    | [] => mm_rt rt v z
    | _ => none
  | .lreturn => mm_pj st fun v r => match r with
    | [] => bif Nat.beq rt 2 then some (some (mm_J v), z) else none
    | _ => none
  | .return_ => match st with
    | [] => bif Nat.beq rt 3 then some (none, z) else none
    | _ => none
  | _ => none
variable (tbl : List (Nat × Instr × Nat)) (cut : List (Nat × List Nat))
/-- on to the next cut -/
def mm_run (kc : mm_K) : Nat → mm_K
  | 0, _, _, _, _ => none
  | n + 1, pc, ls, st, z => match mm_at tbl pc with
    | some q => bif Nat.beq q.2 (mm_len q.2 q.1) then mm_step fld cst gst arV arS mV mS lenA roA sn nL rt q.1 pc ls st z (fun pc' ls' st' z' => match mm_at cut pc' with
      | some lv => kc pc' (mm_pk ls' lv) st' z'
      | none => mm_run kc n pc' ls' st' z') else none
    | none => none
/-- from cut to cut -/
def mm_go : Nat → mm_K
  | 0, _, _, _, _ => none
  | n + 1, pc, ls, st, z => mm_run fld cst gst arV arS mV mS lenA roA sn nL rt tbl cut (mm_go n) 600 pc ls st z
end MM
