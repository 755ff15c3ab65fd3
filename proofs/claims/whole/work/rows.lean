section
theorem zz_begin : True := trivial
end
section
/-! ===== a small machine: the kit's instructions over a memory of functions; references are numbers of cells ===== -/
/-- the shape: how many cells; slots used; kind and length of each; what its references are -/
abbrev zv_S : Type := Nat × Nat × (Nat → Nat × Nat) × (Nat → Nat → Option Nat)
/-- what cells hold: ints, longs -/
abbrev zv_D : Type := (Nat → Nat → Int32) × (Nat → Nat → Int64)
/-- an answer: an int, a long, a cell -/
abbrev zv_R : Type := Int32 × Int64 × Nat
abbrev zv_O : Type := zv_R × zv_S × zv_D
/-- what a table says beside an instruction: three numbers, an int, a long, the cases of a switch -/
abbrev zv_X : Type := Nat × Nat × Nat × Int32 × Int64 × List (Int32 × Nat)
abbrev zv_E : Type := Nat × Instr × Nat × zv_X
abbrev zv_L : Type := List (Option Value)
abbrev zv_K : Type := Nat → zv_L → List Value → zv_S → zv_D → Option zv_O
/-- a method as the machine calls it: by its number -/
abbrev zv_Ca : Type := Nat → List Value → zv_S → zv_D → Option (zv_R × zv_D)
abbrev zv_Ci : Type := Nat → List Value → zv_S → zv_D → Option zv_O
def zv_w (g : Nat → Nat → Int32) (c i : Nat) (v : Int32) : Nat → Nat → Int32 := fun c' => if c' = c then upd (g c) i v else g c'
def zv_wl (g : Nat → Nat → Int64) (c i : Nat) (v : Int64) : Nat → Nat → Int64 := fun c' => if c' = c then vp_updL (g c) i v else g c'
def zv_cp (g : Nat → Nat → Int32) (a0 a sp dp n : Nat) : Nat → Nat → Int32 := fun c' => if c' = a then va_cpy (g a0) (g a) sp dp n else g c'
def zv_in (i : Int32) (n : Nat) : Bool := !(decide (i < 0)) && Nat.blt i.toNatClampNeg n
def zv_bk (v : Int32) : Bool := decide (v = 0) || decide (v = 1)
def zv_at : List (Option Value) → Nat → Option Value
  | [], _ => none
  | o :: _, 0 => o
  | _ :: t, n + 1 => zv_at t n
/-- a long stands ahead of a null, which is its second half -/
def zv_s1 (lv : zv_L) (i : Nat) (v : Value) : zv_L := lv.set i (some v)
def zv_s2 (lv : zv_L) (i : Nat) (v : Value) : zv_L := (lv.set i (some v)).set (i + 1) (some .null)
def zv_en : List Value → Nat → zv_L
  | [], n => List.replicate n none
  | v :: t, n => match v with
    | .long x => some (.long x) :: some .null :: zv_en t (n - 2)
    | w => some w :: zv_en t (n - 1)
def zv_sw : List (Int32 × Nat) → Int32 → Nat → (Nat → Option zv_O) → Option zv_O
  | [], _, d, k => k d
  | (v, t) :: r, x, d, k => if x = v then k t else zv_sw r x d k
def zv_fa : Nat → Int32
  | 0 => 1
  | 1 => 1
  | 2 => 2
  | 3 => 6
  | _ => 24
def zv_un : Nat → Int64
  | 0 => 1
  | 1 => 10000
  | 2 => 100000000
  | 3 => 1000000000000
  | _ => 10000000000000000
def zv_cs : List Value → Nat
  | [] => 0
  | v :: t => v.category + zv_cs t
def zv_mem : List Nat → Nat → Bool
  | [], _ => false
  | a :: t, n => bif Nat.beq a n then true else zv_mem t n
/-- two ints above -/
def zv_i2 (st : List Value) (f : Int32 → Int32 → List Value → Option zv_O) : Option zv_O := match st with
  | .int y :: .int x :: r => f x y r
  | _ => none
def zv_l2 (st : List Value) (f : Int64 → Int64 → List Value → Option zv_O) : Option zv_O := match st with
  | .long y :: .long x :: r => f x y r
  | _ => none
def zv_i1 (st : List Value) (f : Int32 → List Value → Option zv_O) : Option zv_O := match st with
  | .int x :: r => f x r
  | _ => none
def zv_l1 (st : List Value) (f : Int64 → List Value → Option zv_O) : Option zv_O := match st with
  | .long x :: r => f x r
  | _ => none
def zv_a1 (st : List Value) (f : Nat → List Value → Option zv_O) : Option zv_O := match st with
  | .ref x :: r => f x r
  | _ => none
def zv_dp (st : List Value) (f : List Value → Option zv_O) : Option zv_O := match st with
  | .int a :: r => f (.int a :: .int a :: r)
  | .ref a :: r => f (.ref a :: .ref a :: r)
  | _ => none
/-- an index and an array above -/
def zv_ia (st : List Value) (f : Int32 → Nat → List Value → Option zv_O) : Option zv_O := match st with
  | .int i :: .ref a :: r => f i a r
  | _ => none
/-- a value, an index and an array above -/
def zv_via (st : List Value) (f : Int32 → Int32 → Nat → List Value → Option zv_O) : Option zv_O := match st with
  | .int v :: .int i :: .ref a :: r => f v i a r
  | _ => none
def zv_li (o : Option Value) (f : Int32 → Option zv_O) : Option zv_O := match o with
  | some (.int v) => f v
  | _ => none
def zv_ll (o o2 : Option Value) (f : Int64 → Option zv_O) : Option zv_O := match o with
  | some (.long v) => (match o2 with
    | some .null => f v
    | _ => none)
  | _ => none
def zv_la (o : Option Value) (f : Nat → Option zv_O) : Option zv_O := match o with
  | some (.ref v) => f v
  | _ => none
def zv_new (S : zv_S) (kd N : Nat) : zv_S := (S.1 + 1, S.2.1 + N, (fun c => if c = S.1 then (kd, N) else S.2.2.1 c), fun c => if c = S.1 then fun _ => none else S.2.2.2 c)
def zv_zer (S : zv_S) (D : zv_D) : zv_D := ((fun c => if c = S.1 then fun _ => 0 else D.1 c), fun c => if c = S.1 then fun _ => 0 else D.2 c)
def zv_rw (S : zv_S) (c i a : Nat) : zv_S := (S.1, S.2.1, S.2.2.1, fun c' => if c' = c then fun j => if j = i then some a else S.2.2.2 c j else S.2.2.2 c')
def zv_psh (k : Nat) (r : zv_R) (st : List Value) : List Value := match k with
  | 0 => st
  | 1 => .int r.1 :: st
  | 2 => .long r.2.1 :: st
  | _ => .ref r.2.2 :: st
def zv_cok (sp dp n : Int32) (n0 n1 : Nat) : Bool := !(decide (sp < 0)) && (!(decide (dp < 0)) && (!(decide (n < 0)) && (Nat.ble (sp.toNatClampNeg + n.toNatClampNeg) n0 && Nat.ble (dp.toNatClampNeg + n.toNatClampNeg) n1)))
/-- System.arraycopy over ints -/
def zv_acp (st : List Value) (S : zv_S) (D : zv_D) (f : List Value → zv_D → Option zv_O) : Option zv_O := match st with
  | .int n :: .int dp :: .ref a :: .int sp :: .ref a0 :: r => bif Nat.beq (S.2.2.1 a0).1 11 && (Nat.beq (S.2.2.1 a).1 11 && (Nat.ble (zv_cs r) 8 && zv_cok sp dp n (S.2.2.1 a0).2 (S.2.2.1 a).2)) then f r (zv_cp D.1 a0 a sp.toNatClampNeg dp.toNatClampNeg n.toNatClampNeg, D.2) else none
  | _ => none
def zv_s (al : Bool) (ca : zv_Ca) (ci : zv_Ci) (xs : Nat × (Nat → Int32)) (bo : Bool) (ins : Instr) (n : Nat) (x : zv_X) (pc : Nat) (lv : zv_L) (st : List Value) (S : zv_S) (D : zv_D) (k : zv_K) : Option zv_O :=
  match ins with
  | .iconst _ => k (pc + n) lv (.int x.2.2.2.1 :: st) S D
  | .bipush _ => k (pc + n) lv (.int x.2.2.2.1 :: st) S D
  | .sipush _ => k (pc + n) lv (.int x.2.2.2.1 :: st) S D
  | .ldc_w _ => k (pc + n) lv (.int x.2.2.2.1 :: st) S D
  | .lconst _ => k (pc + n) lv (.long x.2.2.2.2.1 :: st) S D
  | .ldc2_w _ => k (pc + n) lv (.long x.2.2.2.2.1 :: st) S D
  | .iload _ => zv_li (zv_at lv x.1) fun v => k (pc + n) lv (.int v :: st) S D
  | .iload_n _ => zv_li (zv_at lv x.1) fun v => k (pc + n) lv (.int v :: st) S D
  | .lload _ => zv_ll (zv_at lv x.1) (zv_at lv (x.1 + 1)) fun v => k (pc + n) lv (.long v :: st) S D
  | .lload_n _ => zv_ll (zv_at lv x.1) (zv_at lv (x.1 + 1)) fun v => k (pc + n) lv (.long v :: st) S D
  | .aload _ => zv_la (zv_at lv x.1) fun v => k (pc + n) lv (.ref v :: st) S D
  | .aload_n _ => zv_la (zv_at lv x.1) fun v => k (pc + n) lv (.ref v :: st) S D
  | .istore _ => zv_i1 st fun v r => k (pc + n) (zv_s1 lv x.1 (.int v)) r S D
  | .istore_n _ => zv_i1 st fun v r => k (pc + n) (zv_s1 lv x.1 (.int v)) r S D
  | .lstore _ => zv_l1 st fun v r => k (pc + n) (zv_s2 lv x.1 (.long v)) r S D
  | .lstore_n _ => zv_l1 st fun v r => k (pc + n) (zv_s2 lv x.1 (.long v)) r S D
  | .astore_n _ => zv_a1 st fun v r => k (pc + n) (zv_s1 lv x.1 (.ref v)) r S D
  | .iinc _ _ => zv_li (zv_at lv x.1) fun v => k (pc + n) (zv_s1 lv x.1 (.int (v + x.2.2.2.1))) st S D
  | .iadd => zv_i2 st fun a b r => k (pc + n) lv (.int (a + b) :: r) S D
  | .isub => zv_i2 st fun a b r => k (pc + n) lv (.int (a - b) :: r) S D
  | .imul => zv_i2 st fun a b r => k (pc + n) lv (.int (a * b) :: r) S D
  | .iand => zv_i2 st fun a b r => k (pc + n) lv (.int (a &&& b) :: r) S D
  | .ior => zv_i2 st fun a b r => k (pc + n) lv (.int (a ||| b) :: r) S D
  | .ixor => zv_i2 st fun a b r => k (pc + n) lv (.int (a ^^^ b) :: r) S D
  | .ishl => zv_i2 st fun a b r => k (pc + n) lv (.int (a <<< (b &&& 31)) :: r) S D
  | .ishr => zv_i2 st fun a b r => k (pc + n) lv (.int (a >>> (b &&& 31)) :: r) S D
  | .iushr => zv_i2 st fun a b r => k (pc + n) lv (.int (a.toUInt32 >>> (b.toUInt32 &&& Int32.toUInt32 31)).toInt32 :: r) S D
  | .idiv => zv_i2 st fun a b r => if b = 0 then none else k (pc + n) lv (.int (a / b) :: r) S D
  | .irem => zv_i2 st fun a b r => if b = 0 then none else k (pc + n) lv (.int (a - a / b * b) :: r) S D
  | .ineg => zv_i1 st fun a r => k (pc + n) lv (.int (-a) :: r) S D
  | .ladd => zv_l2 st fun a b r => k (pc + n) lv (.long (a + b) :: r) S D
  | .lsub => zv_l2 st fun a b r => k (pc + n) lv (.long (a - b) :: r) S D
  | .lmul => zv_l2 st fun a b r => k (pc + n) lv (.long (a * b) :: r) S D
  | .land => zv_l2 st fun a b r => k (pc + n) lv (.long (a &&& b) :: r) S D
  | .lor => zv_l2 st fun a b r => k (pc + n) lv (.long (a ||| b) :: r) S D
  | .ldiv => zv_l2 st fun a b r => if b = 0 then none else k (pc + n) lv (.long (a / b) :: r) S D
  | .lrem => zv_l2 st fun a b r => if b = 0 then none else k (pc + n) lv (.long (a - a / b * b) :: r) S D
  | .lcmp => zv_l2 st fun a b r => k (pc + n) lv (.int (lg_cmp a b) :: r) S D
  | .lshl => zv_i1 st fun b r => zv_l1 r fun a r => k (pc + n) lv (.long (a <<< (b.toInt64 &&& 63)) :: r) S D
  | .lushr => zv_i1 st fun b r => zv_l1 r fun a r => k (pc + n) lv (.long (a.toUInt64 >>> (b.toInt64.toUInt64 &&& Int64.toUInt64 63)).toInt64 :: r) S D
  | .i2l => zv_i1 st fun a r => k (pc + n) lv (.long a.toInt64 :: r) S D
  | .l2i => zv_l1 st fun a r => k (pc + n) lv (.int a.toInt32 :: r) S D
  | .i2c => zv_i1 st fun a r => k (pc + n) lv (.int (a.toUInt32 % 65536).toInt32 :: r) S D
  | .dup => zv_dp st fun r => k (pc + n) lv r S D
  | .dup2 => zv_ia st fun i a r => k (pc + n) lv (.int i :: .ref a :: .int i :: .ref a :: r) S D
  | .pop => zv_i1 st fun _ r => k (pc + n) lv r S D
  | .ifCond .eq _ => zv_i1 st fun a r => if a = 0 then k x.1 lv r S D else k (pc + n) lv r S D
  | .ifCond .ne _ => zv_i1 st fun a r => if a = 0 then k (pc + n) lv r S D else k x.1 lv r S D
  | .ifCond .lt _ => zv_i1 st fun a r => if a < 0 then k x.1 lv r S D else k (pc + n) lv r S D
  | .ifCond .ge _ => zv_i1 st fun a r => if 0 ≤ a then k x.1 lv r S D else k (pc + n) lv r S D
  | .ifCond .gt _ => zv_i1 st fun a r => if 0 < a then k x.1 lv r S D else k (pc + n) lv r S D
  | .ifCond .le _ => zv_i1 st fun a r => if a ≤ 0 then k x.1 lv r S D else k (pc + n) lv r S D
  | .if_icmp .eq _ => zv_i2 st fun a b r => if a = b then k x.1 lv r S D else k (pc + n) lv r S D
  | .if_icmp .ne _ => zv_i2 st fun a b r => if a = b then k (pc + n) lv r S D else k x.1 lv r S D
  | .if_icmp .lt _ => zv_i2 st fun a b r => if a < b then k x.1 lv r S D else k (pc + n) lv r S D
  | .if_icmp .ge _ => zv_i2 st fun a b r => if b ≤ a then k x.1 lv r S D else k (pc + n) lv r S D
  | .if_icmp .gt _ => zv_i2 st fun a b r => if b < a then k x.1 lv r S D else k (pc + n) lv r S D
  | .if_icmp .le _ => zv_i2 st fun a b r => if a ≤ b then k x.1 lv r S D else k (pc + n) lv r S D
  | .goto _ => k x.1 lv st S D
  | .tableswitch _ _ _ _ => zv_i1 st fun a r => zv_sw x.2.2.2.2.2 a x.1 fun t => k t lv r S D
  | .lookupswitch _ _ => zv_i1 st fun a r => zv_sw x.2.2.2.2.2 a x.1 fun t => k t lv r S D
  | .getfield _ => zv_a1 st fun q r => bif Nat.beq (S.2.2.1 q).1 x.1 then
      (bif Nat.beq x.2.2.1 0 then k (pc + n) lv (.int (D.1 q x.2.1) :: r) S D
       else bif Nat.beq x.2.2.1 1 then k (pc + n) lv (.long (D.2 q x.2.1) :: r) S D
       else (S.2.2.2 q x.2.1).bind fun a => k (pc + n) lv (.ref a :: r) S D) else none
  | .putfield _ => bif Nat.beq x.2.2.1 0 then zv_i1 st fun v r => zv_a1 r fun q r => bif Nat.beq (S.2.2.1 q).1 x.1 then k (pc + n) lv r S (zv_w D.1 q x.2.1 v, D.2) else none
      else bif Nat.beq x.2.2.1 1 then zv_l1 st fun v r => zv_a1 r fun q r => bif Nat.beq (S.2.2.1 q).1 x.1 then k (pc + n) lv r S (D.1, zv_wl D.2 q x.2.1 v) else none
      else bif al then zv_a1 st fun a r => zv_a1 r fun q r => bif Nat.beq (S.2.2.1 q).1 x.1 then k (pc + n) lv r (zv_rw S q x.2.1 a) D else none
      else none
  | .getstatic _ => k (pc + n) lv (.ref x.1 :: st) S D
  | .iaload => zv_ia st fun i a r => bif Nat.beq (S.2.2.1 a).1 11 then (bif zv_in i (S.2.2.1 a).2 then k (pc + n) lv (.int (D.1 a i.toNatClampNeg) :: r) S D else none)
      else bif Nat.beq (S.2.2.1 a).1 21 then (bif zv_in i xs.1 then k (pc + n) lv (.int (xs.2 i.toNatClampNeg) :: r) S D else none)
      else bif Nat.beq (S.2.2.1 a).1 22 then (bif zv_in i 5 then k (pc + n) lv (.int (zv_fa i.toNatClampNeg) :: r) S D else none) else none
  | .laload => zv_ia st fun i a r => bif Nat.beq (S.2.2.1 a).1 24 then (bif zv_in i 5 then k (pc + n) lv (.long (zv_un i.toNatClampNeg) :: r) S D else none) else none
  | .caload => zv_ia st fun i a r => bif Nat.beq (S.2.2.1 a).1 10 then (bif zv_in i (S.2.2.1 a).2 then k (pc + n) lv (.int (D.1 a i.toNatClampNeg) :: r) S D else none) else none
  | .baload => zv_ia st fun i a r => bif Nat.beq (S.2.2.1 a).1 12 then (bif zv_in i (S.2.2.1 a).2 then k (pc + n) lv (.int (D.1 a i.toNatClampNeg) :: r) S D else none) else none
  | .aaload => zv_ia st fun i a r => bif Nat.beq (S.2.2.1 a).1 13 then (bif zv_in i (S.2.2.1 a).2 then (S.2.2.2 a i.toNatClampNeg).bind fun b => k (pc + n) lv (.ref b :: r) S D else none) else none
  | .iastore => zv_via st fun v i a r => bif Nat.beq (S.2.2.1 a).1 11 then (bif zv_in i (S.2.2.1 a).2 then k (pc + n) lv r S (zv_w D.1 a i.toNatClampNeg v, D.2) else none) else none
  | .castore => zv_via st fun v i a r => bif Nat.beq (S.2.2.1 a).1 10 then (bif zv_in i (S.2.2.1 a).2 then k (pc + n) lv r S (zv_w D.1 a i.toNatClampNeg (vp_nar .char v), D.2) else none) else none
  | .bastore => zv_via st fun v i a r => bif Nat.beq (S.2.2.1 a).1 12 then (bif zv_in i (S.2.2.1 a).2 then k (pc + n) lv r S (zv_w D.1 a i.toNatClampNeg (vp_nar .boolean v), D.2) else none) else none
  | .aastore => bif al then zv_a1 st fun b r => zv_ia r fun i a r => bif Nat.beq (S.2.2.1 a).1 13 && (Nat.beq (S.2.2.1 b).1 7 && zv_in i (S.2.2.1 a).2) then k (pc + n) lv r (zv_rw S a i.toNatClampNeg b) D else none else none
  | .arraylength => zv_a1 st fun a r => bif Nat.beq (S.2.2.1 a).1 21 then k (pc + n) lv (.int (Int32.ofNat xs.1) :: r) S D else bif Nat.ble 10 (S.2.2.1 a).1 then k (pc + n) lv (.int (Int32.ofNat (S.2.2.1 a).2) :: r) S D else none
  | .new _ => bif al then k (pc + n) lv (.ref S.1 :: st) (zv_new S x.1 x.2.1) (zv_zer S D) else none
  | .newarray _ => bif al then zv_i1 st fun m r => bif !(decide (m < 0)) && Nat.ble m.toNatClampNeg 65536 then k (pc + n) lv (.ref S.1 :: r) (zv_new S x.1 m.toNatClampNeg) (zv_zer S D) else none else none
  | .anewarray _ => bif al then zv_i1 st fun m r => bif !(decide (m < 0)) && Nat.ble m.toNatClampNeg 65536 then k (pc + n) lv (.ref S.1 :: r) (zv_new S 13 m.toNatClampNeg) (zv_zer S D) else none else none
  | .invokevirtual _ => bif Nat.ble (zv_cs (st.drop x.2.1)) 8 then (ca x.1 (st.take x.2.1).reverse S D).bind fun p => k (pc + n) lv (zv_psh x.2.2.1 p.1 (st.drop x.2.1)) S p.2 else none
  | .invokestatic _ => bif Nat.beq x.1 999 then zv_acp st S D fun r D' => k (pc + n) lv r S D'
      else bif Nat.ble (zv_cs (st.drop x.2.1)) 8 then (ca x.1 (st.take x.2.1).reverse S D).bind fun p => k (pc + n) lv (zv_psh x.2.2.1 p.1 (st.drop x.2.1)) S p.2 else none
  | .invokespecial _ => bif Nat.beq x.1 998 then zv_a1 st fun _ r => bif Nat.ble (zv_cs r) 8 then k (pc + n) lv r S D else none
      else bif al then (bif Nat.ble (zv_cs (st.drop x.2.1)) 8 then (ci x.1 (st.take x.2.1).reverse S D).bind fun p => k (pc + n) lv (st.drop x.2.1) p.2.1 p.2.2 else none) else none
  | .ireturn => match st with
    | [.int v] => bif bo then (bif zv_bk v then some ((v, 0, 0), S, D) else none) else some ((v, 0, 0), S, D)
    | _ => none
  | .lreturn => match st with
    | [.long v] => some ((0, v, 0), S, D)
    | _ => none
  | .areturn => match st with
    | [.ref v] => some ((0, 0, v), S, D)
    | _ => none
  | .return_ => match st with
    | [] => some ((0, 0, 0), S, D)
    | _ => none
  | _ => none
def zv_ck : List zv_E → Nat → Option (Instr × Nat × zv_X)
  | [], _ => none
  | e :: t, pc => bif Nat.beq e.1 pc then some e.2 else zv_ck t pc
def zv_lk : List (Nat × List zv_E) → Nat → Option (Instr × Nat × zv_X)
  | [], _ => none
  | e :: t, pc => bif Nat.blt pc e.1 then zv_ck e.2 pc else zv_lk t pc
/-- one step -/
def zv_1 (al : Bool) (tb : List (Nat × List zv_E)) (ca : zv_Ca) (ci : zv_Ci) (xs : Nat × (Nat → Int32)) (bo : Bool) (k : zv_K) : zv_K := fun pc lv st S D => match zv_lk tb pc with
  | none => none
  | some e => zv_s al ca ci xs bo e.1 e.2.1 e.2.2 pc lv st S D k
/-- with fuel -/
def zv_r (al : Bool) (tb : List (Nat × List zv_E)) (ca : zv_Ca) (ci : zv_Ci) (xs : Nat × (Nat → Int32)) (bo : Bool) : Nat → zv_K
  | 0 => fun _ _ _ _ _ => none
  | f + 1 => zv_1 al tb ca ci xs bo (zv_r al tb ca ci xs bo f)
/-- n steps, or up to a stop -/
def zv_n (al : Bool) (tb : List (Nat × List zv_E)) (ca : zv_Ca) (ci : zv_Ci) (xs : Nat × (Nat → Int32)) (bo : Bool) (sp : List Nat) (k : zv_K) : Nat → zv_K
  | 0 => k
  | n + 1 => zv_1 al tb ca ci xs bo fun pc lv st S D => bif zv_mem sp pc then k pc lv st S D else zv_n al tb ca ci xs bo sp k n pc lv st S D
/-- a step gives a fixed answer, or goes on at one place -/
def zv_sh (F : zv_K → Option zv_O) : Prop := (∃ o, ∀ k, F k = o) ∨ ∃ pc lv st S D, ∀ k : zv_K, F k = k pc lv st S D
theorem zv_shn : zv_sh (fun _ => none) := Or.inl ⟨none, fun _ => rfl⟩
theorem zv_sho (o : Option zv_O) : zv_sh (fun _ => o) := Or.inl ⟨o, fun _ => rfl⟩
theorem zv_shk (pc : Nat) (lv : zv_L) (st : List Value) (S : zv_S) (D : zv_D) : zv_sh (fun k => k pc lv st S D) := Or.inr ⟨pc, lv, st, S, D, fun _ => rfl⟩
theorem zv_shc (b : Bool) {F G : zv_K → Option zv_O} (h1 : zv_sh F) (h2 : zv_sh G) : zv_sh (fun k => bif b then F k else G k) := by
  cases b
  · exact h2
  · exact h1
theorem zv_shi {P : Prop} [Decidable P] {F G : zv_K → Option zv_O} (h1 : zv_sh F) (h2 : zv_sh G) : zv_sh (fun k => if P then F k else G k) := by
  by_cases h : P
  · simpa [h] using h1
  · simpa [h] using h2
theorem zv_shb {α : Type} (o : Option α) {F : α → zv_K → Option zv_O} (h : ∀ a, zv_sh (F a)) : zv_sh (fun k => o.bind fun a => F a k) := by
  cases o with
  | none => exact zv_shn
  | some a => exact h a
theorem zv_shw (t : List (Int32 × Nat)) (x : Int32) (d : Nat) {F : Nat → zv_K → Option zv_O} (h : ∀ a, zv_sh (F a)) : zv_sh (fun k => zv_sw t x d fun a => F a k) := by
  induction t with
  | nil => exact h d
  | cons q r ih => exact zv_shi (h q.2) ih
theorem zv_sh_i2 (st : List Value) {F : Int32 → Int32 → List Value → zv_K → Option zv_O} (h : ∀ a b r, zv_sh (F a b r)) : zv_sh (fun k => zv_i2 st fun a b r => F a b r k) := by
  unfold zv_i2; split
  · exact h _ _ _
  · exact zv_shn
theorem zv_sh_l2 (st : List Value) {F : Int64 → Int64 → List Value → zv_K → Option zv_O} (h : ∀ a b r, zv_sh (F a b r)) : zv_sh (fun k => zv_l2 st fun a b r => F a b r k) := by
  unfold zv_l2; split
  · exact h _ _ _
  · exact zv_shn
theorem zv_sh_i1 (st : List Value) {F : Int32 → List Value → zv_K → Option zv_O} (h : ∀ a r, zv_sh (F a r)) : zv_sh (fun k => zv_i1 st fun a r => F a r k) := by
  unfold zv_i1; split
  · exact h _ _
  · exact zv_shn
theorem zv_sh_l1 (st : List Value) {F : Int64 → List Value → zv_K → Option zv_O} (h : ∀ a r, zv_sh (F a r)) : zv_sh (fun k => zv_l1 st fun a r => F a r k) := by
  unfold zv_l1; split
  · exact h _ _
  · exact zv_shn
theorem zv_sh_a1 (st : List Value) {F : Nat → List Value → zv_K → Option zv_O} (h : ∀ a r, zv_sh (F a r)) : zv_sh (fun k => zv_a1 st fun a r => F a r k) := by
  unfold zv_a1; split
  · exact h _ _
  · exact zv_shn
theorem zv_sh_ia (st : List Value) {F : Int32 → Nat → List Value → zv_K → Option zv_O} (h : ∀ a b r, zv_sh (F a b r)) : zv_sh (fun k => zv_ia st fun a b r => F a b r k) := by
  unfold zv_ia; split
  · exact h _ _ _
  · exact zv_shn
theorem zv_sh_via (st : List Value) {F : Int32 → Int32 → Nat → List Value → zv_K → Option zv_O} (h : ∀ v a b r, zv_sh (F v a b r)) : zv_sh (fun k => zv_via st fun v a b r => F v a b r k) := by
  unfold zv_via; split
  · exact h _ _ _ _
  · exact zv_shn
theorem zv_sh_li (o : Option Value) {F : Int32 → zv_K → Option zv_O} (h : ∀ a, zv_sh (F a)) : zv_sh (fun k => zv_li o fun a => F a k) := by
  unfold zv_li; split
  · exact h _
  · exact zv_shn
theorem zv_sh_ll (o o2 : Option Value) {F : Int64 → zv_K → Option zv_O} (h : ∀ a, zv_sh (F a)) : zv_sh (fun k => zv_ll o o2 fun a => F a k) := by
  unfold zv_ll; split
  · split
    · exact h _
    · exact zv_shn
  · exact zv_shn
theorem zv_sh_la (o : Option Value) {F : Nat → zv_K → Option zv_O} (h : ∀ a, zv_sh (F a)) : zv_sh (fun k => zv_la o fun a => F a k) := by
  unfold zv_la; split
  · exact h _
  · exact zv_shn
theorem zv_sh_acp (st : List Value) (S : zv_S) (D : zv_D) {F : List Value → zv_D → zv_K → Option zv_O} (h : ∀ a b, zv_sh (F a b)) : zv_sh (fun k => zv_acp st S D fun a b => F a b k) := by
  unfold zv_acp; split
  · exact zv_shc _ (h _ _) zv_shn
  · exact zv_shn
theorem zv_sh_dp (st : List Value) {F : List Value → zv_K → Option zv_O} (h : ∀ r, zv_sh (F r)) : zv_sh (fun k => zv_dp st fun r => F r k) := by
  unfold zv_dp; split
  · exact h _
  · exact h _
  · exact zv_shn
theorem zv_s_sh (al : Bool) (ca : zv_Ca) (ci : zv_Ci) (xs : Nat × (Nat → Int32)) (bo : Bool) (ins : Instr) (n : Nat) (x : zv_X) (pc : Nat) (lv : zv_L) (st : List Value) (S : zv_S) (D : zv_D) : zv_sh (zv_s al ca ci xs bo ins n x pc lv st S D) := by
  cases ins
  case ifCond cond off => cases cond <;> exact zv_sh_i1 _ fun _ _ => zv_shi (zv_shk _ _ _ _ _) (zv_shk _ _ _ _ _)
  case if_icmp cond off => cases cond <;> exact zv_sh_i2 _ fun _ _ _ => zv_shi (zv_shk _ _ _ _ _) (zv_shk _ _ _ _ _)
  case iconst => exact zv_shk _ _ _ _ _
  case bipush => exact zv_shk _ _ _ _ _
  case sipush => exact zv_shk _ _ _ _ _
  case ldc_w => exact zv_shk _ _ _ _ _
  case lconst => exact zv_shk _ _ _ _ _
  case ldc2_w => exact zv_shk _ _ _ _ _
  case getstatic => exact zv_shk _ _ _ _ _
  case goto => exact zv_shk _ _ _ _ _
  case iload => exact zv_sh_li _ fun _ => zv_shk _ _ _ _ _
  case iload_n => exact zv_sh_li _ fun _ => zv_shk _ _ _ _ _
  case lload => exact zv_sh_ll _ _ fun _ => zv_shk _ _ _ _ _
  case lload_n => exact zv_sh_ll _ _ fun _ => zv_shk _ _ _ _ _
  case aload => exact zv_sh_la _ fun _ => zv_shk _ _ _ _ _
  case aload_n => exact zv_sh_la _ fun _ => zv_shk _ _ _ _ _
  case istore => exact zv_sh_i1 _ fun _ _ => zv_shk _ _ _ _ _
  case istore_n => exact zv_sh_i1 _ fun _ _ => zv_shk _ _ _ _ _
  case lstore => exact zv_sh_l1 _ fun _ _ => zv_shk _ _ _ _ _
  case lstore_n => exact zv_sh_l1 _ fun _ _ => zv_shk _ _ _ _ _
  case astore_n => exact zv_sh_a1 _ fun _ _ => zv_shk _ _ _ _ _
  case iinc => exact zv_sh_li _ fun _ => zv_shk _ _ _ _ _
  case iadd => exact zv_sh_i2 _ fun _ _ _ => zv_shk _ _ _ _ _
  case isub => exact zv_sh_i2 _ fun _ _ _ => zv_shk _ _ _ _ _
  case imul => exact zv_sh_i2 _ fun _ _ _ => zv_shk _ _ _ _ _
  case iand => exact zv_sh_i2 _ fun _ _ _ => zv_shk _ _ _ _ _
  case ior => exact zv_sh_i2 _ fun _ _ _ => zv_shk _ _ _ _ _
  case ixor => exact zv_sh_i2 _ fun _ _ _ => zv_shk _ _ _ _ _
  case ishl => exact zv_sh_i2 _ fun _ _ _ => zv_shk _ _ _ _ _
  case ishr => exact zv_sh_i2 _ fun _ _ _ => zv_shk _ _ _ _ _
  case iushr => exact zv_sh_i2 _ fun _ _ _ => zv_shk _ _ _ _ _
  case idiv => exact zv_sh_i2 _ fun _ _ _ => zv_shi zv_shn (zv_shk _ _ _ _ _)
  case irem => exact zv_sh_i2 _ fun _ _ _ => zv_shi zv_shn (zv_shk _ _ _ _ _)
  case ineg => exact zv_sh_i1 _ fun _ _ => zv_shk _ _ _ _ _
  case ladd => exact zv_sh_l2 _ fun _ _ _ => zv_shk _ _ _ _ _
  case lsub => exact zv_sh_l2 _ fun _ _ _ => zv_shk _ _ _ _ _
  case lmul => exact zv_sh_l2 _ fun _ _ _ => zv_shk _ _ _ _ _
  case land => exact zv_sh_l2 _ fun _ _ _ => zv_shk _ _ _ _ _
  case lor => exact zv_sh_l2 _ fun _ _ _ => zv_shk _ _ _ _ _
  case ldiv => exact zv_sh_l2 _ fun _ _ _ => zv_shi zv_shn (zv_shk _ _ _ _ _)
  case lrem => exact zv_sh_l2 _ fun _ _ _ => zv_shi zv_shn (zv_shk _ _ _ _ _)
  case lcmp => exact zv_sh_l2 _ fun _ _ _ => zv_shk _ _ _ _ _
  case lshl => exact zv_sh_i1 _ fun _ _ => zv_sh_l1 _ fun _ _ => zv_shk _ _ _ _ _
  case lushr => exact zv_sh_i1 _ fun _ _ => zv_sh_l1 _ fun _ _ => zv_shk _ _ _ _ _
  case i2l => exact zv_sh_i1 _ fun _ _ => zv_shk _ _ _ _ _
  case l2i => exact zv_sh_l1 _ fun _ _ => zv_shk _ _ _ _ _
  case i2c => exact zv_sh_i1 _ fun _ _ => zv_shk _ _ _ _ _
  case dup => exact zv_sh_dp st fun r => zv_shk (pc + n) lv r S D
  case dup2 => exact zv_sh_ia _ fun _ _ _ => zv_shk _ _ _ _ _
  case pop => exact zv_sh_i1 _ fun _ _ => zv_shk _ _ _ _ _
  case tableswitch => exact zv_sh_i1 _ fun _ _ => zv_shw _ _ _ fun _ => zv_shk _ _ _ _ _
  case lookupswitch => exact zv_sh_i1 _ fun _ _ => zv_shw _ _ _ fun _ => zv_shk _ _ _ _ _
  case getfield => exact zv_sh_a1 _ fun _ _ => zv_shc _ (zv_shc _ (zv_shk _ _ _ _ _) (zv_shc _ (zv_shk _ _ _ _ _) (zv_shb _ fun _ => zv_shk _ _ _ _ _))) zv_shn
  case putfield => exact zv_shc _ (zv_sh_i1 _ fun _ _ => zv_sh_a1 _ fun _ _ => zv_shc _ (zv_shk _ _ _ _ _) zv_shn) (zv_shc _ (zv_sh_l1 _ fun _ _ => zv_sh_a1 _ fun _ _ => zv_shc _ (zv_shk _ _ _ _ _) zv_shn) (zv_shc _ (zv_sh_a1 _ fun _ _ => zv_sh_a1 _ fun _ _ => zv_shc _ (zv_shk _ _ _ _ _) zv_shn) zv_shn))
  case iaload => exact zv_sh_ia _ fun _ _ _ => zv_shc _ (zv_shc _ (zv_shk _ _ _ _ _) zv_shn) (zv_shc _ (zv_shc _ (zv_shk _ _ _ _ _) zv_shn) (zv_shc _ (zv_shc _ (zv_shk _ _ _ _ _) zv_shn) zv_shn))
  case laload => exact zv_sh_ia _ fun _ _ _ => zv_shc _ (zv_shc _ (zv_shk _ _ _ _ _) zv_shn) zv_shn
  case caload => exact zv_sh_ia _ fun _ _ _ => zv_shc _ (zv_shc _ (zv_shk _ _ _ _ _) zv_shn) zv_shn
  case baload => exact zv_sh_ia _ fun _ _ _ => zv_shc _ (zv_shc _ (zv_shk _ _ _ _ _) zv_shn) zv_shn
  case aaload => exact zv_sh_ia _ fun _ _ _ => zv_shc _ (zv_shc _ (zv_shb _ fun _ => zv_shk _ _ _ _ _) zv_shn) zv_shn
  case iastore => exact zv_sh_via _ fun _ _ _ _ => zv_shc _ (zv_shc _ (zv_shk _ _ _ _ _) zv_shn) zv_shn
  case castore => exact zv_sh_via _ fun _ _ _ _ => zv_shc _ (zv_shc _ (zv_shk _ _ _ _ _) zv_shn) zv_shn
  case bastore => exact zv_sh_via _ fun _ _ _ _ => zv_shc _ (zv_shc _ (zv_shk _ _ _ _ _) zv_shn) zv_shn
  case aastore => exact zv_shc _ (zv_sh_a1 _ fun _ _ => zv_sh_ia _ fun _ _ _ => zv_shc _ (zv_shk _ _ _ _ _) zv_shn) zv_shn
  case arraylength => exact zv_sh_a1 _ fun _ _ => zv_shc _ (zv_shk _ _ _ _ _) (zv_shc _ (zv_shk _ _ _ _ _) zv_shn)
  case new => exact zv_shc _ (zv_shk _ _ _ _ _) zv_shn
  case newarray => exact zv_shc _ (zv_sh_i1 _ fun _ _ => zv_shc _ (zv_shk _ _ _ _ _) zv_shn) zv_shn
  case anewarray => exact zv_shc _ (zv_sh_i1 _ fun _ _ => zv_shc _ (zv_shk _ _ _ _ _) zv_shn) zv_shn
  case invokevirtual => exact zv_shc _ (zv_shb _ fun _ => zv_shk _ _ _ _ _) zv_shn
  case invokestatic => exact zv_shc _ (zv_sh_acp _ _ _ fun _ _ => zv_shk _ _ _ _ _) (zv_shc _ (zv_shb _ fun _ => zv_shk _ _ _ _ _) zv_shn)
  case invokespecial => exact zv_shc _ (zv_sh_a1 _ fun _ _ => zv_shc _ (zv_shk _ _ _ _ _) zv_shn) (zv_shc _ (zv_shc _ (zv_shb _ fun _ => zv_shk _ _ _ _ _) zv_shn) zv_shn)
  all_goals exact zv_sho _
section ZV
variable (al : Bool) (tb : List (Nat × List zv_E)) (ca : zv_Ca) (ci : zv_Ci) (xs : Nat × (Nat → Int32)) (bo : Bool)
theorem zv_1_sh (pc : Nat) (lv : zv_L) (st : List Value) (S : zv_S) (D : zv_D) : zv_sh (fun k => zv_1 al tb ca ci xs bo k pc lv st S D) := by
  unfold zv_1; split
  · exact zv_shn
  · exact zv_s_sh _ _ _ _ _ _ _ _ _ _ _ _ _
theorem zv_mono : ∀ (f pc : Nat) (lv : zv_L) (st : List Value) (S : zv_S) (D : zv_D) (o : zv_O), zv_r al tb ca ci xs bo f pc lv st S D = some o → zv_r al tb ca ci xs bo (f + 1) pc lv st S D = some o := by
  intro f
  induction f with
  | zero => intro pc lv st S D o h; cases h
  | succ f ih =>
    intro pc lv st S D o h
    show zv_1 al tb ca ci xs bo (zv_r al tb ca ci xs bo (f + 1)) pc lv st S D = some o
    have h : zv_1 al tb ca ci xs bo (zv_r al tb ca ci xs bo f) pc lv st S D = some o := h
    rcases zv_1_sh al tb ca ci xs bo pc lv st S D with ⟨q, hq⟩ | ⟨pc', lv', st', S', D', hq⟩
    · exact (hq _).trans ((hq _).symm.trans h)
    · exact (hq _).trans (ih _ _ _ _ _ _ ((hq _).symm.trans h))
theorem zv_mono2 (g : Nat) : ∀ (f pc : Nat) (lv : zv_L) (st : List Value) (S : zv_S) (D : zv_D) (o : zv_O), zv_r al tb ca ci xs bo f pc lv st S D = some o → zv_r al tb ca ci xs bo (f + g) pc lv st S D = some o := by
  induction g with
  | zero => exact fun _ _ _ _ _ _ _ h => h
  | succ g ih => exact fun f pc lv st S D o h => zv_mono al tb ca ci xs bo (f + g) pc lv st S D o (ih f pc lv st S D o h)
theorem zv_det {f g pc : Nat} {lv : zv_L} {st : List Value} {S : zv_S} {D : zv_D} {o o' : zv_O} (h : zv_r al tb ca ci xs bo f pc lv st S D = some o) (h' : zv_r al tb ca ci xs bo g pc lv st S D = some o') : o = o' := by
  have a := zv_mono2 al tb ca ci xs bo g f pc lv st S D o h
  have b := zv_mono2 al tb ca ci xs bo f g pc lv st S D o' h'
  rw [Nat.add_comm g f] at b
  exact Option.some.inj (a.symm.trans b)
/-- without fuel -/
noncomputable def zv_z : zv_K := fun pc lv st S D => @dite _ (∃ o f, zv_r al tb ca ci xs bo f pc lv st S D = some o) (Classical.propDecidable _) (fun h => some (Classical.choose h)) (fun _ => none)
theorem zv_z_iff (pc : Nat) (lv : zv_L) (st : List Value) (S : zv_S) (D : zv_D) (o : zv_O) : zv_z al tb ca ci xs bo pc lv st S D = some o ↔ ∃ f, zv_r al tb ca ci xs bo f pc lv st S D = some o := by
  unfold zv_z
  constructor
  · intro h
    split at h
    · rename_i hx
      rw [← Option.some.inj h]
      exact Classical.choose_spec hx
    · cases h
  · rintro ⟨f, hf⟩
    have hx : ∃ o f, zv_r al tb ca ci xs bo f pc lv st S D = some o := ⟨o, f, hf⟩
    rw [dif_pos hx]
    obtain ⟨g, hg⟩ := Classical.choose_spec hx
    exact congrArg some (zv_det al tb ca ci xs bo hg hf)
theorem zv_z_eq (pc : Nat) (lv : zv_L) (st : List Value) (S : zv_S) (D : zv_D) : zv_z al tb ca ci xs bo pc lv st S D = zv_1 al tb ca ci xs bo (zv_z al tb ca ci xs bo) pc lv st S D := by
  apply Option.ext
  intro o
  rw [zv_z_iff]
  rcases zv_1_sh al tb ca ci xs bo pc lv st S D with ⟨q, hq⟩ | ⟨pc', lv', st', S', D', hq⟩
  · have hq : ∀ k : zv_K, zv_1 al tb ca ci xs bo k pc lv st S D = q := hq
    rw [hq]
    constructor
    · rintro ⟨f, hf⟩
      cases f with
      | zero => cases hf
      | succ f => exact (hq _).symm.trans hf
    · intro h
      exact ⟨1, (hq _).trans h⟩
  · have hq : ∀ k : zv_K, zv_1 al tb ca ci xs bo k pc lv st S D = k pc' lv' st' S' D' := hq
    rw [hq, zv_z_iff]
    constructor
    · rintro ⟨f, hf⟩
      cases f with
      | zero => cases hf
      | succ f => exact ⟨f, (hq _).symm.trans hf⟩
    · rintro ⟨f, hf⟩
      exact ⟨f + 1, (hq _).trans hf⟩
theorem zv_zn (sp : List Nat) : ∀ (n pc : Nat) (lv : zv_L) (st : List Value) (S : zv_S) (D : zv_D), zv_z al tb ca ci xs bo pc lv st S D = zv_n al tb ca ci xs bo sp (zv_z al tb ca ci xs bo) n pc lv st S D := by
  intro n
  induction n with
  | zero => intro pc lv st S D; rfl
  | succ n ih =>
    intro pc lv st S D
    rw [zv_z_eq]
    show _ = zv_1 al tb ca ci xs bo (fun pc lv st S D => bif zv_mem sp pc then zv_z al tb ca ci xs bo pc lv st S D else zv_n al tb ca ci xs bo sp (zv_z al tb ca ci xs bo) n pc lv st S D) pc lv st S D
    congr 1
    funext pc lv st S D
    cases zv_mem sp pc
    · exact ih pc lv st S D
    · rfl
end ZV
/-- a method that makes nothing -/
noncomputable abbrev zv_m (tb : List (Nat × List zv_E)) (ca : zv_Ca) (bo : Bool) : zv_K := zv_z false tb ca (fun _ _ _ _ => none) (0, fun _ => 0) bo
theorem zv_mn (tb : List (Nat × List zv_E)) (ca : zv_Ca) (bo : Bool) (sp : List Nat) (n pc : Nat) (lv : zv_L) (st : List Value) (S : zv_S) (D : zv_D) : zv_m tb ca bo pc lv st S D = zv_n false tb ca (fun _ _ _ _ => none) (0, fun _ => 0) bo sp (zv_m tb ca bo) n pc lv st S D := zv_zn _ _ _ _ _ _ _ _ _ _ _ _ _
end
section
def zk_kd : Nat → Nat × Nat := fun q => bif Nat.blt q 136 then (bif Nat.blt q 68 then (bif Nat.blt q 34 then (bif Nat.blt q 17 then (bif Nat.blt q 8 then (bif Nat.blt q 4 then (bif Nat.blt q 2 then (bif Nat.blt q 1 then (8, 11) else (4, 12)) else (bif Nat.blt q 3 then (10, 90) else (11, 25))) else (bif Nat.blt q 6 then (bif Nat.blt q 5 then (11, 25) else (11, 4)) else (bif Nat.blt q 7 then (11, 4) else (11, 4)))) else (bif Nat.blt q 12 then (bif Nat.blt q 10 then (bif Nat.blt q 9 then (11, 4) else (3, 8)) else (bif Nat.blt q 11 then (11, 25) else (11, 25))) else (bif Nat.blt q 14 then (bif Nat.blt q 13 then (11, 4) else (11, 4)) else (bif Nat.blt q 15 then (11, 4) else (bif Nat.blt q 16 then (11, 5) else (6, 9)))))) else (bif Nat.blt q 25 then (bif Nat.blt q 21 then (bif Nat.blt q 19 then (bif Nat.blt q 18 then (7, 6) else (11, 25)) else (bif Nat.blt q 20 then (11, 4) else (11, 5))) else (bif Nat.blt q 23 then (bif Nat.blt q 22 then (11, 5) else (11, 25)) else (bif Nat.blt q 24 then (11, 80) else (11, 4)))) else (bif Nat.blt q 29 then (bif Nat.blt q 27 then (bif Nat.blt q 26 then (11, 4) else (11, 5)) else (bif Nat.blt q 28 then (6, 9) else (7, 6))) else (bif Nat.blt q 31 then (bif Nat.blt q 30 then (11, 25) else (11, 4)) else (bif Nat.blt q 32 then (11, 5) else (bif Nat.blt q 33 then (11, 5) else (11, 25))))))) else (bif Nat.blt q 51 then (bif Nat.blt q 42 then (bif Nat.blt q 38 then (bif Nat.blt q 36 then (bif Nat.blt q 35 then (11, 80) else (11, 4)) else (bif Nat.blt q 37 then (11, 4) else (11, 5))) else (bif Nat.blt q 40 then (bif Nat.blt q 39 then (0, 4) else (11, 305)) else (bif Nat.blt q 41 then (1, 6) else (11, 5)))) else (bif Nat.blt q 46 then (bif Nat.blt q 44 then (bif Nat.blt q 43 then (11, 120) else (11, 5)) else (bif Nat.blt q 45 then (2, 3) else (13, 14))) else (bif Nat.blt q 48 then (bif Nat.blt q 47 then (7, 6) else (11, 25)) else (bif Nat.blt q 49 then (11, 4) else (bif Nat.blt q 50 then (11, 5) else (7, 6)))))) else (bif Nat.blt q 59 then (bif Nat.blt q 55 then (bif Nat.blt q 53 then (bif Nat.blt q 52 then (11, 25) else (11, 4)) else (bif Nat.blt q 54 then (11, 5) else (7, 6))) else (bif Nat.blt q 57 then (bif Nat.blt q 56 then (11, 25) else (11, 4)) else (bif Nat.blt q 58 then (11, 5) else (7, 6)))) else (bif Nat.blt q 63 then (bif Nat.blt q 61 then (bif Nat.blt q 60 then (11, 25) else (11, 4)) else (bif Nat.blt q 62 then (11, 5) else (7, 6))) else (bif Nat.blt q 65 then (bif Nat.blt q 64 then (11, 25) else (11, 4)) else (bif Nat.blt q 66 then (11, 5) else (bif Nat.blt q 67 then (7, 6) else (11, 25)))))))) else (bif Nat.blt q 102 then (bif Nat.blt q 85 then (bif Nat.blt q 76 then (bif Nat.blt q 72 then (bif Nat.blt q 70 then (bif Nat.blt q 69 then (11, 4) else (11, 5)) else (bif Nat.blt q 71 then (7, 6) else (11, 25))) else (bif Nat.blt q 74 then (bif Nat.blt q 73 then (11, 4) else (11, 5)) else (bif Nat.blt q 75 then (7, 6) else (11, 25)))) else (bif Nat.blt q 80 then (bif Nat.blt q 78 then (bif Nat.blt q 77 then (11, 4) else (11, 5)) else (bif Nat.blt q 79 then (7, 6) else (11, 25))) else (bif Nat.blt q 82 then (bif Nat.blt q 81 then (11, 4) else (11, 5)) else (bif Nat.blt q 83 then (7, 6) else (bif Nat.blt q 84 then (11, 25) else (11, 4)))))) else (bif Nat.blt q 93 then (bif Nat.blt q 89 then (bif Nat.blt q 87 then (bif Nat.blt q 86 then (11, 5) else (7, 6)) else (bif Nat.blt q 88 then (11, 25) else (11, 4))) else (bif Nat.blt q 91 then (bif Nat.blt q 90 then (11, 5) else (7, 6)) else (bif Nat.blt q 92 then (11, 25) else (11, 4)))) else (bif Nat.blt q 97 then (bif Nat.blt q 95 then (bif Nat.blt q 94 then (11, 5) else (7, 6)) else (bif Nat.blt q 96 then (11, 25) else (11, 4))) else (bif Nat.blt q 99 then (bif Nat.blt q 98 then (11, 5) else (7, 6)) else (bif Nat.blt q 100 then (11, 25) else (bif Nat.blt q 101 then (11, 4) else (11, 5))))))) else (bif Nat.blt q 119 then (bif Nat.blt q 110 then (bif Nat.blt q 106 then (bif Nat.blt q 104 then (bif Nat.blt q 103 then (13, 2) else (7, 6)) else (bif Nat.blt q 105 then (11, 25) else (11, 4))) else (bif Nat.blt q 108 then (bif Nat.blt q 107 then (11, 5) else (7, 6)) else (bif Nat.blt q 109 then (11, 25) else (11, 4)))) else (bif Nat.blt q 114 then (bif Nat.blt q 112 then (bif Nat.blt q 111 then (11, 5) else (12, 2)) else (bif Nat.blt q 113 then (5, 4) else (11, 6))) else (bif Nat.blt q 116 then (bif Nat.blt q 115 then (11, 6) else (11, 6)) else (bif Nat.blt q 117 then (9, 32) else (bif Nat.blt q 118 then (11, 90) else (11, 101)))))) else (bif Nat.blt q 127 then (bif Nat.blt q 123 then (bif Nat.blt q 121 then (bif Nat.blt q 120 then (11, 101) else (11, 101)) else (bif Nat.blt q 122 then (11, 101) else (11, 1414))) else (bif Nat.blt q 125 then (bif Nat.blt q 124 then (11, 202) else (12, 2)) else (bif Nat.blt q 126 then (11, 6) else (11, 6)))) else (bif Nat.blt q 131 then (bif Nat.blt q 129 then (bif Nat.blt q 128 then (11, 6) else (11, 25)) else (bif Nat.blt q 130 then (11, 4) else (11, 4))) else (bif Nat.blt q 133 then (bif Nat.blt q 132 then (11, 6) else (11, 30)) else (bif Nat.blt q 134 then (11, 1830) else (bif Nat.blt q 135 then (11, 120) else (11, 16))))))))) else bif Nat.beq q 1000000 then (21, 0) else bif Nat.beq q 1000001 then (24, 5) else bif Nat.beq q 1000002 then (22, 5) else (99, 0)
def zk_rf : Nat → Nat → Option Nat := fun q => (bif Nat.blt q 62 then (bif Nat.blt q 38 then (bif Nat.blt q 16 then (bif Nat.blt q 1 then (bif Nat.beq q 0 then (fun k => (bif Nat.blt k 5 then (bif Nat.blt k 2 then (bif Nat.blt k 1 then (bif Nat.beq k 0 then some 1 else none) else (bif Nat.beq k 1 then some 9 else none)) else (bif Nat.blt k 3 then (bif Nat.beq k 2 then some 16 else none) else (bif Nat.blt k 4 then (bif Nat.beq k 3 then some 27 else none) else (bif Nat.beq k 4 then some 38 else none)))) else (bif Nat.blt k 7 then (bif Nat.blt k 6 then (bif Nat.beq k 5 then some 40 else none) else (bif Nat.beq k 6 then some 44 else none)) else (bif Nat.blt k 8 then (bif Nat.beq k 7 then some 102 else none) else (bif Nat.blt k 9 then (bif Nat.beq k 8 then some 111 else none) else (bif Nat.beq k 9 then some 112 else none)))))) else fun _ => none) else (bif Nat.blt q 9 then (bif Nat.beq q 1 then (fun k => (bif Nat.blt k 7 then (bif Nat.blt k 5 then (bif Nat.beq k 0 then some 2 else none) else (bif Nat.blt k 6 then (bif Nat.beq k 5 then some 3 else none) else (bif Nat.beq k 6 then some 4 else none))) else (bif Nat.blt k 9 then (bif Nat.blt k 8 then (bif Nat.beq k 7 then some 5 else none) else (bif Nat.beq k 8 then some 6 else none)) else (bif Nat.blt k 10 then (bif Nat.beq k 9 then some 7 else none) else (bif Nat.beq k 10 then some 8 else none))))) else fun _ => none) else (bif Nat.beq q 9 then (fun k => (bif Nat.blt k 5 then (bif Nat.blt k 3 then (bif Nat.beq k 2 then some 10 else none) else (bif Nat.blt k 4 then (bif Nat.beq k 3 then some 11 else none) else (bif Nat.beq k 4 then some 12 else none))) else (bif Nat.blt k 6 then (bif Nat.beq k 5 then some 13 else none) else (bif Nat.blt k 7 then (bif Nat.beq k 6 then some 14 else none) else (bif Nat.beq k 7 then some 15 else none))))) else fun _ => none))) else (bif Nat.blt q 27 then (bif Nat.blt q 17 then (bif Nat.beq q 16 then (fun k => (bif Nat.blt k 5 then (bif Nat.blt k 2 then (bif Nat.blt k 1 then (bif Nat.beq k 0 then some 9 else none) else (bif Nat.beq k 1 then some 17 else none)) else (bif Nat.blt k 4 then (bif Nat.beq k 2 then some 21 else none) else (bif Nat.beq k 4 then some 22 else none))) else (bif Nat.blt k 7 then (bif Nat.blt k 6 then (bif Nat.beq k 5 then some 23 else none) else (bif Nat.beq k 6 then some 24 else none)) else (bif Nat.blt k 8 then (bif Nat.beq k 7 then some 25 else none) else (bif Nat.beq k 8 then some 26 else none))))) else fun _ => none) else (bif Nat.beq q 17 then (fun k => (bif Nat.blt k 1 then (bif Nat.beq k 0 then some 18 else none) else (bif Nat.blt k 2 then (bif Nat.beq k 1 then some 19 else none) else (bif Nat.beq k 2 then some 20 else none)))) else fun _ => none)) else (bif Nat.blt q 28 then (bif Nat.beq q 27 then (fun k => (bif Nat.blt k 5 then (bif Nat.blt k 2 then (bif Nat.blt k 1 then (bif Nat.beq k 0 then some 9 else none) else (bif Nat.beq k 1 then some 28 else none)) else (bif Nat.blt k 4 then (bif Nat.beq k 2 then some 32 else none) else (bif Nat.beq k 4 then some 33 else none))) else (bif Nat.blt k 7 then (bif Nat.blt k 6 then (bif Nat.beq k 5 then some 34 else none) else (bif Nat.beq k 6 then some 35 else none)) else (bif Nat.blt k 8 then (bif Nat.beq k 7 then some 36 else none) else (bif Nat.beq k 8 then some 37 else none))))) else fun _ => none) else (bif Nat.beq q 28 then (fun k => (bif Nat.blt k 1 then (bif Nat.beq k 0 then some 29 else none) else (bif Nat.blt k 2 then (bif Nat.beq k 1 then some 30 else none) else (bif Nat.beq k 2 then some 31 else none)))) else fun _ => none)))) else (bif Nat.blt q 46 then (bif Nat.blt q 44 then (bif Nat.blt q 40 then (bif Nat.beq q 38 then (fun k => (bif Nat.beq k 3 then some 39 else none)) else fun _ => none) else (bif Nat.beq q 40 then (fun k => (bif Nat.blt k 4 then (bif Nat.beq k 3 then some 41 else none) else (bif Nat.blt k 5 then (bif Nat.beq k 4 then some 42 else none) else (bif Nat.beq k 5 then some 43 else none)))) else fun _ => none)) else (bif Nat.blt q 45 then (bif Nat.beq q 44 then (fun k => (bif Nat.beq k 2 then some 45 else none)) else fun _ => none) else (bif Nat.beq q 45 then (fun k => bif Nat.blt k 14 then some (46 + 4 * k) else none) else fun _ => none))) else (bif Nat.blt q 54 then (bif Nat.blt q 50 then (bif Nat.beq q 46 then (fun k => (bif Nat.blt k 1 then (bif Nat.beq k 0 then some 47 else none) else (bif Nat.blt k 2 then (bif Nat.beq k 1 then some 48 else none) else (bif Nat.beq k 2 then some 49 else none)))) else fun _ => none) else (bif Nat.beq q 50 then (fun k => (bif Nat.blt k 1 then (bif Nat.beq k 0 then some 51 else none) else (bif Nat.blt k 2 then (bif Nat.beq k 1 then some 52 else none) else (bif Nat.beq k 2 then some 53 else none)))) else fun _ => none)) else (bif Nat.blt q 58 then (bif Nat.beq q 54 then (fun k => (bif Nat.blt k 1 then (bif Nat.beq k 0 then some 55 else none) else (bif Nat.blt k 2 then (bif Nat.beq k 1 then some 56 else none) else (bif Nat.beq k 2 then some 57 else none)))) else fun _ => none) else (bif Nat.beq q 58 then (fun k => (bif Nat.blt k 1 then (bif Nat.beq k 0 then some 59 else none) else (bif Nat.blt k 2 then (bif Nat.beq k 1 then some 60 else none) else (bif Nat.beq k 2 then some 61 else none)))) else fun _ => none))))) else (bif Nat.blt q 90 then (bif Nat.blt q 74 then (bif Nat.blt q 66 then (bif Nat.beq q 62 then (fun k => (bif Nat.blt k 1 then (bif Nat.beq k 0 then some 63 else none) else (bif Nat.blt k 2 then (bif Nat.beq k 1 then some 64 else none) else (bif Nat.beq k 2 then some 65 else none)))) else fun _ => none) else (bif Nat.blt q 70 then (bif Nat.beq q 66 then (fun k => (bif Nat.blt k 1 then (bif Nat.beq k 0 then some 67 else none) else (bif Nat.blt k 2 then (bif Nat.beq k 1 then some 68 else none) else (bif Nat.beq k 2 then some 69 else none)))) else fun _ => none) else (bif Nat.beq q 70 then (fun k => (bif Nat.blt k 1 then (bif Nat.beq k 0 then some 71 else none) else (bif Nat.blt k 2 then (bif Nat.beq k 1 then some 72 else none) else (bif Nat.beq k 2 then some 73 else none)))) else fun _ => none))) else (bif Nat.blt q 82 then (bif Nat.blt q 78 then (bif Nat.beq q 74 then (fun k => (bif Nat.blt k 1 then (bif Nat.beq k 0 then some 75 else none) else (bif Nat.blt k 2 then (bif Nat.beq k 1 then some 76 else none) else (bif Nat.beq k 2 then some 77 else none)))) else fun _ => none) else (bif Nat.beq q 78 then (fun k => (bif Nat.blt k 1 then (bif Nat.beq k 0 then some 79 else none) else (bif Nat.blt k 2 then (bif Nat.beq k 1 then some 80 else none) else (bif Nat.beq k 2 then some 81 else none)))) else fun _ => none)) else (bif Nat.blt q 86 then (bif Nat.beq q 82 then (fun k => (bif Nat.blt k 1 then (bif Nat.beq k 0 then some 83 else none) else (bif Nat.blt k 2 then (bif Nat.beq k 1 then some 84 else none) else (bif Nat.beq k 2 then some 85 else none)))) else fun _ => none) else (bif Nat.beq q 86 then (fun k => (bif Nat.blt k 1 then (bif Nat.beq k 0 then some 87 else none) else (bif Nat.blt k 2 then (bif Nat.beq k 1 then some 88 else none) else (bif Nat.beq k 2 then some 89 else none)))) else fun _ => none)))) else (bif Nat.blt q 103 then (bif Nat.blt q 98 then (bif Nat.blt q 94 then (bif Nat.beq q 90 then (fun k => (bif Nat.blt k 1 then (bif Nat.beq k 0 then some 91 else none) else (bif Nat.blt k 2 then (bif Nat.beq k 1 then some 92 else none) else (bif Nat.beq k 2 then some 93 else none)))) else fun _ => none) else (bif Nat.beq q 94 then (fun k => (bif Nat.blt k 1 then (bif Nat.beq k 0 then some 95 else none) else (bif Nat.blt k 2 then (bif Nat.beq k 1 then some 96 else none) else (bif Nat.beq k 2 then some 97 else none)))) else fun _ => none)) else (bif Nat.blt q 102 then (bif Nat.beq q 98 then (fun k => (bif Nat.blt k 1 then (bif Nat.beq k 0 then some 99 else none) else (bif Nat.blt k 2 then (bif Nat.beq k 1 then some 100 else none) else (bif Nat.beq k 2 then some 101 else none)))) else fun _ => none) else (bif Nat.beq q 102 then (fun k => bif Nat.blt k 2 then some (103 + 4 * k) else none) else fun _ => none))) else (bif Nat.blt q 112 then (bif Nat.blt q 107 then (bif Nat.beq q 103 then (fun k => (bif Nat.blt k 1 then (bif Nat.beq k 0 then some 104 else none) else (bif Nat.blt k 2 then (bif Nat.beq k 1 then some 105 else none) else (bif Nat.beq k 2 then some 106 else none)))) else fun _ => none) else (bif Nat.beq q 107 then (fun k => (bif Nat.blt k 1 then (bif Nat.beq k 0 then some 108 else none) else (bif Nat.blt k 2 then (bif Nat.beq k 1 then some 109 else none) else (bif Nat.beq k 2 then some 110 else none)))) else fun _ => none)) else (bif Nat.blt q 116 then (bif Nat.beq q 112 then (fun k => (bif Nat.blt k 2 then (bif Nat.beq k 1 then some 113 else none) else (bif Nat.blt k 3 then (bif Nat.beq k 2 then some 114 else none) else (bif Nat.beq k 3 then some 115 else none)))) else fun _ => none) else (bif Nat.beq q 116 then (fun k => (bif Nat.blt k 15 then (bif Nat.blt k 8 then (bif Nat.blt k 6 then (bif Nat.blt k 5 then (bif Nat.beq k 1 then some 117 else none) else (bif Nat.beq k 5 then some 118 else none)) else (bif Nat.blt k 7 then (bif Nat.beq k 6 then some 119 else none) else (bif Nat.beq k 7 then some 120 else none))) else (bif Nat.blt k 11 then (bif Nat.blt k 9 then (bif Nat.beq k 8 then some 121 else none) else (bif Nat.beq k 9 then some 122 else none)) else (bif Nat.blt k 12 then (bif Nat.beq k 11 then some 123 else none) else (bif Nat.blt k 14 then (bif Nat.beq k 12 then some 124 else none) else (bif Nat.beq k 14 then some 125 else none))))) else (bif Nat.blt k 21 then (bif Nat.blt k 18 then (bif Nat.blt k 16 then (bif Nat.beq k 15 then some 126 else none) else (bif Nat.beq k 16 then some 127 else none)) else (bif Nat.blt k 19 then (bif Nat.beq k 18 then some 128 else none) else (bif Nat.blt k 20 then (bif Nat.beq k 19 then some 129 else none) else (bif Nat.beq k 20 then some 130 else none)))) else (bif Nat.blt k 23 then (bif Nat.blt k 22 then (bif Nat.beq k 21 then some 131 else none) else (bif Nat.beq k 22 then some 132 else none)) else (bif Nat.blt k 27 then (bif Nat.beq k 23 then some 133 else none) else (bif Nat.blt k 28 then (bif Nat.beq k 27 then some 134 else none) else (bif Nat.beq k 28 then some 135 else none))))))) else fun _ => none))))))
def zS0 : zv_S := (136, 5923, zk_kd, zk_rf)
def zt_X7_costOf : List (Nat × List zv_E) := [
  (6, [(0, .iload_n 1, 1, (1, 0, 0, 0, 0, [])), (1, .iconst 5, 1, (0, 0, 0, 5, 0, [])), (2, .imul, 1, (0, 0, 0, 0, 0, [])), (3, .iload_n 2, 1, (2, 0, 0, 0, 0, [])), (4, .iadd, 1, (0, 0, 0, 0, 0, [])), (5, .istore_n 3, 1, (3, 0, 0, 0, 0, []))]),
  (17, [(6, .iload_n 3, 1, (3, 0, 0, 0, 0, [])), (7, .ifCond .lt 18, 3, (25, 0, 0, 0, 0, [])), (10, .iload_n 3, 1, (3, 0, 0, 0, 0, [])), (11, .bipush 25, 2, (0, 0, 0, 25, 0, [])), (13, .if_icmp .ge 12, 3, (25, 0, 0, 0, 0, [])), (16, .aload_n 0, 1, (0, 0, 0, 0, 0, []))]),
  (27, [(17, .getfield 9, 3, (7, 0, 2, 0, 0, [])), (20, .iload_n 3, 1, (3, 0, 0, 0, 0, [])), (21, .iaload, 1, (0, 0, 0, 0, 0, [])), (22, .goto 4, 3, (26, 0, 0, 0, 0, [])), (25, .iconst 0, 1, (0, 0, 0, 0, 0, [])), (26, .ireturn, 1, (0, 0, 0, 0, 0, []))])]
theorem zd_X7_costOf (ca : zv_Ca) (g : Nat → Nat → Int32) (h : Nat → Nat → Int64) (a1 : Int32) (a2 : Int32) : zv_m zt_X7_costOf ca false 0 [some (.ref 17), some (.int a1), some (.int a2), none] [] zS0 (g, h) = (if ((a1 * 5) + a2) < 0 then some ((0, 0, 0), zS0, (g, h)) else (if 25 ≤ ((a1 * 5) + a2) then some ((0, 0, 0), zS0, (g, h)) else (bif zv_in ((a1 * 5) + a2) 25 then some ((g 18 ((a1 * 5) + a2).toNatClampNeg, 0, 0), zS0, (g, h)) else none))) := (zv_mn _ _ _ [] 18 _ _ _ _ _).trans rfl
def zt_X6_measure : List (Nat × List zv_E) := [
  (17, [(0, .iconst 0, 1, (0, 0, 0, 0, 0, [])), (1, .istore_n 1, 1, (1, 0, 0, 0, 0, [])), (2, .iload_n 1, 1, (1, 0, 0, 0, 0, [])), (3, .bipush 25, 2, (0, 0, 0, 25, 0, [])), (5, .if_icmp .ge 57, 3, (62, 0, 0, 0, 0, [])), (8, .aload_n 0, 1, (0, 0, 0, 0, 0, [])), (9, .getfield 12, 3, (6, 1, 2, 0, 0, [])), (12, .getfield 61, 3, (7, 0, 2, 0, 0, [])), (15, .iload_n 1, 1, (1, 0, 0, 0, 0, [])), (16, .iaload, 1, (0, 0, 0, 0, 0, []))]),
  (37, [(17, .ifCond .le 15, 3, (32, 0, 0, 0, 0, [])), (20, .aload_n 0, 1, (0, 0, 0, 0, 0, [])), (21, .getfield 12, 3, (6, 1, 2, 0, 0, [])), (24, .getfield 61, 3, (7, 0, 2, 0, 0, [])), (27, .iload_n 1, 1, (1, 0, 0, 0, 0, [])), (28, .iaload, 1, (0, 0, 0, 0, 0, [])), (29, .goto 6, 3, (35, 0, 0, 0, 0, [])), (32, .sipush 1000, 3, (0, 0, 0, 1000, 0, [])), (35, .istore_n 2, 1, (2, 0, 0, 0, 0, [])), (36, .aload_n 0, 1, (0, 0, 0, 0, 0, []))]),
  (51, [(37, .getfield 22, 3, (6, 4, 2, 0, 0, [])), (40, .iload_n 1, 1, (1, 0, 0, 0, 0, [])), (41, .iload_n 1, 1, (1, 0, 0, 0, 0, [])), (42, .iconst 5, 1, (0, 0, 0, 5, 0, [])), (43, .idiv, 1, (0, 0, 0, 0, 0, [])), (44, .iload_n 1, 1, (1, 0, 0, 0, 0, [])), (45, .iconst 5, 1, (0, 0, 0, 5, 0, [])), (46, .irem, 1, (0, 0, 0, 0, 0, [])), (47, .if_icmp .ne 7, 3, (54, 0, 0, 0, 0, [])), (50, .iconst 0, 1, (0, 0, 0, 0, 0, []))]),
  (67, [(51, .goto 4, 3, (55, 0, 0, 0, 0, [])), (54, .iload_n 2, 1, (2, 0, 0, 0, 0, [])), (55, .iastore, 1, (0, 0, 0, 0, 0, [])), (56, .iinc 1 1, 3, (1, 0, 0, 1, 0, [])), (59, .goto (-57), 3, (2, 0, 0, 0, 0, [])), (62, .iconst 0, 1, (0, 0, 0, 0, 0, [])), (63, .istore_n 1, 1, (1, 0, 0, 0, 0, [])), (64, .iload_n 1, 1, (1, 0, 0, 0, 0, [])), (65, .iconst 5, 1, (0, 0, 0, 5, 0, [])), (66, .if_icmp .ge 90, 3, (156, 0, 0, 0, 0, []))]),
  (83, [(69, .iconst 0, 1, (0, 0, 0, 0, 0, [])), (70, .istore_n 2, 1, (2, 0, 0, 0, 0, [])), (71, .iload_n 2, 1, (2, 0, 0, 0, 0, [])), (72, .iconst 5, 1, (0, 0, 0, 5, 0, [])), (73, .if_icmp .ge 77, 3, (150, 0, 0, 0, 0, [])), (76, .aload_n 0, 1, (0, 0, 0, 0, 0, [])), (77, .getfield 22, 3, (6, 4, 2, 0, 0, [])), (80, .iload_n 2, 1, (2, 0, 0, 0, 0, [])), (81, .iconst 5, 1, (0, 0, 0, 5, 0, [])), (82, .imul, 1, (0, 0, 0, 0, 0, []))]),
  (97, [(83, .iload_n 1, 1, (1, 0, 0, 0, 0, [])), (84, .iadd, 1, (0, 0, 0, 0, 0, [])), (85, .iaload, 1, (0, 0, 0, 0, 0, [])), (86, .istore_n 3, 1, (3, 0, 0, 0, 0, [])), (87, .iconst 0, 1, (0, 0, 0, 0, 0, [])), (88, .istore 4, 2, (4, 0, 0, 0, 0, [])), (90, .iload 4, 2, (4, 0, 0, 0, 0, [])), (92, .iconst 5, 1, (0, 0, 0, 5, 0, [])), (93, .if_icmp .ge 51, 3, (144, 0, 0, 0, 0, [])), (96, .iload_n 3, 1, (3, 0, 0, 0, 0, []))]),
  (110, [(97, .aload_n 0, 1, (0, 0, 0, 0, 0, [])), (98, .getfield 22, 3, (6, 4, 2, 0, 0, [])), (101, .iload_n 1, 1, (1, 0, 0, 0, 0, [])), (102, .iconst 5, 1, (0, 0, 0, 5, 0, [])), (103, .imul, 1, (0, 0, 0, 0, 0, [])), (104, .iload 4, 2, (4, 0, 0, 0, 0, [])), (106, .iadd, 1, (0, 0, 0, 0, 0, [])), (107, .iaload, 1, (0, 0, 0, 0, 0, [])), (108, .iadd, 1, (0, 0, 0, 0, 0, [])), (109, .istore 5, 2, (5, 0, 0, 0, 0, []))]),
  (126, [(111, .iload_n 2, 1, (2, 0, 0, 0, 0, [])), (112, .iconst 5, 1, (0, 0, 0, 5, 0, [])), (113, .imul, 1, (0, 0, 0, 0, 0, [])), (114, .iload 4, 2, (4, 0, 0, 0, 0, [])), (116, .iadd, 1, (0, 0, 0, 0, 0, [])), (117, .istore 6, 2, (6, 0, 0, 0, 0, [])), (119, .aload_n 0, 1, (0, 0, 0, 0, 0, [])), (120, .getfield 22, 3, (6, 4, 2, 0, 0, [])), (123, .iload 6, 2, (6, 0, 0, 0, 0, [])), (125, .aload_n 0, 1, (0, 0, 0, 0, 0, []))]),
  (148, [(126, .getfield 22, 3, (6, 4, 2, 0, 0, [])), (129, .iload 6, 2, (6, 0, 0, 0, 0, [])), (131, .iaload, 1, (0, 0, 0, 0, 0, [])), (132, .iload 5, 2, (5, 0, 0, 0, 0, [])), (134, .invokestatic 77, 3, (3, 2, 1, 0, 0, [])), (137, .iastore, 1, (0, 0, 0, 0, 0, [])), (138, .iinc 4 1, 3, (4, 0, 0, 1, 0, [])), (141, .goto (-51), 3, (90, 0, 0, 0, 0, [])), (144, .iinc 2 1, 3, (2, 0, 0, 1, 0, [])), (147, .goto (-76), 3, (71, 0, 0, 0, 0, []))]),
  (161, [(150, .iinc 1 1, 3, (1, 0, 0, 1, 0, [])), (153, .goto (-89), 3, (64, 0, 0, 0, 0, [])), (156, .aload_n 0, 1, (0, 0, 0, 0, 0, [])), (157, .invokevirtual 83, 3, (57, 1, 0, 0, 0, [])), (160, .return_, 1, (0, 0, 0, 0, 0, []))])]
theorem zd_X6_measure (ca : zv_Ca) (g : Nat → Nat → Int32) (h : Nat → Nat → Int64) : zv_m zt_X6_measure ca false 0 [some (.ref 16), none, none, none, none, none, none] [] zS0 (g, h) = zv_m zt_X6_measure ca false 2 [some (.ref 16), some (.int 0), none, none, none, none, none] [] zS0 (g, h) := (zv_mn _ _ _ [2, 64, 71, 90] 4 _ _ _ _ _).trans rfl
theorem zd_X6_measure_2 (ca : zv_Ca) (g : Nat → Nat → Int32) (h : Nat → Nat → Int64) (x1 : Int32) (u2 : Option Value) (u3 : Option Value) (u4 : Option Value) (u5 : Option Value) (u6 : Option Value) : zv_m zt_X6_measure ca false 2 [some (.ref 16), some (.int x1), u2, u3, u4, u5, u6] [] zS0 (g, h) = (if 25 ≤ x1 then zv_m zt_X6_measure ca false 64 [some (.ref 16), some (.int 0), u2, u3, u4, u5, u6] [] zS0 (g, h) else (bif zv_in x1 25 then (if (g 18 x1.toNatClampNeg) ≤ 0 then (if (x1 / 5) = (x1 - x1 / 5 * 5) then (bif zv_in x1 25 then zv_m zt_X6_measure ca false 2 [some (.ref 16), some (.int (x1 + 1)), some (.int 1000), u3, u4, u5, u6] [] zS0 ((zv_w g 22 x1.toNatClampNeg 0), h) else none) else (bif zv_in x1 25 then zv_m zt_X6_measure ca false 2 [some (.ref 16), some (.int (x1 + 1)), some (.int 1000), u3, u4, u5, u6] [] zS0 ((zv_w g 22 x1.toNatClampNeg 1000), h) else none)) else (bif zv_in x1 25 then (if (x1 / 5) = (x1 - x1 / 5 * 5) then (bif zv_in x1 25 then zv_m zt_X6_measure ca false 2 [some (.ref 16), some (.int (x1 + 1)), some (.int (g 18 x1.toNatClampNeg)), u3, u4, u5, u6] [] zS0 ((zv_w g 22 x1.toNatClampNeg 0), h) else none) else (bif zv_in x1 25 then zv_m zt_X6_measure ca false 2 [some (.ref 16), some (.int (x1 + 1)), some (.int (g 18 x1.toNatClampNeg)), u3, u4, u5, u6] [] zS0 ((zv_w g 22 x1.toNatClampNeg (g 18 x1.toNatClampNeg)), h) else none)) else none)) else none)) := (zv_mn _ _ _ [2, 64, 71, 90] 33 _ _ _ _ _).trans rfl
theorem zd_X6_measure_64 (ca : zv_Ca) (g : Nat → Nat → Int32) (h : Nat → Nat → Int64) (x1 : Int32) (u2 : Option Value) (u3 : Option Value) (u4 : Option Value) (u5 : Option Value) (u6 : Option Value) : zv_m zt_X6_measure ca false 64 [some (.ref 16), some (.int x1), u2, u3, u4, u5, u6] [] zS0 (g, h) = (if 5 ≤ x1 then ((ca 57 [.ref 16] zS0 (g, h)).bind fun p2 => some ((0, 0, 0), zS0, p2.2)) else zv_m zt_X6_measure ca false 71 [some (.ref 16), some (.int x1), some (.int 0), u3, u4, u5, u6] [] zS0 (g, h)) := (zv_mn _ _ _ [2, 64, 71, 90] 7 _ _ _ _ _).trans rfl
theorem zd_X6_measure_71 (ca : zv_Ca) (g : Nat → Nat → Int32) (h : Nat → Nat → Int64) (x1 : Int32) (x2 : Int32) (u3 : Option Value) (u4 : Option Value) (u5 : Option Value) (u6 : Option Value) : zv_m zt_X6_measure ca false 71 [some (.ref 16), some (.int x1), some (.int x2), u3, u4, u5, u6] [] zS0 (g, h) = (if 5 ≤ x2 then zv_m zt_X6_measure ca false 64 [some (.ref 16), some (.int (x1 + 1)), some (.int x2), u3, u4, u5, u6] [] zS0 (g, h) else (bif zv_in ((x2 * 5) + x1) 25 then zv_m zt_X6_measure ca false 90 [some (.ref 16), some (.int x1), some (.int x2), some (.int (g 22 ((x2 * 5) + x1).toNatClampNeg)), some (.int 0), u5, u6] [] zS0 (g, h) else none)) := (zv_mn _ _ _ [2, 64, 71, 90] 16 _ _ _ _ _).trans rfl
theorem zd_X6_measure_90 (ca : zv_Ca) (g : Nat → Nat → Int32) (h : Nat → Nat → Int64) (x1 : Int32) (x2 : Int32) (x3 : Int32) (x4 : Int32) (u5 : Option Value) (u6 : Option Value) : zv_m zt_X6_measure ca false 90 [some (.ref 16), some (.int x1), some (.int x2), some (.int x3), some (.int x4), u5, u6] [] zS0 (g, h) = (if 5 ≤ x4 then zv_m zt_X6_measure ca false 71 [some (.ref 16), some (.int x1), some (.int (x2 + 1)), some (.int x3), some (.int x4), u5, u6] [] zS0 (g, h) else (bif zv_in ((x1 * 5) + x4) 25 then (bif zv_in ((x2 * 5) + x4) 25 then ((ca 3 [.int (g 22 ((x2 * 5) + x4).toNatClampNeg), .int (x3 + (g 22 ((x1 * 5) + x4).toNatClampNeg))] zS0 (g, h)).bind fun p2 => (bif zv_in ((x2 * 5) + x4) 25 then zv_m zt_X6_measure ca false 90 [some (.ref 16), some (.int x1), some (.int x2), some (.int x3), some (.int (x4 + 1)), some (.int (x3 + (g 22 ((x1 * 5) + x4).toNatClampNeg))), some (.int ((x2 * 5) + x4))] [] zS0 ((zv_w p2.2.1 22 ((x2 * 5) + x4).toNatClampNeg p2.1.1), p2.2.2) else none)) else none) else none)) := (zv_mn _ _ _ [2, 64, 71, 90] 34 _ _ _ _ _).trans rfl
def zt_X6_pick : List (Nat × List zv_E) := [
  (8, [(0, .iload_n 1, 1, (1, 0, 0, 0, 0, [])), (1, .bipush 16, 2, (0, 0, 0, 16, 0, [])), (3, .imul, 1, (0, 0, 0, 0, 0, [])), (4, .iload_n 2, 1, (2, 0, 0, 0, 0, [])), (5, .iadd, 1, (0, 0, 0, 0, 0, [])), (6, .istore_n 3, 1, (3, 0, 0, 0, 0, [])), (7, .iload_n 1, 1, (1, 0, 0, 0, 0, []))]),
  (21, [(8, .ifCond .lt 21, 3, (29, 0, 0, 0, 0, [])), (11, .iload_n 1, 1, (1, 0, 0, 0, 0, [])), (12, .iconst 5, 1, (0, 0, 0, 5, 0, [])), (13, .if_icmp .ge 16, 3, (29, 0, 0, 0, 0, [])), (16, .iload_n 3, 1, (3, 0, 0, 0, 0, [])), (17, .ifCond .lt 12, 3, (29, 0, 0, 0, 0, [])), (20, .iload_n 3, 1, (3, 0, 0, 0, 0, []))]),
  (32, [(21, .aload_n 0, 1, (0, 0, 0, 0, 0, [])), (22, .getfield 25, 3, (6, 5, 2, 0, 0, [])), (25, .arraylength, 1, (0, 0, 0, 0, 0, [])), (26, .if_icmp .lt 5, 3, (31, 0, 0, 0, 0, [])), (29, .iconst (-1), 1, (0, 0, 0, (-1), 0, [])), (30, .ireturn, 1, (0, 0, 0, 0, 0, [])), (31, .aload_n 0, 1, (0, 0, 0, 0, 0, []))]),
  (44, [(32, .getfield 25, 3, (6, 5, 2, 0, 0, [])), (35, .iload_n 3, 1, (3, 0, 0, 0, 0, [])), (36, .iaload, 1, (0, 0, 0, 0, 0, [])), (37, .bipush (-2), 2, (0, 0, 0, (-2), 0, [])), (39, .if_icmp .ne 15, 3, (54, 0, 0, 0, 0, [])), (42, .aload_n 0, 1, (0, 0, 0, 0, 0, [])), (43, .getfield 25, 3, (6, 5, 2, 0, 0, []))]),
  (55, [(46, .iload_n 3, 1, (3, 0, 0, 0, 0, [])), (47, .aload_n 0, 1, (0, 0, 0, 0, 0, [])), (48, .iload_n 1, 1, (1, 0, 0, 0, 0, [])), (49, .iload_n 2, 1, (2, 0, 0, 0, 0, [])), (50, .invokevirtual 142, 3, (65, 3, 1, 0, 0, [])), (53, .iastore, 1, (0, 0, 0, 0, 0, [])), (54, .aload_n 0, 1, (0, 0, 0, 0, 0, []))]),
  (61, [(55, .getfield 25, 3, (6, 5, 2, 0, 0, [])), (58, .iload_n 3, 1, (3, 0, 0, 0, 0, [])), (59, .iaload, 1, (0, 0, 0, 0, 0, [])), (60, .ireturn, 1, (0, 0, 0, 0, 0, []))])]
theorem zd_X6_pick (ca : zv_Ca) (g : Nat → Nat → Int32) (h : Nat → Nat → Int64) (a1 : Int32) (a2 : Int32) : zv_m zt_X6_pick ca false 0 [some (.ref 16), some (.int a1), some (.int a2), none] [] zS0 (g, h) = (if a1 < 0 then some (((-1), 0, 0), zS0, (g, h)) else (if 5 ≤ a1 then some (((-1), 0, 0), zS0, (g, h)) else (if ((a1 * 16) + a2) < 0 then some (((-1), 0, 0), zS0, (g, h)) else (if ((a1 * 16) + a2) < (Int32.ofNat 80) then (bif zv_in ((a1 * 16) + a2) 80 then (if (g 23 ((a1 * 16) + a2).toNatClampNeg) = (-2) then ((ca 65 [.ref 16, .int a1, .int a2] zS0 (g, h)).bind fun p6 => (bif zv_in ((a1 * 16) + a2) 80 then (bif zv_in ((a1 * 16) + a2) 80 then some (((zv_w p6.2.1 23 ((a1 * 16) + a2).toNatClampNeg p6.1.1) 23 ((a1 * 16) + a2).toNatClampNeg, 0, 0), zS0, ((zv_w p6.2.1 23 ((a1 * 16) + a2).toNatClampNeg p6.1.1), p6.2.2)) else none) else none)) else (bif zv_in ((a1 * 16) + a2) 80 then some ((g 23 ((a1 * 16) + a2).toNatClampNeg, 0, 0), zS0, (g, h)) else none)) else none) else some (((-1), 0, 0), zS0, (g, h)))))) := (zv_mn _ _ _ [] 38 _ _ _ _ _).trans rfl
def zt_X6_decide : List (Nat × List zv_E) := [
  (10, [(0, .aload_n 0, 1, (0, 0, 0, 0, 0, [])), (1, .iload_n 1, 1, (1, 0, 0, 0, 0, [])), (2, .invokevirtual 111, 3, (62, 2, 1, 0, 0, [])), (5, .istore_n 2, 1, (2, 0, 0, 0, 0, [])), (6, .aload_n 0, 1, (0, 0, 0, 0, 0, [])), (7, .iload_n 1, 1, (1, 0, 0, 0, 0, [])), (8, .iload_n 2, 1, (2, 0, 0, 0, 0, [])), (9, .invokevirtual 114, 3, (64, 3, 1, 0, 0, []))]),
  (24, [(12, .istore_n 3, 1, (3, 0, 0, 0, 0, [])), (13, .iload_n 3, 1, (3, 0, 0, 0, 0, [])), (14, .ifCond .lt 8, 3, (22, 0, 0, 0, 0, [])), (17, .iload_n 3, 1, (3, 0, 0, 0, 0, [])), (18, .iconst 4, 1, (0, 0, 0, 4, 0, [])), (19, .if_icmp .lt 5, 3, (24, 0, 0, 0, 0, [])), (22, .iconst 0, 1, (0, 0, 0, 0, 0, [])), (23, .ireturn, 1, (0, 0, 0, 0, 0, []))]),
  (37, [(24, .aload_n 0, 1, (0, 0, 0, 0, 0, [])), (25, .getfield 31, 3, (6, 7, 2, 0, 0, [])), (28, .iload_n 3, 1, (3, 0, 0, 0, 0, [])), (29, .iaload, 1, (0, 0, 0, 0, 0, [])), (30, .istore 4, 2, (4, 0, 0, 0, 0, [])), (32, .aload_n 0, 1, (0, 0, 0, 0, 0, [])), (33, .getfield 12, 3, (6, 1, 2, 0, 0, [])), (36, .getfield 117, 3, (7, 4, 0, 0, 0, []))]),
  (49, [(39, .iload_n 1, 1, (1, 0, 0, 0, 0, [])), (40, .ishr, 1, (0, 0, 0, 0, 0, [])), (41, .iconst 1, 1, (0, 0, 0, 1, 0, [])), (42, .iand, 1, (0, 0, 0, 0, 0, [])), (43, .iconst 1, 1, (0, 0, 0, 1, 0, [])), (44, .if_icmp .ne 47, 3, (91, 0, 0, 0, 0, [])), (47, .aload_n 0, 1, (0, 0, 0, 0, 0, [])), (48, .iload_n 1, 1, (1, 0, 0, 0, 0, []))]),
  (57, [(49, .iload_n 2, 1, (2, 0, 0, 0, 0, [])), (50, .iconst 1, 1, (0, 0, 0, 1, 0, [])), (51, .iload_n 3, 1, (3, 0, 0, 0, 0, [])), (52, .ishl, 1, (0, 0, 0, 0, 0, [])), (53, .iconst (-1), 1, (0, 0, 0, (-1), 0, [])), (54, .ixor, 1, (0, 0, 0, 0, 0, [])), (55, .iand, 1, (0, 0, 0, 0, 0, [])), (56, .invokevirtual 114, 3, (64, 3, 1, 0, 0, []))]),
  (75, [(59, .istore 5, 2, (5, 0, 0, 0, 0, [])), (61, .iload 4, 2, (4, 0, 0, 0, 0, [])), (63, .iload 5, 2, (5, 0, 0, 0, 0, [])), (65, .ifCond .lt 22, 3, (87, 0, 0, 0, 0, [])), (68, .iload 5, 2, (5, 0, 0, 0, 0, [])), (70, .iconst 4, 1, (0, 0, 0, 4, 0, [])), (71, .if_icmp .ge 16, 3, (87, 0, 0, 0, 0, [])), (74, .aload_n 0, 1, (0, 0, 0, 0, 0, []))]),
  (89, [(75, .getfield 31, 3, (6, 7, 2, 0, 0, [])), (78, .iload 5, 2, (5, 0, 0, 0, 0, [])), (80, .iaload, 1, (0, 0, 0, 0, 0, [])), (81, .bipush 11, 2, (0, 0, 0, 11, 0, [])), (83, .ishl, 1, (0, 0, 0, 0, 0, [])), (84, .goto 4, 3, (88, 0, 0, 0, 0, [])), (87, .iconst 0, 1, (0, 0, 0, 0, 0, [])), (88, .ior, 1, (0, 0, 0, 0, 0, []))]),
  (94, [(89, .istore 4, 2, (4, 0, 0, 0, 0, [])), (91, .iload 4, 2, (4, 0, 0, 0, 0, [])), (93, .ireturn, 1, (0, 0, 0, 0, 0, []))])]
theorem zd_X6_decide (ca : zv_Ca) (g : Nat → Nat → Int32) (h : Nat → Nat → Int64) (a1 : Int32) : zv_m zt_X6_decide ca false 0 [some (.ref 16), some (.int a1), none, none, none, none] [] zS0 (g, h) = ((ca 62 [.ref 16, .int a1] zS0 (g, h)).bind fun p1 => ((ca 64 [.ref 16, .int a1, .int p1.1.1] zS0 p1.2).bind fun p2 => (if p2.1.1 < 0 then some ((0, 0, 0), zS0, p2.2) else (if p2.1.1 < 4 then (bif zv_in p2.1.1 4 then (if (((p2.2.1 17 4) >>> (a1 &&& 31)) &&& 1) = 1 then ((ca 64 [.ref 16, .int a1, .int (p1.1.1 &&& ((1 <<< (p2.1.1 &&& 31)) ^^^ (-1)))] zS0 p2.2).bind fun p6 => (if p6.1.1 < 0 then some (((p2.2.1 25 p2.1.1.toNatClampNeg) ||| 0, 0, 0), zS0, p6.2) else (if 4 ≤ p6.1.1 then some (((p2.2.1 25 p2.1.1.toNatClampNeg) ||| 0, 0, 0), zS0, p6.2) else (bif zv_in p6.1.1 4 then some (((p2.2.1 25 p2.1.1.toNatClampNeg) ||| ((p6.2.1 25 p6.1.1.toNatClampNeg) <<< (11 &&& 31)), 0, 0), zS0, p6.2) else none)))) else some ((p2.2.1 25 p2.1.1.toNatClampNeg, 0, 0), zS0, p2.2)) else none) else some ((0, 0, 0), zS0, p2.2))))) := (zv_mn _ _ _ [] 57 _ _ _ _ _).trans rfl
end
