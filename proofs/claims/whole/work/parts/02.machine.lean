/-! ===== a small machine: the kit's instructions over a memory of functions; references are numbers of cells ===== -/
/-- the shape: how many cells; slots used; kind and length of each; what its references are -/
abbrev zv_S : Type := Nat × Nat × (Nat → Nat × Nat) × (Nat → Nat → Option Nat)
/-- what cells hold: ints, longs -/
abbrev zv_D : Type := (Nat → Nat → Int32) × (Nat → Nat → Int64)
/-- an answer: an int, a long, a cell -/
abbrev zv_R : Type := Int32 × Int64 × Nat
abbrev zv_O : Type := zv_R × zv_S × zv_D
/-- what a table says beside an instruction: three numbers, an int, a long, the cases of a switch -/
abbrev zv_X : Type := Nat × Nat × Nat × Int32 × Int64 × List (Int32 × Nat)
abbrev zv_E : Type := Nat × Instr × Nat × zv_X
abbrev zv_L : Type := List (Option Value)
abbrev zv_K : Type := Nat → zv_L → List Value → zv_S → zv_D → Option zv_O
/-- a method as the machine calls it: by its number -/
abbrev zv_Ca : Type := Nat → List Value → zv_S → zv_D → Option (zv_R × zv_D)
abbrev zv_Ci : Type := Nat → List Value → zv_S → zv_D → Option zv_O
def zv_w (g : Nat → Nat → Int32) (c i : Nat) (v : Int32) : Nat → Nat → Int32 := fun c' => if c' = c then upd (g c) i v else g c'
def zv_wl (g : Nat → Nat → Int64) (c i : Nat) (v : Int64) : Nat → Nat → Int64 := fun c' => if c' = c then vp_updL (g c) i v else g c'
def zv_cp (g : Nat → Nat → Int32) (a0 a sp dp n : Nat) : Nat → Nat → Int32 := fun c' => if c' = a then va_cpy (g a0) (g a) sp dp n else g c'
def zv_in (i : Int32) (n : Nat) : Bool := !(decide (i < 0)) && Nat.blt i.toNatClampNeg n
def zv_bk (v : Int32) : Bool := decide (v = 0) || decide (v = 1)
def zv_at : List (Option Value) → Nat → Option Value
  | [], _ => none
  | o :: _, 0 => o
  | _ :: t, n + 1 => zv_at t n
/-- a long stands ahead of a null, which is its second half -/
def zv_s1 (lv : zv_L) (i : Nat) (v : Value) : zv_L := lv.set i (some v)
def zv_s2 (lv : zv_L) (i : Nat) (v : Value) : zv_L := (lv.set i (some v)).set (i + 1) (some .null)
def zv_en : List Value → Nat → zv_L
  | [], n => List.replicate n none
  | v :: t, n => match v with
    | .long x => some (.long x) :: some .null :: zv_en t (n - 2)
    | .double x => some (.double x) :: some .null :: zv_en t (n - 2)
    | w => some w :: zv_en t (n - 1)
abbrev zv_ri (v : Int32) (S : zv_S) (D : zv_D) : Option zv_O := some ((v, 0, 0), S, D)
abbrev zv_rl (v : Int64) (S : zv_S) (D : zv_D) : Option zv_O := some ((0, v, 0), S, D)
abbrev zv_ra (v : Nat) (S : zv_S) (D : zv_D) : Option zv_O := some ((0, 0, v), S, D)
abbrev zv_rv (S : zv_S) (D : zv_D) : Option zv_O := some ((0, 0, 0), S, D)
def zv_sw : List (Int32 × Nat) → Int32 → Nat → (Nat → Option zv_O) → Option zv_O
  | [], _, d, k => k d
  | (v, t) :: r, x, d, k => if x = v then k t else zv_sw r x d k
def zv_fa : Nat → Int32
  | 0 => 1
  | 1 => 1
  | 2 => 2
  | 3 => 6
  | _ => 24
def zv_un : Nat → Int64
  | 0 => 1
  | 1 => 10000
  | 2 => 100000000
  | 3 => 1000000000000
  | _ => 10000000000000000
def zv_cs : List Value → Nat
  | [] => 0
  | v :: t => v.category + zv_cs t
def zv_mem : List Nat → Nat → Bool
  | [], _ => false
  | a :: t, n => bif Nat.beq a n then true else zv_mem t n
/-- two ints above -/
def zv_i2 (st : List Value) (f : Int32 → Int32 → List Value → Option zv_O) : Option zv_O := match st with
  | .int y :: .int x :: r => f x y r
  | _ => none
def zv_l2 (st : List Value) (f : Int64 → Int64 → List Value → Option zv_O) : Option zv_O := match st with
  | .long y :: .long x :: r => f x y r
  | _ => none
def zv_i1 (st : List Value) (f : Int32 → List Value → Option zv_O) : Option zv_O := match st with
  | .int x :: r => f x r
  | _ => none
def zv_l1 (st : List Value) (f : Int64 → List Value → Option zv_O) : Option zv_O := match st with
  | .long x :: r => f x r
  | _ => none
def zv_a1 (st : List Value) (f : Nat → List Value → Option zv_O) : Option zv_O := match st with
  | .ref x :: r => f x r
  | _ => none
def zv_dp (st : List Value) (f : List Value → Option zv_O) : Option zv_O := match st with
  | .int a :: r => f (.int a :: .int a :: r)
  | .ref a :: r => f (.ref a :: .ref a :: r)
  | _ => none
/-- an index and an array above -/
def zv_ia (st : List Value) (f : Int32 → Nat → List Value → Option zv_O) : Option zv_O := match st with
  | .int i :: .ref a :: r => f i a r
  | _ => none
/-- a value, an index and an array above -/
def zv_via (st : List Value) (f : Int32 → Int32 → Nat → List Value → Option zv_O) : Option zv_O := match st with
  | .int v :: .int i :: .ref a :: r => f v i a r
  | _ => none
def zv_li (o : Option Value) (f : Int32 → Option zv_O) : Option zv_O := match o with
  | some (.int v) => f v
  | _ => none
def zv_ll (o o2 : Option Value) (f : Int64 → Option zv_O) : Option zv_O := match o with
  | some (.long v) => (match o2 with
    | some .null => f v
    | _ => none)
  | _ => none
def zv_la (o : Option Value) (f : Nat → Option zv_O) : Option zv_O := match o with
  | some (.ref v) => f v
  | _ => none
def zv_new (S : zv_S) (kd N : Nat) : zv_S := (S.1 + 1, S.2.1 + N, (fun c => if c = S.1 then (kd, N) else S.2.2.1 c), fun c => if c = S.1 then fun _ => none else S.2.2.2 c)
def zv_zer (S : zv_S) (D : zv_D) : zv_D := ((fun c => if c = S.1 then fun _ => 0 else D.1 c), fun c => if c = S.1 then fun _ => 0 else D.2 c)
def zv_rw (S : zv_S) (c i a : Nat) : zv_S := (S.1, S.2.1, S.2.2.1, fun c' => if c' = c then fun j => if j = i then some a else S.2.2.2 c j else S.2.2.2 c')
def zv_psh (k : Nat) (r : zv_R) (st : List Value) : List Value := match k with
  | 0 => st
  | 1 => .int r.1 :: st
  | 2 => .long r.2.1 :: st
  | _ => .ref r.2.2 :: st
def zv_cok (sp dp n : Int32) (n0 n1 : Nat) : Bool := !(decide (sp < 0)) && (!(decide (dp < 0)) && (!(decide (n < 0)) && (Nat.ble (sp.toNatClampNeg + n.toNatClampNeg) n0 && Nat.ble (dp.toNatClampNeg + n.toNatClampNeg) n1)))
/-- System.arraycopy over ints -/
def zv_acp (st : List Value) (S : zv_S) (D : zv_D) (f : List Value → zv_D → Option zv_O) : Option zv_O := match st with
  | .int n :: .int dp :: .ref a :: .int sp :: .ref a0 :: r => bif Nat.beq (S.2.2.1 a0).1 11 && (Nat.beq (S.2.2.1 a).1 11 && (Nat.ble (zv_cs r) 8 && zv_cok sp dp n (S.2.2.1 a0).2 (S.2.2.1 a).2)) then f r (zv_cp D.1 a0 a sp.toNatClampNeg dp.toNatClampNeg n.toNatClampNeg, D.2) else none
  | _ => none
def zv_s (al : Bool) (ca : zv_Ca) (ci : zv_Ci) (xs : Nat × (Nat → Int32)) (bo : Bool) (ins : Instr) (n : Nat) (x : zv_X) (pc : Nat) (lv : zv_L) (st : List Value) (S : zv_S) (D : zv_D) (k : zv_K) : Option zv_O :=
  match ins with
  | .iconst _ => k (pc + n) lv (.int x.2.2.2.1 :: st) S D
  | .bipush _ => k (pc + n) lv (.int x.2.2.2.1 :: st) S D
  | .sipush _ => k (pc + n) lv (.int x.2.2.2.1 :: st) S D
  | .ldc_w _ => k (pc + n) lv (.int x.2.2.2.1 :: st) S D
  | .lconst _ => k (pc + n) lv (.long x.2.2.2.2.1 :: st) S D
  | .ldc2_w _ => k (pc + n) lv (.long x.2.2.2.2.1 :: st) S D
  | .iload _ => zv_li (zv_at lv x.1) fun v => k (pc + n) lv (.int v :: st) S D
  | .iload_n _ => zv_li (zv_at lv x.1) fun v => k (pc + n) lv (.int v :: st) S D
  | .lload _ => zv_ll (zv_at lv x.1) (zv_at lv (x.1 + 1)) fun v => k (pc + n) lv (.long v :: st) S D
  | .lload_n _ => zv_ll (zv_at lv x.1) (zv_at lv (x.1 + 1)) fun v => k (pc + n) lv (.long v :: st) S D
  | .aload _ => zv_la (zv_at lv x.1) fun v => k (pc + n) lv (.ref v :: st) S D
  | .aload_n _ => zv_la (zv_at lv x.1) fun v => k (pc + n) lv (.ref v :: st) S D
  | .istore _ => zv_i1 st fun v r => k (pc + n) (zv_s1 lv x.1 (.int v)) r S D
  | .istore_n _ => zv_i1 st fun v r => k (pc + n) (zv_s1 lv x.1 (.int v)) r S D
  | .lstore _ => zv_l1 st fun v r => k (pc + n) (zv_s2 lv x.1 (.long v)) r S D
  | .lstore_n _ => zv_l1 st fun v r => k (pc + n) (zv_s2 lv x.1 (.long v)) r S D
  | .astore_n _ => zv_a1 st fun v r => k (pc + n) (zv_s1 lv x.1 (.ref v)) r S D
  | .iinc _ _ => zv_li (zv_at lv x.1) fun v => k (pc + n) (zv_s1 lv x.1 (.int (v + x.2.2.2.1))) st S D
  | .iadd => zv_i2 st fun a b r => k (pc + n) lv (.int (a + b) :: r) S D
  | .isub => zv_i2 st fun a b r => k (pc + n) lv (.int (a - b) :: r) S D
  | .imul => zv_i2 st fun a b r => k (pc + n) lv (.int (a * b) :: r) S D
  | .iand => zv_i2 st fun a b r => k (pc + n) lv (.int (a &&& b) :: r) S D
  | .ior => zv_i2 st fun a b r => k (pc + n) lv (.int (a ||| b) :: r) S D
  | .ixor => zv_i2 st fun a b r => k (pc + n) lv (.int (a ^^^ b) :: r) S D
  | .ishl => zv_i2 st fun a b r => k (pc + n) lv (.int (a <<< (b &&& 31)) :: r) S D
  | .ishr => zv_i2 st fun a b r => k (pc + n) lv (.int (a >>> (b &&& 31)) :: r) S D
  | .iushr => zv_i2 st fun a b r => k (pc + n) lv (.int (a.toUInt32 >>> (b.toUInt32 &&& Int32.toUInt32 31)).toInt32 :: r) S D
  | .idiv => zv_i2 st fun a b r => if b = 0 then none else k (pc + n) lv (.int (a / b) :: r) S D
  | .irem => zv_i2 st fun a b r => if b = 0 then none else k (pc + n) lv (.int (a - a / b * b) :: r) S D
  | .ineg => zv_i1 st fun a r => k (pc + n) lv (.int (-a) :: r) S D
  | .ladd => zv_l2 st fun a b r => k (pc + n) lv (.long (a + b) :: r) S D
  | .lsub => zv_l2 st fun a b r => k (pc + n) lv (.long (a - b) :: r) S D
  | .lmul => zv_l2 st fun a b r => k (pc + n) lv (.long (a * b) :: r) S D
  | .land => zv_l2 st fun a b r => k (pc + n) lv (.long (a &&& b) :: r) S D
  | .lor => zv_l2 st fun a b r => k (pc + n) lv (.long (a ||| b) :: r) S D
  | .ldiv => zv_l2 st fun a b r => if b = 0 then none else k (pc + n) lv (.long (a / b) :: r) S D
  | .lrem => zv_l2 st fun a b r => if b = 0 then none else k (pc + n) lv (.long (a - a / b * b) :: r) S D
  | .lcmp => zv_l2 st fun a b r => k (pc + n) lv (.int (lg_cmp a b) :: r) S D
  | .lshl => zv_i1 st fun b r => zv_l1 r fun a r => k (pc + n) lv (.long (a <<< (b.toInt64 &&& 63)) :: r) S D
  | .lushr => zv_i1 st fun b r => zv_l1 r fun a r => k (pc + n) lv (.long (a.toUInt64 >>> (b.toInt64.toUInt64 &&& Int64.toUInt64 63)).toInt64 :: r) S D
  | .i2l => zv_i1 st fun a r => k (pc + n) lv (.long a.toInt64 :: r) S D
  | .l2i => zv_l1 st fun a r => k (pc + n) lv (.int a.toInt32 :: r) S D
  | .i2c => zv_i1 st fun a r => k (pc + n) lv (.int (a.toUInt32 % 65536).toInt32 :: r) S D
  | .dup => zv_dp st fun r => k (pc + n) lv r S D
  | .dup2 => zv_ia st fun i a r => k (pc + n) lv (.int i :: .ref a :: .int i :: .ref a :: r) S D
  | .pop => zv_i1 st fun _ r => k (pc + n) lv r S D
  | .ifCond .eq _ => zv_i1 st fun a r => if a = 0 then k x.1 lv r S D else k (pc + n) lv r S D
  | .ifCond .ne _ => zv_i1 st fun a r => if a = 0 then k (pc + n) lv r S D else k x.1 lv r S D
  | .ifCond .lt _ => zv_i1 st fun a r => if a < 0 then k x.1 lv r S D else k (pc + n) lv r S D
  | .ifCond .ge _ => zv_i1 st fun a r => if 0 ≤ a then k x.1 lv r S D else k (pc + n) lv r S D
  | .ifCond .gt _ => zv_i1 st fun a r => if 0 < a then k x.1 lv r S D else k (pc + n) lv r S D
  | .ifCond .le _ => zv_i1 st fun a r => if a ≤ 0 then k x.1 lv r S D else k (pc + n) lv r S D
  | .if_icmp .eq _ => zv_i2 st fun a b r => if a = b then k x.1 lv r S D else k (pc + n) lv r S D
  | .if_icmp .ne _ => zv_i2 st fun a b r => if a = b then k (pc + n) lv r S D else k x.1 lv r S D
  | .if_icmp .lt _ => zv_i2 st fun a b r => if a < b then k x.1 lv r S D else k (pc + n) lv r S D
  | .if_icmp .ge _ => zv_i2 st fun a b r => if b ≤ a then k x.1 lv r S D else k (pc + n) lv r S D
  | .if_icmp .gt _ => zv_i2 st fun a b r => if b < a then k x.1 lv r S D else k (pc + n) lv r S D
  | .if_icmp .le _ => zv_i2 st fun a b r => if a ≤ b then k x.1 lv r S D else k (pc + n) lv r S D
  | .goto _ => k x.1 lv st S D
  | .tableswitch _ _ _ _ => zv_i1 st fun a r => zv_sw x.2.2.2.2.2 a x.1 fun t => k t lv r S D
  | .lookupswitch _ _ => zv_i1 st fun a r => zv_sw x.2.2.2.2.2 a x.1 fun t => k t lv r S D
  | .getfield _ => zv_a1 st fun q r => bif Nat.beq (S.2.2.1 q).1 x.1 then
      (bif Nat.beq x.2.2.1 0 then k (pc + n) lv (.int (D.1 q x.2.1) :: r) S D
       else bif Nat.beq x.2.2.1 1 then k (pc + n) lv (.long (D.2 q x.2.1) :: r) S D
       else (S.2.2.2 q x.2.1).bind fun a => k (pc + n) lv (.ref a :: r) S D) else none
  | .putfield _ => bif Nat.beq x.2.2.1 0 then zv_i1 st fun v r => zv_a1 r fun q r => bif Nat.beq (S.2.2.1 q).1 x.1 then k (pc + n) lv r S (zv_w D.1 q x.2.1 v, D.2) else none
      else bif Nat.beq x.2.2.1 1 then zv_l1 st fun v r => zv_a1 r fun q r => bif Nat.beq (S.2.2.1 q).1 x.1 then k (pc + n) lv r S (D.1, zv_wl D.2 q x.2.1 v) else none
      else bif al then zv_a1 st fun a r => zv_a1 r fun q r => bif Nat.beq (S.2.2.1 q).1 x.1 then k (pc + n) lv r (zv_rw S q x.2.1 a) D else none
      else none
  | .getstatic _ => k (pc + n) lv (.ref x.1 :: st) S D
  | .iaload => zv_ia st fun i a r => bif Nat.beq (S.2.2.1 a).1 11 then (bif zv_in i (S.2.2.1 a).2 then k (pc + n) lv (.int (D.1 a i.toNatClampNeg) :: r) S D else none)
      else bif Nat.beq (S.2.2.1 a).1 21 then (bif al && zv_in i xs.1 then k (pc + n) lv (.int (xs.2 i.toNatClampNeg) :: r) S D else none)
      else bif Nat.beq (S.2.2.1 a).1 22 then (bif zv_in i 5 then k (pc + n) lv (.int (zv_fa i.toNatClampNeg) :: r) S D else none) else none
  | .laload => zv_ia st fun i a r => bif Nat.beq (S.2.2.1 a).1 24 then (bif zv_in i 5 then k (pc + n) lv (.long (zv_un i.toNatClampNeg) :: r) S D else none) else none
  | .caload => zv_ia st fun i a r => bif Nat.beq (S.2.2.1 a).1 10 then (bif zv_in i (S.2.2.1 a).2 then k (pc + n) lv (.int (D.1 a i.toNatClampNeg) :: r) S D else none) else none
  | .baload => zv_ia st fun i a r => bif Nat.beq (S.2.2.1 a).1 12 then (bif zv_in i (S.2.2.1 a).2 then k (pc + n) lv (.int (D.1 a i.toNatClampNeg) :: r) S D else none) else none
  | .aaload => zv_ia st fun i a r => bif Nat.beq (S.2.2.1 a).1 13 then (bif zv_in i (S.2.2.1 a).2 then (S.2.2.2 a i.toNatClampNeg).bind fun b => k (pc + n) lv (.ref b :: r) S D else none) else none
  | .iastore => zv_via st fun v i a r => bif Nat.beq (S.2.2.1 a).1 11 then (bif zv_in i (S.2.2.1 a).2 then k (pc + n) lv r S (zv_w D.1 a i.toNatClampNeg v, D.2) else none) else none
  | .castore => zv_via st fun v i a r => bif Nat.beq (S.2.2.1 a).1 10 then (bif zv_in i (S.2.2.1 a).2 then k (pc + n) lv r S (zv_w D.1 a i.toNatClampNeg (vp_nar .char v), D.2) else none) else none
  | .bastore => zv_via st fun v i a r => bif Nat.beq (S.2.2.1 a).1 12 then (bif zv_in i (S.2.2.1 a).2 then k (pc + n) lv r S (zv_w D.1 a i.toNatClampNeg (vp_nar .boolean v), D.2) else none) else none
  | .aastore => bif al then zv_a1 st fun b r => zv_ia r fun i a r => bif Nat.beq (S.2.2.1 a).1 13 && (Nat.beq (S.2.2.1 b).1 7 && zv_in i (S.2.2.1 a).2) then k (pc + n) lv r (zv_rw S a i.toNatClampNeg b) D else none else none
  | .arraylength => zv_a1 st fun a r => bif Nat.beq (S.2.2.1 a).1 21 then (bif al then k (pc + n) lv (.int (Int32.ofNat xs.1) :: r) S D else none) else bif Nat.beq (S.2.2.1 a).1 11 then k (pc + n) lv (.int (Int32.ofNat (S.2.2.1 a).2) :: r) S D else bif Nat.beq (S.2.2.1 a).1 22 then k (pc + n) lv (.int (Int32.ofNat 5) :: r) S D else none
  | .new _ => bif al && Nat.ble S.1 100000 then k (pc + n) lv (.ref S.1 :: st) (zv_new S x.1 x.2.1) (zv_zer S D) else none
  | .newarray _ => bif al then zv_i1 st fun m r => bif !(decide (m < 0)) && (Nat.ble m.toNatClampNeg 65536 && Nat.ble S.1 100000) then k (pc + n) lv (.ref S.1 :: r) (zv_new S x.1 m.toNatClampNeg) (zv_zer S D) else none else none
  | .anewarray _ => bif al then zv_i1 st fun m r => bif !(decide (m < 0)) && (Nat.ble m.toNatClampNeg 65536 && Nat.ble S.1 100000) then k (pc + n) lv (.ref S.1 :: r) (zv_new S 13 m.toNatClampNeg) (zv_zer S D) else none else none
  | .invokevirtual _ => bif Nat.ble (zv_cs (st.drop x.2.1)) 8 then (ca x.1 (st.take x.2.1).reverse S D).bind fun p => k (pc + n) lv (zv_psh x.2.2.1 p.1 (st.drop x.2.1)) S p.2 else none
  | .invokestatic _ => bif Nat.beq x.1 999 then zv_acp st S D fun r D' => k (pc + n) lv r S D'
      else bif Nat.beq x.1 997 then zv_i2 st fun a b r => bif Nat.ble (zv_cs r) 8 then k (pc + n) lv (.int (if b < a then b else a) :: r) S D else none
      else bif Nat.beq x.1 996 then zv_i2 st fun a b r => bif Nat.ble (zv_cs r) 8 then k (pc + n) lv (.int (if a < b then b else a) :: r) S D else none
      else bif Nat.beq x.1 995 then zv_i1 st fun a r => bif Nat.ble (zv_cs r) 8 then k (pc + n) lv (.int (if 0 ≤ a then a else 0 - a) :: r) S D else none
      else bif Nat.ble (zv_cs (st.drop x.2.1)) 8 then (ca x.1 (st.take x.2.1).reverse S D).bind fun p => k (pc + n) lv (zv_psh x.2.2.1 p.1 (st.drop x.2.1)) S p.2 else none
  | .invokespecial _ => bif Nat.beq x.1 998 then zv_a1 st fun _ r => bif Nat.ble (zv_cs r) 8 then k (pc + n) lv r S D else none
      else bif al then (bif Nat.ble (zv_cs (st.drop x.2.1)) 8 then (ci x.1 (st.take x.2.1).reverse S D).bind fun p => k (pc + n) lv (st.drop x.2.1) p.2.1 p.2.2 else none) else none
  | .ireturn => match st with
    | [.int v] => bif bo then (bif zv_bk v then some ((v, 0, 0), S, D) else none) else some ((v, 0, 0), S, D)
    | _ => none
  | .lreturn => match st with
    | [.long v] => some ((0, v, 0), S, D)
    | _ => none
  | .areturn => match st with
    | [.ref v] => some ((0, 0, v), S, D)
    | _ => none
  | .return_ => match st with
    | [] => some ((0, 0, 0), S, D)
    | _ => none
  | _ => none
def zv_ck : List zv_E → Nat → Option (Instr × Nat × zv_X)
  | [], _ => none
  | e :: t, pc => bif Nat.beq e.1 pc then some e.2 else zv_ck t pc
def zv_lk : List (Nat × List zv_E) → Nat → Option (Instr × Nat × zv_X)
  | [], _ => none
  | e :: t, pc => bif Nat.blt pc e.1 then zv_ck e.2 pc else zv_lk t pc
/-- one step -/
def zv_1 (al : Bool) (tb : List (Nat × List zv_E)) (ca : zv_Ca) (ci : zv_Ci) (xs : Nat × (Nat → Int32)) (bo : Bool) (k : zv_K) : zv_K := fun pc lv st S D => match zv_lk tb pc with
  | none => none
  | some e => zv_s al ca ci xs bo e.1 e.2.1 e.2.2 pc lv st S D k
/-- with fuel -/
def zv_r (al : Bool) (tb : List (Nat × List zv_E)) (ca : zv_Ca) (ci : zv_Ci) (xs : Nat × (Nat → Int32)) (bo : Bool) : Nat → zv_K
  | 0 => fun _ _ _ _ _ => none
  | f + 1 => zv_1 al tb ca ci xs bo (zv_r al tb ca ci xs bo f)
/-- n steps, or up to a stop -/
def zv_n (al : Bool) (tb : List (Nat × List zv_E)) (ca : zv_Ca) (ci : zv_Ci) (xs : Nat × (Nat → Int32)) (bo : Bool) (sp : List Nat) (k : zv_K) : Nat → zv_K
  | 0 => k
  | n + 1 => zv_1 al tb ca ci xs bo fun pc lv st S D => bif zv_mem sp pc then k pc lv st S D else zv_n al tb ca ci xs bo sp k n pc lv st S D
/-- a step gives a fixed answer, or goes on at one place -/
def zv_sh (F : zv_K → Option zv_O) : Prop := (∃ o, ∀ k, F k = o) ∨ ∃ pc lv st S D, ∀ k : zv_K, F k = k pc lv st S D
theorem zv_shn : zv_sh (fun _ => none) := Or.inl ⟨none, fun _ => rfl⟩
theorem zv_sho (o : Option zv_O) : zv_sh (fun _ => o) := Or.inl ⟨o, fun _ => rfl⟩
theorem zv_shk (pc : Nat) (lv : zv_L) (st : List Value) (S : zv_S) (D : zv_D) : zv_sh (fun k => k pc lv st S D) := Or.inr ⟨pc, lv, st, S, D, fun _ => rfl⟩
theorem zv_shc (b : Bool) {F G : zv_K → Option zv_O} (h1 : zv_sh F) (h2 : zv_sh G) : zv_sh (fun k => bif b then F k else G k) := by
  cases b
  · exact h2
  · exact h1
theorem zv_shi {P : Prop} [Decidable P] {F G : zv_K → Option zv_O} (h1 : zv_sh F) (h2 : zv_sh G) : zv_sh (fun k => if P then F k else G k) := by
  by_cases h : P
  · simpa [h] using h1
  · simpa [h] using h2
theorem zv_shb {α : Type} (o : Option α) {F : α → zv_K → Option zv_O} (h : ∀ a, zv_sh (F a)) : zv_sh (fun k => o.bind fun a => F a k) := by
  cases o with
  | none => exact zv_shn
  | some a => exact h a
theorem zv_shw (t : List (Int32 × Nat)) (x : Int32) (d : Nat) {F : Nat → zv_K → Option zv_O} (h : ∀ a, zv_sh (F a)) : zv_sh (fun k => zv_sw t x d fun a => F a k) := by
  induction t with
  | nil => exact h d
  | cons q r ih => exact zv_shi (h q.2) ih
theorem zv_sh_i2 (st : List Value) {F : Int32 → Int32 → List Value → zv_K → Option zv_O} (h : ∀ a b r, zv_sh (F a b r)) : zv_sh (fun k => zv_i2 st fun a b r => F a b r k) := by
  unfold zv_i2; split
  · exact h _ _ _
  · exact zv_shn
theorem zv_sh_l2 (st : List Value) {F : Int64 → Int64 → List Value → zv_K → Option zv_O} (h : ∀ a b r, zv_sh (F a b r)) : zv_sh (fun k => zv_l2 st fun a b r => F a b r k) := by
  unfold zv_l2; split
  · exact h _ _ _
  · exact zv_shn
theorem zv_sh_i1 (st : List Value) {F : Int32 → List Value → zv_K → Option zv_O} (h : ∀ a r, zv_sh (F a r)) : zv_sh (fun k => zv_i1 st fun a r => F a r k) := by
  unfold zv_i1; split
  · exact h _ _
  · exact zv_shn
theorem zv_sh_l1 (st : List Value) {F : Int64 → List Value → zv_K → Option zv_O} (h : ∀ a r, zv_sh (F a r)) : zv_sh (fun k => zv_l1 st fun a r => F a r k) := by
  unfold zv_l1; split
  · exact h _ _
  · exact zv_shn
theorem zv_sh_a1 (st : List Value) {F : Nat → List Value → zv_K → Option zv_O} (h : ∀ a r, zv_sh (F a r)) : zv_sh (fun k => zv_a1 st fun a r => F a r k) := by
  unfold zv_a1; split
  · exact h _ _
  · exact zv_shn
theorem zv_sh_ia (st : List Value) {F : Int32 → Nat → List Value → zv_K → Option zv_O} (h : ∀ a b r, zv_sh (F a b r)) : zv_sh (fun k => zv_ia st fun a b r => F a b r k) := by
  unfold zv_ia; split
  · exact h _ _ _
  · exact zv_shn
theorem zv_sh_via (st : List Value) {F : Int32 → Int32 → Nat → List Value → zv_K → Option zv_O} (h : ∀ v a b r, zv_sh (F v a b r)) : zv_sh (fun k => zv_via st fun v a b r => F v a b r k) := by
  unfold zv_via; split
  · exact h _ _ _ _
  · exact zv_shn
theorem zv_sh_li (o : Option Value) {F : Int32 → zv_K → Option zv_O} (h : ∀ a, zv_sh (F a)) : zv_sh (fun k => zv_li o fun a => F a k) := by
  unfold zv_li; split
  · exact h _
  · exact zv_shn
theorem zv_sh_ll (o o2 : Option Value) {F : Int64 → zv_K → Option zv_O} (h : ∀ a, zv_sh (F a)) : zv_sh (fun k => zv_ll o o2 fun a => F a k) := by
  unfold zv_ll; split
  · split
    · exact h _
    · exact zv_shn
  · exact zv_shn
theorem zv_sh_la (o : Option Value) {F : Nat → zv_K → Option zv_O} (h : ∀ a, zv_sh (F a)) : zv_sh (fun k => zv_la o fun a => F a k) := by
  unfold zv_la; split
  · exact h _
  · exact zv_shn
theorem zv_sh_acp (st : List Value) (S : zv_S) (D : zv_D) {F : List Value → zv_D → zv_K → Option zv_O} (h : ∀ a b, zv_sh (F a b)) : zv_sh (fun k => zv_acp st S D fun a b => F a b k) := by
  unfold zv_acp; split
  · exact zv_shc _ (h _ _) zv_shn
  · exact zv_shn
theorem zv_sh_dp (st : List Value) {F : List Value → zv_K → Option zv_O} (h : ∀ r, zv_sh (F r)) : zv_sh (fun k => zv_dp st fun r => F r k) := by
  unfold zv_dp; split
  · exact h _
  · exact h _
  · exact zv_shn
theorem zv_s_sh (al : Bool) (ca : zv_Ca) (ci : zv_Ci) (xs : Nat × (Nat → Int32)) (bo : Bool) (ins : Instr) (n : Nat) (x : zv_X) (pc : Nat) (lv : zv_L) (st : List Value) (S : zv_S) (D : zv_D) : zv_sh (zv_s al ca ci xs bo ins n x pc lv st S D) := by
  cases ins
  case ifCond cond off => cases cond <;> exact zv_sh_i1 _ fun _ _ => zv_shi (zv_shk _ _ _ _ _) (zv_shk _ _ _ _ _)
  case if_icmp cond off => cases cond <;> exact zv_sh_i2 _ fun _ _ _ => zv_shi (zv_shk _ _ _ _ _) (zv_shk _ _ _ _ _)
  case iconst => exact zv_shk _ _ _ _ _
  case bipush => exact zv_shk _ _ _ _ _
  case sipush => exact zv_shk _ _ _ _ _
  case ldc_w => exact zv_shk _ _ _ _ _
  case lconst => exact zv_shk _ _ _ _ _
  case ldc2_w => exact zv_shk _ _ _ _ _
  case getstatic => exact zv_shk _ _ _ _ _
  case goto => exact zv_shk _ _ _ _ _
  case iload => exact zv_sh_li _ fun _ => zv_shk _ _ _ _ _
  case iload_n => exact zv_sh_li _ fun _ => zv_shk _ _ _ _ _
  case lload => exact zv_sh_ll _ _ fun _ => zv_shk _ _ _ _ _
  case lload_n => exact zv_sh_ll _ _ fun _ => zv_shk _ _ _ _ _
  case aload => exact zv_sh_la _ fun _ => zv_shk _ _ _ _ _
  case aload_n => exact zv_sh_la _ fun _ => zv_shk _ _ _ _ _
  case istore => exact zv_sh_i1 _ fun _ _ => zv_shk _ _ _ _ _
  case istore_n => exact zv_sh_i1 _ fun _ _ => zv_shk _ _ _ _ _
  case lstore => exact zv_sh_l1 _ fun _ _ => zv_shk _ _ _ _ _
  case lstore_n => exact zv_sh_l1 _ fun _ _ => zv_shk _ _ _ _ _
  case astore_n => exact zv_sh_a1 _ fun _ _ => zv_shk _ _ _ _ _
  case iinc => exact zv_sh_li _ fun _ => zv_shk _ _ _ _ _
  case iadd => exact zv_sh_i2 _ fun _ _ _ => zv_shk _ _ _ _ _
  case isub => exact zv_sh_i2 _ fun _ _ _ => zv_shk _ _ _ _ _
  case imul => exact zv_sh_i2 _ fun _ _ _ => zv_shk _ _ _ _ _
  case iand => exact zv_sh_i2 _ fun _ _ _ => zv_shk _ _ _ _ _
  case ior => exact zv_sh_i2 _ fun _ _ _ => zv_shk _ _ _ _ _
  case ixor => exact zv_sh_i2 _ fun _ _ _ => zv_shk _ _ _ _ _
  case ishl => exact zv_sh_i2 _ fun _ _ _ => zv_shk _ _ _ _ _
  case ishr => exact zv_sh_i2 _ fun _ _ _ => zv_shk _ _ _ _ _
  case iushr => exact zv_sh_i2 _ fun _ _ _ => zv_shk _ _ _ _ _
  case idiv => exact zv_sh_i2 _ fun _ _ _ => zv_shi zv_shn (zv_shk _ _ _ _ _)
  case irem => exact zv_sh_i2 _ fun _ _ _ => zv_shi zv_shn (zv_shk _ _ _ _ _)
  case ineg => exact zv_sh_i1 _ fun _ _ => zv_shk _ _ _ _ _
  case ladd => exact zv_sh_l2 _ fun _ _ _ => zv_shk _ _ _ _ _
  case lsub => exact zv_sh_l2 _ fun _ _ _ => zv_shk _ _ _ _ _
  case lmul => exact zv_sh_l2 _ fun _ _ _ => zv_shk _ _ _ _ _
  case land => exact zv_sh_l2 _ fun _ _ _ => zv_shk _ _ _ _ _
  case lor => exact zv_sh_l2 _ fun _ _ _ => zv_shk _ _ _ _ _
  case ldiv => exact zv_sh_l2 _ fun _ _ _ => zv_shi zv_shn (zv_shk _ _ _ _ _)
  case lrem => exact zv_sh_l2 _ fun _ _ _ => zv_shi zv_shn (zv_shk _ _ _ _ _)
  case lcmp => exact zv_sh_l2 _ fun _ _ _ => zv_shk _ _ _ _ _
  case lshl => exact zv_sh_i1 _ fun _ _ => zv_sh_l1 _ fun _ _ => zv_shk _ _ _ _ _
  case lushr => exact zv_sh_i1 _ fun _ _ => zv_sh_l1 _ fun _ _ => zv_shk _ _ _ _ _
  case i2l => exact zv_sh_i1 _ fun _ _ => zv_shk _ _ _ _ _
  case l2i => exact zv_sh_l1 _ fun _ _ => zv_shk _ _ _ _ _
  case i2c => exact zv_sh_i1 _ fun _ _ => zv_shk _ _ _ _ _
  case dup => exact zv_sh_dp st fun r => zv_shk (pc + n) lv r S D
  case dup2 => exact zv_sh_ia _ fun _ _ _ => zv_shk _ _ _ _ _
  case pop => exact zv_sh_i1 _ fun _ _ => zv_shk _ _ _ _ _
  case tableswitch => exact zv_sh_i1 _ fun _ _ => zv_shw _ _ _ fun _ => zv_shk _ _ _ _ _
  case lookupswitch => exact zv_sh_i1 _ fun _ _ => zv_shw _ _ _ fun _ => zv_shk _ _ _ _ _
  case getfield => exact zv_sh_a1 _ fun _ _ => zv_shc _ (zv_shc _ (zv_shk _ _ _ _ _) (zv_shc _ (zv_shk _ _ _ _ _) (zv_shb _ fun _ => zv_shk _ _ _ _ _))) zv_shn
  case putfield => exact zv_shc _ (zv_sh_i1 _ fun _ _ => zv_sh_a1 _ fun _ _ => zv_shc _ (zv_shk _ _ _ _ _) zv_shn) (zv_shc _ (zv_sh_l1 _ fun _ _ => zv_sh_a1 _ fun _ _ => zv_shc _ (zv_shk _ _ _ _ _) zv_shn) (zv_shc _ (zv_sh_a1 _ fun _ _ => zv_sh_a1 _ fun _ _ => zv_shc _ (zv_shk _ _ _ _ _) zv_shn) zv_shn))
  case iaload => exact zv_sh_ia _ fun _ _ _ => zv_shc _ (zv_shc _ (zv_shk _ _ _ _ _) zv_shn) (zv_shc _ (zv_shc _ (zv_shk _ _ _ _ _) zv_shn) (zv_shc _ (zv_shc _ (zv_shk _ _ _ _ _) zv_shn) zv_shn))
  case laload => exact zv_sh_ia _ fun _ _ _ => zv_shc _ (zv_shc _ (zv_shk _ _ _ _ _) zv_shn) zv_shn
  case caload => exact zv_sh_ia _ fun _ _ _ => zv_shc _ (zv_shc _ (zv_shk _ _ _ _ _) zv_shn) zv_shn
  case baload => exact zv_sh_ia _ fun _ _ _ => zv_shc _ (zv_shc _ (zv_shk _ _ _ _ _) zv_shn) zv_shn
  case aaload => exact zv_sh_ia _ fun _ _ _ => zv_shc _ (zv_shc _ (zv_shb _ fun _ => zv_shk _ _ _ _ _) zv_shn) zv_shn
  case iastore => exact zv_sh_via _ fun _ _ _ _ => zv_shc _ (zv_shc _ (zv_shk _ _ _ _ _) zv_shn) zv_shn
  case castore => exact zv_sh_via _ fun _ _ _ _ => zv_shc _ (zv_shc _ (zv_shk _ _ _ _ _) zv_shn) zv_shn
  case bastore => exact zv_sh_via _ fun _ _ _ _ => zv_shc _ (zv_shc _ (zv_shk _ _ _ _ _) zv_shn) zv_shn
  case aastore => exact zv_shc _ (zv_sh_a1 _ fun _ _ => zv_sh_ia _ fun _ _ _ => zv_shc _ (zv_shk _ _ _ _ _) zv_shn) zv_shn
  case arraylength => exact zv_sh_a1 _ fun _ _ => zv_shc _ (zv_shc _ (zv_shk _ _ _ _ _) zv_shn) (zv_shc _ (zv_shk _ _ _ _ _) (zv_shc _ (zv_shk _ _ _ _ _) zv_shn))
  case new => exact zv_shc _ (zv_shk _ _ _ _ _) zv_shn
  case newarray => exact zv_shc _ (zv_sh_i1 _ fun _ _ => zv_shc _ (zv_shk _ _ _ _ _) zv_shn) zv_shn
  case anewarray => exact zv_shc _ (zv_sh_i1 _ fun _ _ => zv_shc _ (zv_shk _ _ _ _ _) zv_shn) zv_shn
  case invokevirtual => exact zv_shc _ (zv_shb _ fun _ => zv_shk _ _ _ _ _) zv_shn
  case invokestatic => exact zv_shc _ (zv_sh_acp _ _ _ fun _ _ => zv_shk _ _ _ _ _) (zv_shc _ (zv_sh_i2 _ fun _ _ _ => zv_shc _ (zv_shk _ _ _ _ _) zv_shn) (zv_shc _ (zv_sh_i2 _ fun _ _ _ => zv_shc _ (zv_shk _ _ _ _ _) zv_shn) (zv_shc _ (zv_sh_i1 _ fun _ _ => zv_shc _ (zv_shk _ _ _ _ _) zv_shn) (zv_shc _ (zv_shb _ fun _ => zv_shk _ _ _ _ _) zv_shn))))
  case invokespecial => exact zv_shc _ (zv_sh_a1 _ fun _ _ => zv_shc _ (zv_shk _ _ _ _ _) zv_shn) (zv_shc _ (zv_shc _ (zv_shb _ fun _ => zv_shk _ _ _ _ _) zv_shn) zv_shn)
  all_goals exact zv_sho _
section ZV
variable (al : Bool) (tb : List (Nat × List zv_E)) (ca : zv_Ca) (ci : zv_Ci) (xs : Nat × (Nat → Int32)) (bo : Bool)
theorem zv_1_sh (pc : Nat) (lv : zv_L) (st : List Value) (S : zv_S) (D : zv_D) : zv_sh (fun k => zv_1 al tb ca ci xs bo k pc lv st S D) := by
  unfold zv_1; split
  · exact zv_shn
  · exact zv_s_sh _ _ _ _ _ _ _ _ _ _ _ _ _
theorem zv_mono : ∀ (f pc : Nat) (lv : zv_L) (st : List Value) (S : zv_S) (D : zv_D) (o : zv_O), zv_r al tb ca ci xs bo f pc lv st S D = some o → zv_r al tb ca ci xs bo (f + 1) pc lv st S D = some o := by
  intro f
  induction f with
  | zero => intro pc lv st S D o h; cases h
  | succ f ih =>
    intro pc lv st S D o h
    show zv_1 al tb ca ci xs bo (zv_r al tb ca ci xs bo (f + 1)) pc lv st S D = some o
    have h : zv_1 al tb ca ci xs bo (zv_r al tb ca ci xs bo f) pc lv st S D = some o := h
    rcases zv_1_sh al tb ca ci xs bo pc lv st S D with ⟨q, hq⟩ | ⟨pc', lv', st', S', D', hq⟩
    · exact (hq _).trans ((hq _).symm.trans h)
    · exact (hq _).trans (ih _ _ _ _ _ _ ((hq _).symm.trans h))
theorem zv_mono2 (g : Nat) : ∀ (f pc : Nat) (lv : zv_L) (st : List Value) (S : zv_S) (D : zv_D) (o : zv_O), zv_r al tb ca ci xs bo f pc lv st S D = some o → zv_r al tb ca ci xs bo (f + g) pc lv st S D = some o := by
  induction g with
  | zero => exact fun _ _ _ _ _ _ _ h => h
  | succ g ih => exact fun f pc lv st S D o h => zv_mono al tb ca ci xs bo (f + g) pc lv st S D o (ih f pc lv st S D o h)
theorem zv_det {f g pc : Nat} {lv : zv_L} {st : List Value} {S : zv_S} {D : zv_D} {o o' : zv_O} (h : zv_r al tb ca ci xs bo f pc lv st S D = some o) (h' : zv_r al tb ca ci xs bo g pc lv st S D = some o') : o = o' := by
  have a := zv_mono2 al tb ca ci xs bo g f pc lv st S D o h
  have b := zv_mono2 al tb ca ci xs bo f g pc lv st S D o' h'
  rw [Nat.add_comm g f] at b
  exact Option.some.inj (a.symm.trans b)
/-- without fuel -/
noncomputable def zv_z : zv_K := fun pc lv st S D => @dite _ (∃ o f, zv_r al tb ca ci xs bo f pc lv st S D = some o) (Classical.propDecidable _) (fun h => some (Classical.choose h)) (fun _ => none)
theorem zv_z_iff (pc : Nat) (lv : zv_L) (st : List Value) (S : zv_S) (D : zv_D) (o : zv_O) : zv_z al tb ca ci xs bo pc lv st S D = some o ↔ ∃ f, zv_r al tb ca ci xs bo f pc lv st S D = some o := by
  unfold zv_z
  constructor
  · intro h
    split at h
    · rename_i hx
      rw [← Option.some.inj h]
      exact Classical.choose_spec hx
    · cases h
  · rintro ⟨f, hf⟩
    have hx : ∃ o f, zv_r al tb ca ci xs bo f pc lv st S D = some o := ⟨o, f, hf⟩
    rw [dif_pos hx]
    obtain ⟨g, hg⟩ := Classical.choose_spec hx
    exact congrArg some (zv_det al tb ca ci xs bo hg hf)
theorem zv_z_eq (pc : Nat) (lv : zv_L) (st : List Value) (S : zv_S) (D : zv_D) : zv_z al tb ca ci xs bo pc lv st S D = zv_1 al tb ca ci xs bo (zv_z al tb ca ci xs bo) pc lv st S D := by
  apply Option.ext
  intro o
  rw [zv_z_iff]
  rcases zv_1_sh al tb ca ci xs bo pc lv st S D with ⟨q, hq⟩ | ⟨pc', lv', st', S', D', hq⟩
  · have hq : ∀ k : zv_K, zv_1 al tb ca ci xs bo k pc lv st S D = q := hq
    rw [hq]
    constructor
    · rintro ⟨f, hf⟩
      cases f with
      | zero => cases hf
      | succ f => exact (hq _).symm.trans hf
    · intro h
      exact ⟨1, (hq _).trans h⟩
  · have hq : ∀ k : zv_K, zv_1 al tb ca ci xs bo k pc lv st S D = k pc' lv' st' S' D' := hq
    rw [hq, zv_z_iff]
    constructor
    · rintro ⟨f, hf⟩
      cases f with
      | zero => cases hf
      | succ f => exact ⟨f, (hq _).symm.trans hf⟩
    · rintro ⟨f, hf⟩
      exact ⟨f + 1, (hq _).trans hf⟩
theorem zv_zn (sp : List Nat) : ∀ (n pc : Nat) (lv : zv_L) (st : List Value) (S : zv_S) (D : zv_D), zv_z al tb ca ci xs bo pc lv st S D = zv_n al tb ca ci xs bo sp (zv_z al tb ca ci xs bo) n pc lv st S D := by
  intro n
  induction n with
  | zero => intro pc lv st S D; rfl
  | succ n ih =>
    intro pc lv st S D
    rw [zv_z_eq]
    show _ = zv_1 al tb ca ci xs bo (fun pc lv st S D => bif zv_mem sp pc then zv_z al tb ca ci xs bo pc lv st S D else zv_n al tb ca ci xs bo sp (zv_z al tb ca ci xs bo) n pc lv st S D) pc lv st S D
    congr 1
    funext pc lv st S D
    cases zv_mem sp pc
    · exact ih pc lv st S D
    · rfl
end ZV
/-- a method that makes nothing -/
noncomputable abbrev zv_m (tb : List (Nat × List zv_E)) (ca : zv_Ca) (bo : Bool) : zv_K := zv_z false tb ca (fun _ _ _ _ => none) (0, fun _ => 0) bo
theorem zv_mn (tb : List (Nat × List zv_E)) (ca : zv_Ca) (bo : Bool) (sp : List Nat) (n pc : Nat) (lv : zv_L) (st : List Value) (S : zv_S) (D : zv_D) : zv_m tb ca bo pc lv st S D = zv_n false tb ca (fun _ _ _ _ => none) (0, fun _ => 0) bo sp (zv_m tb ca bo) n pc lv st S D := zv_zn _ _ _ _ _ _ _ _ _ _ _ _ _
