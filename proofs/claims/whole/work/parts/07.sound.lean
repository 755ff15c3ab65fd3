/-! ===== the small machine says what the machine does ===== -/
/-- a method, as the tables have it: name, code, locals, what it returns; arguments, kind of answer, whose it is, how it is called (0 virtual, 1 static, 2 constructor); its rows -/
abbrev zv_Mt : Type := MethodName × ByteArray × Nat × Option FieldType × Nat × Nat × Nat × Nat × List (Nat × List zv_E)
def zv_rm (d mc ms : Nat) : Room := { frames := d, cells := mc, slots := ms, locals := 40 * d }
/-- links to private methods of nest mates -/
def znw : List Cond := tables_1.filter fun w => match w with
  | .methodLinkNest _ _ _ _ => true
  | _ => false
/-- what stays: the tables, the script, two static rows -/
def zv_env (b : Nat) (x : Nat → Nat) (cA : Nat → ClassId) (dD : va_G) (xs : Nat × (Nat → Int32)) (U : State) : Prop :=
  va_K dD vwCl (zv_ty cA) U ∧ va_Z "HiddenExits" "UNITS" "[J" (.ref (x 1000001)) (fun q => b ≤ q) U U.heap ∧ va_T .long (x 1000001) 5 (fun j => .long (zv_un j)) (fun q => b ≤ q) U U.heap ∧
  va_Z "HiddenExits" "FACTORIALS" "[I" (.ref (x 1000002)) (fun q => b ≤ q) U U.heap ∧ va_T .int (x 1000002) 5 (fun j => .int (zv_fa j)) (fun q => b ≤ q) U U.heap ∧
  va_X (x 1000000) xs.1 xs.2 U U.heap ∧ x 1000000 < b ∧ (∀ w ∈ znw, va_Nw w U) ∧ va_AO "HiddenExits$State" U
def zv_H (b : Nat) (x : Nat → Nat) (cA : Nat → ClassId) (dD : va_G) (S : zv_S) (D : zv_D) (H : Heap) : Prop := zv_wf S ∧ va_P dD vwCl (zv_ws b x cA S D) H
/-- a contract's start and end -/
def zv_Pc (b : Nat) (x : Nat → Nat) (cA : Nat → ClassId) (dD : va_G) (xs : Nat × (Nat → Int32)) (As : List Value) (S : zv_S) (D : zv_D) : Array Value → State → Prop := va_Pc (As.map (zv_vl b x)) fun U => U.heap.size = b + S.1 ∧ zv_H b x cA dD S D U.heap ∧ zv_env b x cA dD xs U
def zv_Qc (b : Nat) (x : Nat → Nat) (cA : Nat → ClassId) (dD : va_G) (rk : Nat) (r : zv_R) (S : zv_S) (D : zv_D) : Array Value → State → Outcome → State → Prop := match rk with
  | 0 => va_Qv (fun _ : Unit => True) (fun _ t => zv_H b x cA dD S D t.heap) (fun q => b ≤ q)
  | 1 => va_Qi (fun v (_ : Unit) => v = r.1) (fun _ t => zv_H b x cA dD S D t.heap) (fun q => b ≤ q)
  | 2 => va_Ql (fun v (_ : Unit) => v = r.2.1) (fun _ t => zv_H b x cA dD S D t.heap) (fun q => b ≤ q)
  | _ => va_Qr (fun _ : Unit => True) (fun _ a t => a = zv_ad b x r.2.2 ∧ zv_H b x cA dD S D t.heap) (fun q => b ≤ q)
def zv_wo (mt : zv_Mt) : List Cond := .code mt.1 mt.2.1 mt.2.2.1 mt.2.2.2.1 :: zgw
/-- a method's contract, at arguments and a memory where the small machine answers -/
def zv_ct (l : Launch) (b : Nat) (x : Nat → Nat) (cA : Nat → ClassId) (dD : va_G) (xs : Nat × (Nat → Int32)) (d : Nat) (mt : zv_Mt) (As : List Value) (S : zv_S) (D : zv_D) (o : zv_O) : Prop :=
  S.1 ≤ o.2.1.1 ∧ S.2.1 ≤ o.2.1.2.1 ∧ Met l mt.1 (zv_wo mt) (zv_rm d (o.2.1.1 - S.1) (o.2.1.2.1 - S.2.1)) (zv_Pc b x cA dD xs As S D) (zv_Qc b x cA dD mt.2.2.2.2.2.1 o.1 o.2.1 o.2.2) (o.2.1.1 - S.1) (o.2.1.2.1 - S.2.1) (fun q => b ≤ q)
/-- what the tables say of a method -/
def zv_mok (mt : zv_Mt) : Prop := Cond.code mt.1 mt.2.1 mt.2.2.1 mt.2.2.2.1 ∈ zgw ∧ Cond.initialized mt.1.cls ∈ zgw ∧ plainName mt.1.cls = true ∧ (mt.1.cls ≠ "java/lang/invoke/MethodHandle" ∧ mt.1.cls ≠ "java/lang/invoke/VarHandle") ∧ mt.1.cls = zn_own mt.2.2.2.2.2.2.1 ∧ mt.2.2.1 ≤ 21 ∧
  (match mt.2.2.2.2.2.2.2.1 with
    | 0 => Cond.instanceMethod mt.1 ∈ zgw ∧ Cond.selects mt.1.cls mt.1 mt.1 ∈ zgw ∧ mt.2.2.2.2.2.2.1 < 10 ∧ (parseMethodDescriptor mt.1.desc).map (fun q => q.parameters.length + 1) = some mt.2.2.2.2.1
    | 1 => Cond.static mt.1 ∈ zgw ∧ (parseMethodDescriptor mt.1.desc).map (fun q => q.parameters.length) = some mt.2.2.2.2.1
    | _ => Cond.instanceMethod mt.1 ∈ zgw ∧ mt.1.name = "<init>" ∧ mt.2.2.2.1 = none ∧ mt.2.2.2.2.2.1 = 0 ∧ (parseMethodDescriptor mt.1.desc).map (fun q => q.parameters.length + 1) = some mt.2.2.2.2.1) ∧
  (match mt.2.2.2.2.2.1 with
    | 0 => mt.2.2.2.1 = none
    | 1 => mt.2.2.2.1 = some .int ∨ mt.2.2.2.1 = some .boolean
    | 2 => mt.2.2.2.1 = some .long
    | _ => ∃ C, mt.2.2.2.1 = some (.object C))
