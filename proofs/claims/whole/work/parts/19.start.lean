/-! THE CLAIM OUT OF ONE WALK OF THE LAW'S BODY. Your part is whole_start (and what it stands on); all else here is the same for every law, but numbers. -/
def R_law : String := "HiddenExitsLaw"
def lw_P (b : Addr) (xs : List Int32) (args : Array Value) (s : State) : Prop := args = #[.ref b] ∧ s.IntsAt b xs ∧ xs.length ≤ 2048 ∧ (Jvm.Cond.and given_1 narrow_1).before args s = true
def lw_Q (_ : Array Value) (s : State) (o : Outcome) (t : State) : Prop := o = .returned (some (.int 1)) ∧ Framed s o t [] 600000 7302249
def lw_Z (below : List Frame) (a : Array Value) (s : State) : State → Prop := fun t => ∃ o, t.status = .running ∧ Ended t below o ∧ lw_Q a s o t
/-- the law's own end, with 1 on the stack, nothing written that was there before, its room as the claim has it -/
theorem lw_ret {p : Program} {l : Launch} {e : Env} {s : State} {m : MethodId} {below : List Frame} {meth : Method} {c : Code} {b : Nat} (hx : p.tables.exec = Jvm.exec) (hb : c.code = code) (hr : meth.sig.returnType = ret) (hlocks : meth.locks = false) {pc : Nat} {H : Heap} {ls : Array Slot} (hdg : decode code pc = .ok (.ireturn, 1)) : W p l e room_1 s m #[Value.ref b] below meth c H [] 600000 7302249 (lw_Z below #[Value.ref b] s) (F0 m pc ls [.int 1]) := by
  intro T hT X
  obtain ⟨fs, hret, hrun, hended, hW, hframe⟩ := X.leave (v := some (.int 1)) (hlocks := hlocks) (fun h => by rw [hr] at h; cases h)
  have hmeth' : T.vm.method? m = some meth := X.method'
  refine ⟨T.setFrames fs, ?_, .returned (some (.int 1)), hrun, hended, rfl, ⟨_, rfl⟩, hW, hframe⟩
  jvm_step X.here [X.here.top, hx, hb, hdg, hmeth', hr, ret, narrow_b1]
  (try refine ⟨rfl, ?_⟩); (try refine ⟨rfl, ?_⟩)
  first | (intro acts; rw [hret _ acts rfl rfl rfl]) | rw [hret _ _ rfl rfl rfl]
  exact Steps.refl _
/-- what holds at the law's entry: the machine, the code, the tables' words (any of lw_tbl by 'hts w (by decide +kernel)'), the script of L ints xs at the cell b, what the Statement gives of the start (any of its parts by flat_of_before) -/
def lw_At (p : Program) (s : State) (m : MethodId) (meth : Method) (c : Code) (b L : Nat) (xs : Nat → Int32) : Prop :=
  p.tables.exec = Jvm.exec ∧ c.code = code ∧ meth.sig.returnType = ret ∧ c.maxLocals = 4 ∧ s.vm.findClass R_law = some m.cls ∧ (∀ w ∈ lw_tbl, w.before #[Value.ref b] s = true) ∧ va_X b L xs s s.heap ∧ b < s.heap.size ∧ meth.locks = false ∧ (Jvm.Cond.and given_1 narrow_1).before #[Value.ref b] s = true
/-! ===== the start: the law is run by the small machine ===== -/
def zS_in : zv_S := (0, 0, (fun q => bif Nat.beq q 1000000 then (21, 0) else bif Nat.beq q 1000001 then (24, 5) else bif Nat.beq q 1000002 then (22, 5) else (99, 0)), fun _ _ => none)
def zD_in : zv_D := (fun _ _ => 0, fun _ _ => 0)
/-- what is left to show, of the small machine alone -/
def zv_goal : Prop := ∀ (L : Nat) (xs : Nat → Int32), L ≤ 2048 → ∃ o : zv_O, zv_z true zt_L_law (zv_ev 11) (zv_ei (L, xs) 11) (L, xs) true 0 [some (.ref 1000000), none, none, none] [] zS_in zD_in = some o ∧ o.1 = (1, 0, 0) ∧ o.2.1.1 ≤ 600000 ∧ o.2.1.2.1 ≤ 7302249
theorem zS_in_wf : zv_wf zS_in := by
  have key : ∀ q n, (zS_in.2.2.1 q).1 = n → (q = 1000000 ∧ n = 21) ∨ (q = 1000001 ∧ n = 24) ∨ (q = 1000002 ∧ n = 22) ∨ n = 99 := by
    intro q n h
    unfold zS_in at h
    dsimp only at h
    cases h0 : Nat.beq q 1000000 with
    | true => rw [h0] at h; exact Or.inl ⟨Nat.eq_of_beq_eq_true h0, h.symm⟩
    | false =>
      rw [h0] at h
      cases h1 : Nat.beq q 1000001 with
      | true => rw [h1] at h; exact Or.inr (Or.inl ⟨Nat.eq_of_beq_eq_true h1, h.symm⟩)
      | false =>
        rw [h1] at h
        cases h2 : Nat.beq q 1000002 with
        | true => rw [h2] at h; exact Or.inr (Or.inr (Or.inl ⟨Nat.eq_of_beq_eq_true h2, h.symm⟩))
        | false => rw [h2] at h; exact Or.inr (Or.inr (Or.inr h.symm))
  refine ⟨Nat.zero_le _, fun q h => ?_, fun q h => ?_, fun q h => ?_, fun q h => ?_⟩
  · rcases key q _ rfl with ⟨-, e⟩ | ⟨-, e⟩ | ⟨-, e⟩ | e <;> omega
  · rcases key q _ h with ⟨e, f⟩ | ⟨e, f⟩ | ⟨e, f⟩ | f <;> omega
  · rcases key q _ h with ⟨e, f⟩ | ⟨e, f⟩ | ⟨e, f⟩ | f <;> omega
  · rcases key q _ h with ⟨e, f⟩ | ⟨e, f⟩ | ⟨e, f⟩ | f <;> omega
theorem zv_prim {args : Array Value} {s : State} {ty : FieldType} (hp : ∀ C, ty ≠ .object C) (h : (Cond.arrayClass ty).before args s = true) : ∃ cA, ArrOfT s cA ty ∧ va_RA s cA ty := by
  obtain ⟨cA, kA, comp, h1, h2, h3⟩ := Cond.arrayClass_spec h
  refine ⟨cA, fun n z => ⟨fun k h => (by cases h), kA, h2, comp, h3⟩, ?_⟩
  cases ty with
  | object C => exact absurd rfl (hp C)
  | _ => exact h1
theorem zv_refs {args : Array Value} {s : State} {C : String} (h : (Cond.arrayOver (.object C)).before args s = true) : ∃ cA, ArrOfT s cA (.object C) ∧ va_RA s cA (.object C) := by
  obtain ⟨comp, cA, kA, h1, h2, h3, h4, h5⟩ := Cond.arrayOver_spec h
  exact ⟨cA, fun n z => ⟨fun k h => (by cases h), kA, h3, comp, h4⟩, kA, comp, h3, h4, h1, h5⟩
theorem zl_inst : ∀ ci, ci < 10 → Cond.instantiable (zn_own ci) (zn_nf ci) ∈ zgw := by
  intro ci h
  match ci, h with
  | 0, _ => exact zgw_of (List.mem_append_left _ (List.mem_of_getElem? (i := 224) (by decide +kernel))) rfl
  | 1, _ => exact zgw_of (List.mem_append_right _ (List.mem_append_left _ (List.mem_of_getElem? (i := 6) (by decide +kernel)))) rfl
  | 2, _ => exact zgw_of (List.mem_append_right _ (List.mem_append_left _ (List.mem_of_getElem? (i := 34) (by decide +kernel)))) rfl
  | 3, _ => exact zgw_of (List.mem_append_left _ (List.mem_of_getElem? (i := 81) (by decide +kernel))) rfl
  | 4, _ => exact zgw_of (List.mem_append_left _ (List.mem_of_getElem? (i := 24) (by decide +kernel))) rfl
  | 5, _ => exact zgw_of (List.mem_append_right _ (List.mem_append_left _ (List.mem_of_getElem? (i := 56) (by decide +kernel)))) rfl
  | 6, _ => exact zgw_of (List.mem_append_left _ (List.mem_of_getElem? (i := 123) (by decide +kernel))) rfl
  | 7, _ => exact zgw_of (List.mem_append_left _ (List.mem_of_getElem? (i := 129) (by decide +kernel))) rfl
  | 8, _ => exact zgw_of (List.mem_append_left _ (List.mem_of_getElem? (i := 16) (by decide +kernel))) rfl
  | 9, _ => exact zgw_of (List.mem_append_right _ (List.mem_append_right _ (List.mem_append_right _ (List.mem_append_left _ (List.mem_of_getElem? (i := 124) (by decide +kernel)))))) rfl
  | k + 10, h => exact absurd h (by omega)
theorem zv_stat {args : Array Value} {s : State} (h : (Jvm.Cond.and given_1 narrow_1).before args s = true) (hw : ∀ w ∈ zgw, w.before args s = true) (hl1 : (Cond.laysStatic "HiddenExits" "UNITS" "[J").before args s = true) (hl2 : (Cond.laysStatic "HiddenExits" "FACTORIALS" "[I").before args s = true) (hin : Cond.initialized "HiddenExits" ∈ zgw) {A : Nat → Prop} (hA : ∀ a : Nat, a < s.heap.size → ¬ A a) :
    (∃ t, va_Z "HiddenExits" "UNITS" "[J" (.ref t) A s s.heap ∧ va_T .long t 5 (fun j => .long (zv_un j)) A s s.heap) ∧ ∃ t, va_Z "HiddenExits" "FACTORIALS" "[I" (.ref t) A s s.heap ∧ va_T .int t 5 (fun j => .int (zv_fa j)) A s s.heap := by
  have hs := flat_of_before _ h
  constructor
  · obtain ⟨t, h1, h2⟩ := va_Tof (tm := .static "HiddenExits" "UNITS" "[J") (ty := .long) (N := 5) (f := fun j => .long (zv_un j)) (A := A) (by decide) (hs _ (by decide +kernel)) (va_eqt (hs (.eq (.length (.static "HiddenExits" "UNITS" "[J")) (.int 5)) (by decide +kernel))) (fun j hj => by
      match j, hj with
      | 0, _ => exact va_eqtl (hs (.eq (.elem (.static "HiddenExits" "UNITS" "[J") (.int 0)) (.long 1)) (by decide +kernel))
      | 1, _ => exact va_eqtl (hs (.eq (.elem (.static "HiddenExits" "UNITS" "[J") (.int 1)) (.long 10000)) (by decide +kernel))
      | 2, _ => exact va_eqtl (hs (.eq (.elem (.static "HiddenExits" "UNITS" "[J") (.int 2)) (.long 100000000)) (by decide +kernel))
      | 3, _ => exact va_eqtl (hs (.eq (.elem (.static "HiddenExits" "UNITS" "[J") (.int 3)) (.long 1000000000000)) (by decide +kernel))
      | 4, _ => exact va_eqtl (hs (.eq (.elem (.static "HiddenExits" "UNITS" "[J") (.int 4)) (.long 10000000000000000)) (by decide +kernel))
      | k + 5, h => exact absurd h (by omega)) hA
    exact ⟨t, va_Zof hl1 (hw _ hin) h1 hA, h2⟩
  · obtain ⟨t, h1, h2⟩ := va_Tof (tm := .static "HiddenExits" "FACTORIALS" "[I") (ty := .int) (N := 5) (f := fun j => .int (zv_fa j)) (A := A) (by decide) (hs _ (by decide +kernel)) (va_eqt (hs (.eq (.length (.static "HiddenExits" "FACTORIALS" "[I")) (.int 5)) (by decide +kernel))) (fun j hj => by
      match j, hj with
      | 0, _ => exact va_eqt (hs (.eq (.elem (.static "HiddenExits" "FACTORIALS" "[I") (.int 0)) (.int 1)) (by decide +kernel))
      | 1, _ => exact va_eqt (hs (.eq (.elem (.static "HiddenExits" "FACTORIALS" "[I") (.int 1)) (.int 1)) (by decide +kernel))
      | 2, _ => exact va_eqt (hs (.eq (.elem (.static "HiddenExits" "FACTORIALS" "[I") (.int 2)) (.int 2)) (by decide +kernel))
      | 3, _ => exact va_eqt (hs (.eq (.elem (.static "HiddenExits" "FACTORIALS" "[I") (.int 3)) (.int 6)) (by decide +kernel))
      | 4, _ => exact va_eqt (hs (.eq (.elem (.static "HiddenExits" "FACTORIALS" "[I") (.int 4)) (.int 24)) (by decide +kernel))
      | k + 5, h => exact absurd h (by omega)) hA
    exact ⟨t, va_Zof hl2 (hw _ hin) h1 hA, h2⟩
set_option maxHeartbeats 1000000 in
theorem whole_open (hG : zv_goal) {p : Program} {e : Env} {s : State} {m : MethodId} {below : List Frame} {meth : Method} {c : Code} (l : Launch) {b L : Nat} {xs : Nat → Int32} (hL : L ≤ 2048) (C0 : lw_At p s m meth c b L xs) : W p l e room_1 s m #[Value.ref b] below meth c s.heap [] 0 0 (lw_Z below #[Value.ref b] s) (entryFrame m ([Value.ref b] : List Value).toArray 4) := by
  obtain ⟨hx, hb, hr, hml, hown, hts, hX, hbl, hlocks, hgv⟩ := C0
  have hw : ∀ w ∈ zgw, w.before #[Value.ref b] s = true := fun w h => hts w (zgw_tbl h)
  have hA : ∀ a : Nat, a < s.heap.size → ¬ (fun q => s.heap.size ≤ q) a := fun a h q => absurd h (Nat.not_lt.mpr q)
  obtain ⟨⟨t1, hZ1, hT1⟩, t2, hZ2, hT2⟩ := zv_stat (A := fun q => s.heap.size ≤ q) hgv hw (hts _ (List.mem_append_right _ (List.mem_append_right _ (List.mem_append_right _ (List.mem_append_right _ (List.mem_append_left _ (List.mem_of_getElem? (i := 9) (by decide +kernel)))))))) (hts _ (List.mem_append_right _ (List.mem_append_right _ (List.mem_append_right _ (List.mem_append_right _ (List.mem_append_left _ (List.mem_of_getElem? (i := 70) (by decide +kernel)))))))) (zgw_of (List.mem_append_left _ (List.mem_of_getElem? (i := 1) (by decide +kernel))) rfl) hA
  obtain ⟨a10, ha10⟩ := zv_prim (ty := .char) (fun _ h => by cases h) (hw _ zl_ar_char)
  obtain ⟨a11, ha11⟩ := zv_prim (ty := .int) (fun _ h => by cases h) (hw _ zl_ar_int)
  obtain ⟨a12, ha12⟩ := zv_prim (ty := .boolean) (fun _ h => by cases h) (hw _ zl_ar_boolean)
  have hover : (Cond.arrayOver (.object "HiddenExits$State")).before #[Value.ref b] s = true := hts _ (List.mem_append_right _ (List.mem_append_right _ (List.mem_append_left _ (List.mem_of_getElem? (i := 40) (by decide +kernel)))))
  obtain ⟨a13, ha13⟩ := zv_refs hover
  have hcl : ∀ ci : Nat, ∃ q : ClassId × (Nat → Nat), ci < 10 → u_Kn s (zn_own ci) (zn_T ci) (zn_nf ci) q.1 q.2 := by
    intro ci
    by_cases h : ci < 10
    · obtain ⟨cC, iS, hk⟩ := u_known hw (zn_words h) (hw _ (zl_inst ci h))
      exact ⟨(cC, iS), fun _ => hk⟩
    · exact ⟨(0, fun _ => 0), fun q => absurd q h⟩
  let cA : Nat → ClassId := fun k => if k = 10 then a10 else if k = 11 then a11 else if k = 12 then a12 else a13
  let dD : va_G := (fun ci => (Classical.choose (hcl ci)).1, fun ci => (Classical.choose (hcl ci)).2)
  let x : Nat → Nat := fun q => if q = 1000001 then t1 else if q = 1000002 then t2 else b
  have hK : va_K dD vwCl (zv_ty cA) s := by
    refine ⟨fun ci q hq => ?_, fun k q hq => ?_⟩
    · have hlt : ci < 10 := (List.getElem?_eq_some_iff.mp hq).1
      rw [zn_cls hlt] at hq
      cases hq
      exact Classical.choose_spec (hcl ci) hlt
    · match k, hq with
      | 0, hq => cases hq; exact ha10
      | 1, hq => cases hq; exact ha11
      | 2, hq => cases hq; exact ha12
      | 3, hq => cases hq; exact ha13
      | k + 4, hq => cases hq
  have henv : zv_env s.heap.size x cA dD (L, xs) s := by
    refine ⟨hK, hZ1, hT1, hZ2, hT2, hX, hbl, fun w hwn => ?_, va_AO.of hover⟩
    obtain ⟨a, i, y, hh, rfl⟩ := znw_of hwn
    exact va_Nw.of rfl (hts _ (List.mem_append_right _ (List.mem_filter.mp hwn).1))
  obtain ⟨o, ho, ho1, ho2, ho3⟩ := hG L xs hL
  obtain ⟨f, hf⟩ := (zv_z_iff _ _ _ _ _ _ _ _ _ _ _ _).mp ho
  have hC : zv_C p room_1 s m #[Value.ref b] meth c code 4 10 false s.heap.size x cA dD (L, xs) 11 0 0 o :=
    ⟨hx, hb, hml, hown, hw, henv, rfl, (fun h => by cases h), Nat.le_of_ble_eq_true rfl, Nat.le_of_ble_eq_true rfl, ho2, ho3⟩
  have hR : zv_RT p l e room_1 s m #[Value.ref b] below meth c (lw_Z below #[Value.ref b] s) code s.heap.size x cA dD 0 0 o true 1 := by
    intro H locs ls pc h1 h4
    refine ⟨fun v hrk hv hbo hd => ?_, fun v hrk => absurd hrk (by decide), fun v hrk => absurd hrk (by decide), fun hrk => absurd hrk (by decide)⟩
    rw [ho1] at hv
    have hv1 : (1 : Int32) = v := congrArg Prod.fst hv
    subst hv1
    refine va_forget (fun q hq => h4.2.2 q hq) ?_
    refine W.widen (k := 600000) (n := 7302249) ho2 ho3 ?_
    exact lw_ret hx hb hr hlocks hd
  have hentry : [Value.ref b] = ([.ref 1000000] : List Value).map (zv_vl s.heap.size x) := rfl
  have key := (zv_main (l := l) (e := e) (below := below) (al := true) hC zto_law (zv_ev_ok l zv_mto_all 11) (zv_ei_ok l zv_mto_all 11) hR (fun _ => rfl) f 0 _ [] zS_in zD_in hf).2 s.heap [] _ ⟨zS_in_wf, fun k q hq => by cases hq⟩ (Nat.le_refl _) (Nat.le_refl _) va_S.rf (zv_lr_en (As := [.ref 1000000]) (n := 4) (by decide))
  rw [lg_entry_eq, hentry]
  exact key
