/-! ===== the rows of a method are right, and so is what the small machine says of it ===== -/
def zc (on nL rk : Nat) (ini : Bool) (pc : Nat) (ins : Instr) (n : Nat) (x : zv_X) : Bool := match ins with
  | .iconst i => Nat.beq n 1 && decide (Int32.ofInt i = x.2.2.2.1)
  | .bipush i => Nat.beq n 2 && decide ((Int8.ofInt i).toInt32 = x.2.2.2.1)
  | .sipush i => Nat.beq n 3 && decide ((Int16.ofInt i).toInt32 = x.2.2.2.1)
  | .ldc_w i => Nat.beq n 3 && decide ((on, i, x.2.2.2.1) ∈ zl_i)
  | .lconst j => Nat.beq n 1 && decide (Int64.ofNat (j : Nat) = x.2.2.2.2.1)
  | .ldc2_w i => Nat.beq n 3 && decide ((on, i, x.2.2.2.2.1) ∈ zl_l)
  | .iload i => Nat.beq n 2 && Nat.beq i x.1
  | .lload i => Nat.beq n 2 && Nat.beq i x.1
  | .aload i => Nat.beq n 2 && Nat.beq i x.1
  | .iload_n j => Nat.beq n 1 && Nat.beq (j : Nat) x.1
  | .lload_n j => Nat.beq n 1 && Nat.beq (j : Nat) x.1
  | .aload_n j => Nat.beq n 1 && Nat.beq (j : Nat) x.1
  | .istore i => Nat.beq n 2 && (Nat.beq i x.1 && Nat.blt x.1 nL)
  | .istore_n j => Nat.beq n 1 && (Nat.beq (j : Nat) x.1 && Nat.blt x.1 nL)
  | .astore_n j => Nat.beq n 1 && (Nat.beq (j : Nat) x.1 && Nat.blt x.1 nL)
  | .lstore i => Nat.beq n 2 && (Nat.beq i x.1 && Nat.blt (x.1 + 1) nL)
  | .lstore_n j => Nat.beq n 1 && (Nat.beq (j : Nat) x.1 && Nat.blt (x.1 + 1) nL)
  | .iinc i v => Nat.beq n 3 && (Nat.beq i x.1 && (decide (Int32.ofInt v = x.2.2.2.1) && Nat.blt x.1 nL))
  | .ifCond _ off => Nat.beq n 3 && decide ((pc : Int) + off = (x.1 : Int))
  | .if_icmp _ off => Nat.beq n 3 && decide ((pc : Int) + off = (x.1 : Int))
  | .goto off => Nat.beq n 3 && decide ((pc : Int) + off = (x.1 : Int))
  | .tableswitch df lo hi offs => decide ((pc : Int) + df = (x.1 : Int)) && (decide (hi = lo + offs.toList.length - 1) && zc_ts (pc : Int) lo offs.toList x.2.2.2.2.2)
  | .lookupswitch df ps => decide ((pc : Int) + df = (x.1 : Int)) && ((ps.toList.zip (ps.toList.drop 1)).all (fun (a, next) => a.1 < next.1) && zc_ls (pc : Int) ps.toList x.2.2.2.2.2)
  | .getfield i => Nat.beq n 3 && (Nat.blt x.1 10 && (Nat.blt x.2.1 (zn_nf x.1) && (Nat.beq (zn_ft x.1 x.2.1) x.2.2.1 && decide ((on, i, x.1, x.2.1) ∈ zl_f))))
  | .putfield i => Nat.beq n 3 && (Nat.blt x.1 10 && (Nat.blt x.2.1 (zn_nf x.1) && (Nat.beq (zn_ft x.1 x.2.1) x.2.2.1 && (decide ((on, i, x.1, x.2.1) ∈ zl_f) && (bif Nat.blt x.2.2.1 2 then !(zn_T x.1 x.2.1).2.2.2 else (zn_T x.1 x.2.1).2.2.2 && (ini && Nat.beq on x.1))))))
  | .getstatic i => Nat.beq n 3 && decide ((on, i, x.1) ∈ zl_s)
  | .new i => Nat.beq n 3 && (Nat.blt x.1 10 && (Nat.beq x.2.1 (zn_nf x.1) && decide ((on, i, x.1) ∈ zl_c)))
  | .newarray t => Nat.beq n 2 && (match t with
    | .int => Nat.beq x.1 11
    | .char => Nat.beq x.1 10
    | .boolean => Nat.beq x.1 12
    | _ => false)
  | .anewarray i => Nat.beq n 3 && decide ((on, i, 7) ∈ zl_c)
  | .invokevirtual i => Nat.beq n 3 && decide ((on, i, 0, x.1, x.2.1, x.2.2.1) ∈ zl_m)
  | .invokestatic i => Nat.beq n 3 && (bif Nat.beq x.1 999 then decide ((on, i) ∈ zl_a) else bif Nat.beq x.1 997 then decide ((on, i, 997) ∈ zl_x) else bif Nat.beq x.1 996 then decide ((on, i, 996) ∈ zl_x) else bif Nat.beq x.1 995 then decide ((on, i, 995) ∈ zl_x) else decide ((on, i, 1, x.1, x.2.1, x.2.2.1) ∈ zl_m))
  | .invokespecial i => Nat.beq n 3 && (bif Nat.beq x.1 998 then decide ((on, i) ∈ zl_o) else decide ((on, i, 2, x.1, x.2.1, x.2.2.1) ∈ zl_m))
  | .iadd => Nat.beq n 1
  | .isub => Nat.beq n 1
  | .imul => Nat.beq n 1
  | .iand => Nat.beq n 1
  | .ior => Nat.beq n 1
  | .ixor => Nat.beq n 1
  | .ishl => Nat.beq n 1
  | .ishr => Nat.beq n 1
  | .iushr => Nat.beq n 1
  | .idiv => Nat.beq n 1
  | .irem => Nat.beq n 1
  | .ineg => Nat.beq n 1
  | .ladd => Nat.beq n 1
  | .lsub => Nat.beq n 1
  | .lmul => Nat.beq n 1
  | .land => Nat.beq n 1
  | .lor => Nat.beq n 1
  | .ldiv => Nat.beq n 1
  | .lrem => Nat.beq n 1
  | .lcmp => Nat.beq n 1
  | .lshl => Nat.beq n 1
  | .lushr => Nat.beq n 1
  | .i2l => Nat.beq n 1
  | .l2i => Nat.beq n 1
  | .i2c => Nat.beq n 1
  | .dup => Nat.beq n 1
  | .dup2 => Nat.beq n 1
  | .pop => Nat.beq n 1
  | .iaload => Nat.beq n 1
  | .laload => Nat.beq n 1
  | .caload => Nat.beq n 1
  | .baload => Nat.beq n 1
  | .aaload => Nat.beq n 1
  | .iastore => Nat.beq n 1
  | .castore => Nat.beq n 1
  | .bastore => Nat.beq n 1
  | .aastore => Nat.beq n 1
  | .arraylength => Nat.beq n 1
  | .ireturn => Nat.beq n 1 && Nat.beq rk 1
  | .lreturn => Nat.beq n 1 && Nat.beq rk 2
  | .areturn => Nat.beq n 1 && Nat.beq rk 3
  | .return_ => Nat.beq n 1 && Nat.beq rk 0
  | _ => true
def zv_tok (on nL rk : Nat) (ini : Bool) (cc : ByteArray) (tb : List (Nat × List zv_E)) : Bool := tb.all fun h => h.2.all fun q => decide (decode cc q.1 = .ok (q.2.1, q.2.2.1)) && zc on nL rk ini q.1 q.2.1 q.2.2.1 q.2.2.2
theorem zv_ck_mem : ∀ (t : List zv_E) (pc : Nat) {e : Instr × Nat × zv_X}, zv_ck t pc = some e → (pc, e) ∈ t
  | [], _, _, h => by cases h
  | q :: t, pc, e, h => by
    unfold zv_ck at h
    cases hb : Nat.beq q.1 pc with
    | true =>
      rw [hb] at h
      have e1 : q.2 = e := Option.some.inj h
      have e2 : q.1 = pc := Nat.eq_of_beq_eq_true hb
      rw [← e1, ← e2]
      exact List.mem_cons_self
    | false =>
      rw [hb] at h
      exact List.mem_cons_of_mem _ (zv_ck_mem t pc h)
theorem zv_lk_mem : ∀ (tb : List (Nat × List zv_E)) (pc : Nat) {e : Instr × Nat × zv_X}, zv_lk tb pc = some e → ∃ q ∈ tb, (pc, e) ∈ q.2
  | [], _, _, h => by cases h
  | q :: t, pc, e, h => by
    unfold zv_lk at h
    cases hb : Nat.blt pc q.1 with
    | true =>
      rw [hb] at h
      exact ⟨q, List.mem_cons_self, zv_ck_mem q.2 pc h⟩
    | false =>
      rw [hb] at h
      obtain ⟨q', h1, h2⟩ := zv_lk_mem t pc h
      exact ⟨q', List.mem_cons_of_mem _ h1, h2⟩
theorem zv_tok_at {on nL rk : Nat} {ini : Bool} {cc : ByteArray} {tb : List (Nat × List zv_E)} {pc : Nat} {e : Instr × Nat × zv_X} (h : zv_tok on nL rk ini cc tb = true) (he : zv_lk tb pc = some e) : decode cc pc = .ok (e.1, e.2.1) ∧ zc on nL rk ini pc e.1 e.2.1 e.2.2 = true := by
  obtain ⟨q, h1, h2⟩ := zv_lk_mem tb pc he
  have h3 := List.all_eq_true.mp (List.all_eq_true.mp h q h1) _ h2
  simp only [Bool.and_eq_true, decide_eq_true_eq] at h3
  exact h3
/-- the arguments fit the method -/
def zv_rc (mt : zv_Mt) (As : List Value) (S : zv_S) : Bool := Nat.beq As.length mt.2.2.2.2.1 && (Nat.ble (zv_cs As) mt.2.2.1 && (match mt.2.2.2.2.2.2.2.1 with
  | 0 => (match As with
    | .ref q :: _ => Nat.beq (S.2.2.1 q).1 mt.2.2.2.2.2.2.1
    | _ => false)
  | 1 => true
  | _ => (match As with
    | .ref _ :: _ => true
    | _ => false)))
def zv_caok (l : Launch) (b : Nat) (x : Nat → Nat) (cA : Nat → ClassId) (dD : va_G) (xs : Nat × (Nat → Int32)) (d : Nat) (ca : zv_Ca) : Prop := ∀ k As S D r D', ca k As S D = some (r, D') → ∃ mt, zv_ms k = some mt ∧ zv_rc mt As S = true ∧ zv_ct l b x cA dD xs d mt As S D (r, S, D')
def zv_ciok (l : Launch) (b : Nat) (x : Nat → Nat) (cA : Nat → ClassId) (dD : va_G) (xs : Nat × (Nat → Int32)) (d : Nat) (ci : zv_Ci) : Prop := ∀ k As S D o', ci k As S D = some o' → ∃ mt, zv_ms k = some mt ∧ zv_rc mt As S = true ∧ zv_ct l b x cA dD xs d mt As S D o'
/-- what happens at a return -/
def zv_RT (p : Program) (l : Launch) (e : Env) (R : Room) (s : State) (m : MethodId) (args : Array Value) (below : List Frame) (meth : Method) (c : Code) (Q : State → Prop) (cc : ByteArray) (b : Nat) (x : Nat → Nat) (cA : Nat → ClassId) (dD : va_G) (n0 sl0 : Nat) (o : zv_O) (bo : Bool) (rk : Nat) : Prop :=
  ∀ (H : Heap) (locs : List Loc) (ls : Array Slot) (pc : Nat), zv_H b x cA dD o.2.1 o.2.2 H → va_S (fun q => b ≤ q) s.heap H locs →
    (∀ v, rk = 1 → o.1 = (v, 0, 0) → (bo = true → v = 0 ∨ v = 1) → decode cc pc = .ok (.ireturn, 1) → W p l e R s m args below meth c H locs (o.2.1.1 - n0) (o.2.1.2.1 - sl0) Q (F0 m pc ls [.int v])) ∧
    (∀ v, rk = 2 → o.1 = (0, v, 0) → decode cc pc = .ok (.lreturn, 1) → W p l e R s m args below meth c H locs (o.2.1.1 - n0) (o.2.1.2.1 - sl0) Q (F0 m pc ls [.long v])) ∧
    (∀ v, rk = 3 → o.1 = (0, 0, v) → decode cc pc = .ok (.areturn, 1) → W p l e R s m args below meth c H locs (o.2.1.1 - n0) (o.2.1.2.1 - sl0) Q (F0 m pc ls [.ref (zv_ad b x v)])) ∧
    (rk = 0 → o.1 = (0, 0, 0) → decode cc pc = .ok (.return_, 1) → W p l e R s m args below meth c H locs (o.2.1.1 - n0) (o.2.1.2.1 - sl0) Q (F0 m pc ls []))
section ZM
variable {p : Program} {l : Launch} {e : Env} {R : Room} {s : State} {m : MethodId} {args : Array Value} {below : List Frame} {meth : Method} {c : Code} {Q : State → Prop}
variable {cc : ByteArray} {nL on : Nat} {ini : Bool} {b : Nat} {x : Nat → Nat} {cA : Nat → ClassId} {dD : va_G} {xs : Nat × (Nat → Int32)} {d n0 sl0 : Nat} {o : zv_O}
variable {pc pc' : Nat} {lv lv' : zv_L} {st st' : List Value} {S S' : zv_S} {D D' : zv_D}
theorem zv_rc_0 {mt : zv_Mt} {As : List Value} (h : zv_rc mt As S = true) (hk : mt.2.2.2.2.2.2.2.1 = 0) : ∃ q Ps, As = .ref q :: Ps ∧ (S.2.2.1 q).1 = mt.2.2.2.2.2.2.1 ∧ Ps.length + 1 = mt.2.2.2.2.1 := by
  unfold zv_rc at h
  rw [hk] at h
  simp only [Bool.and_eq_true] at h
  obtain ⟨h1, -, h3⟩ := h
  split at h3
  · rename_i q Ps
    exact ⟨q, Ps, rfl, Nat.eq_of_beq_eq_true h3, Nat.eq_of_beq_eq_true h1⟩
  · cases h3
theorem zv_rc_2 {mt : zv_Mt} {As : List Value} (h : zv_rc mt As S = true) (hk : mt.2.2.2.2.2.2.2.1 = 2) : ∃ q Ps, As = .ref q :: Ps ∧ Ps.length + 1 = mt.2.2.2.2.1 := by
  unfold zv_rc at h
  rw [hk] at h
  simp only [Bool.and_eq_true] at h
  obtain ⟨h1, -, h3⟩ := h
  split at h3
  · rename_i q Ps
    exact ⟨q, Ps, rfl, Nat.eq_of_beq_eq_true h1⟩
  · cases h3
theorem zv_rc_n {mt : zv_Mt} {As : List Value} (h : zv_rc mt As S = true) : As.length = mt.2.2.2.2.1 ∧ zv_cs As ≤ mt.2.2.1 := by
  unfold zv_rc at h
  simp only [Bool.and_eq_true] at h
  exact ⟨Nat.eq_of_beq_eq_true h.1, Nat.le_of_ble_eq_true h.2.1⟩
theorem zq_invv (hC : zv_C p R s m args meth c cc nL on ini b x cA dD xs d n0 sl0 o) {ca : zv_Ca} (hca : zv_caok l b x cA dD xs d ca) {i kk na rk : Nat} (hm : (on, i, 0, kk, na, rk) ∈ zl_m) (hd : decode cc pc = .ok (.invokevirtual i, 3)) {k : zv_K} (hk : ∀ pc lv st S D, k pc lv st S D = some o → zv_G p l e R s m args below meth c Q nL b x cA dD n0 sl0 o pc lv st S D) (h : (bif Nat.ble (zv_cs (st.drop na)) 8 then (ca kk (st.take na).reverse S D).bind fun p => k (pc + 3) lv (zv_psh rk p.1 (st.drop na)) S p.2 else none) = some o) : zv_G p l e R s m args below meth c Q nL b x cA dD n0 sl0 o pc lv st S D := by
  cases hb : Nat.ble (zv_cs (st.drop na)) 8 with
  | false => rw [hb] at h; cases h
  | true =>
    rw [hb] at h
    replace h : (ca kk (st.take na).reverse S D).bind (fun p => k (pc + 3) lv (zv_psh rk p.1 (st.drop na)) S p.2) = some o := h
    cases hr : ca kk (st.take na).reverse S D with
    | none => rw [hr] at h; cases h
    | some q =>
      obtain ⟨r, D1⟩ := q
      rw [hr] at h
      obtain ⟨mt, g1, g2, g3⟩ := hca _ _ _ _ _ _ hr
      obtain ⟨e1, e2, e3, e4⟩ := zl_m_ok _ hm mt g1
      obtain ⟨q, Ps, f1, f2, f3⟩ := zv_rc_0 g2 e1
      have hl : Cond.methodLink (zn_own on) i mt.1 ∈ zgw := e4.resolve_right (fun z => z.1 rfl)
      rw [f1] at g3
      have key := zq_callV (l := l) (e := e) (below := below) (Q := Q) (lv := lv) hC (zv_ms_ok kk mt g1) e1 hl hd f2 f3 (Nat.le_of_ble_eq_true hb) g3 (by rw [e3]; exact hk _ _ _ _ _ h)
      rw [← f1, List.reverse_reverse, List.take_append_drop] at key
      exact key
theorem zq_invs (hC : zv_C p R s m args meth c cc nL on ini b x cA dD xs d n0 sl0 o) {ca : zv_Ca} (hca : zv_caok l b x cA dD xs d ca) {i kk na rk : Nat} (hm : (on, i, 1, kk, na, rk) ∈ zl_m) (hd : decode cc pc = .ok (.invokestatic i, 3)) {k : zv_K} (hk : ∀ pc lv st S D, k pc lv st S D = some o → zv_G p l e R s m args below meth c Q nL b x cA dD n0 sl0 o pc lv st S D) (h : (bif Nat.ble (zv_cs (st.drop na)) 8 then (ca kk (st.take na).reverse S D).bind fun p => k (pc + 3) lv (zv_psh rk p.1 (st.drop na)) S p.2 else none) = some o) : zv_G p l e R s m args below meth c Q nL b x cA dD n0 sl0 o pc lv st S D := by
  cases hb : Nat.ble (zv_cs (st.drop na)) 8 with
  | false => rw [hb] at h; cases h
  | true =>
    rw [hb] at h
    replace h : (ca kk (st.take na).reverse S D).bind (fun p => k (pc + 3) lv (zv_psh rk p.1 (st.drop na)) S p.2) = some o := h
    cases hr : ca kk (st.take na).reverse S D with
    | none => rw [hr] at h; cases h
    | some q =>
      obtain ⟨r, D1⟩ := q
      rw [hr] at h
      obtain ⟨mt, g1, g2, g3⟩ := hca _ _ _ _ _ _ hr
      obtain ⟨e1, e2, e3, e4⟩ := zl_m_ok _ hm mt g1
      have key := zq_callS (l := l) (e := e) (below := below) (Q := Q) (lv := lv) hC (zv_ms_ok kk mt g1) e1 (e4.imp (fun z => z) (fun z => z.2)) hd (zv_rc_n g2).1 (Nat.le_of_ble_eq_true hb) g3 (by rw [e3]; exact hk _ _ _ _ _ h)
      rw [List.reverse_reverse, List.take_append_drop] at key
      exact key
theorem zq_invi (hC : zv_C p R s m args meth c cc nL on ini b x cA dD xs d n0 sl0 o) {ci : zv_Ci} (hci : zv_ciok l b x cA dD xs d ci) {i kk na rk : Nat} (hm : (on, i, 2, kk, na, rk) ∈ zl_m) (hd : decode cc pc = .ok (.invokespecial i, 3)) {k : zv_K} (hk : ∀ pc lv st S D, k pc lv st S D = some o → zv_G p l e R s m args below meth c Q nL b x cA dD n0 sl0 o pc lv st S D) (h : (bif Nat.ble (zv_cs (st.drop na)) 8 then (ci kk (st.take na).reverse S D).bind fun p => k (pc + 3) lv (st.drop na) p.2.1 p.2.2 else none) = some o) : zv_G p l e R s m args below meth c Q nL b x cA dD n0 sl0 o pc lv st S D := by
  cases hb : Nat.ble (zv_cs (st.drop na)) 8 with
  | false => rw [hb] at h; cases h
  | true =>
    rw [hb] at h
    replace h : (ci kk (st.take na).reverse S D).bind (fun p => k (pc + 3) lv (st.drop na) p.2.1 p.2.2) = some o := h
    cases hr : ci kk (st.take na).reverse S D with
    | none => rw [hr] at h; cases h
    | some q =>
      rw [hr] at h
      obtain ⟨mt, g1, g2, g3⟩ := hci _ _ _ _ _ hr
      obtain ⟨e1, e2, e3, e4⟩ := zl_m_ok _ hm mt g1
      obtain ⟨q', Ps, f1, f3⟩ := zv_rc_2 g2 e1
      rw [f1] at g3
      have key := zq_callI (l := l) (e := e) (below := below) (Q := Q) (lv := lv) hC (zv_ms_ok kk mt g1) e1 (e4.imp (fun z => z) (fun z => z.2)) hd f3 (Nat.le_of_ble_eq_true hb) g3 (hk _ _ _ _ _ h)
      rw [← f1, List.reverse_reverse, List.take_append_drop] at key
      exact key
theorem zq_mmin (hC : zv_C p R s m args meth c cc nL on ini b x cA dD xs d n0 sl0 o) {i : Nat} (hm : (on, i, 997) ∈ zl_x) (hd : decode cc pc = .ok (.invokestatic i, 3)) {k : zv_K} (hk : ∀ pc lv st S D, k pc lv st S D = some o → zv_G p l e R s m args below meth c Q nL b x cA dD n0 sl0 o pc lv st S D) (h : zv_i2 st (fun a b2 r => bif Nat.ble (zv_cs r) 8 then k (pc + 3) lv (.int (if b2 < a then b2 else a) :: r) S D else none) = some o) : zv_G p l e R s m args below meth c Q nL b x cA dD n0 sl0 o pc lv st S D := by
  unfold zv_i2 at h; split at h
  · rename_i r
    dsimp only at h
    cases hb : Nat.ble (zv_cs r) 8 with
    | false => rw [hb] at h; cases h
    | true =>
      rw [hb] at h
      have hg := hk _ _ _ _ _ h
      have hb' : zv_cs r ≤ 8 := Nat.le_of_ble_eq_true hb
      refine ⟨hg.1, fun H locs ls h1 h2 h3 h4 h5 => ?_⟩
      have hw := zl_xw_min
      refine va_mmin hC.1 hC.2.1 (by rw [hC.2.2.1]; exact h5.1.symm) hC.2.2.2.1 (hC.2.2.2.2.1 _ (zl_x_ok _ hm)) (hC.2.2.2.2.1 _ hw.1) (hC.2.2.2.2.1 _ hw.2.1) (hC.2.2.2.2.1 _ hw.2.2) (by have := hC.2.2.2.2.2.2.2.2.1; omega) (by
        rw [zv_cs_sum, zv_cs_map]
        have := hC.2.2.2.2.2.2.2.2.2.1
        omega) (by have := hC.2.2.2.2.2.2.2.2.2.2; have := hg.1; omega) (by have := hC.2.2.2.2.2.2.2.2.2.2; have := hg.1; omega) hd (hg.2 H locs ls h1 h2 h3 h4 h5)
  · cases h
theorem zq_mmax (hC : zv_C p R s m args meth c cc nL on ini b x cA dD xs d n0 sl0 o) {i : Nat} (hm : (on, i, 996) ∈ zl_x) (hd : decode cc pc = .ok (.invokestatic i, 3)) {k : zv_K} (hk : ∀ pc lv st S D, k pc lv st S D = some o → zv_G p l e R s m args below meth c Q nL b x cA dD n0 sl0 o pc lv st S D) (h : zv_i2 st (fun a b2 r => bif Nat.ble (zv_cs r) 8 then k (pc + 3) lv (.int (if a < b2 then b2 else a) :: r) S D else none) = some o) : zv_G p l e R s m args below meth c Q nL b x cA dD n0 sl0 o pc lv st S D := by
  unfold zv_i2 at h; split at h
  · rename_i r
    dsimp only at h
    cases hb : Nat.ble (zv_cs r) 8 with
    | false => rw [hb] at h; cases h
    | true =>
      rw [hb] at h
      have hg := hk _ _ _ _ _ h
      have hb' : zv_cs r ≤ 8 := Nat.le_of_ble_eq_true hb
      refine ⟨hg.1, fun H locs ls h1 h2 h3 h4 h5 => ?_⟩
      have hw := zl_xw_max
      refine va_mmax hC.1 hC.2.1 (by rw [hC.2.2.1]; exact h5.1.symm) hC.2.2.2.1 (hC.2.2.2.2.1 _ (zl_x_ok _ hm)) (hC.2.2.2.2.1 _ hw.1) (hC.2.2.2.2.1 _ hw.2.1) (hC.2.2.2.2.1 _ hw.2.2) (by have := hC.2.2.2.2.2.2.2.2.1; omega) (by
        rw [zv_cs_sum, zv_cs_map]
        have := hC.2.2.2.2.2.2.2.2.2.1
        omega) (by have := hC.2.2.2.2.2.2.2.2.2.2; have := hg.1; omega) (by have := hC.2.2.2.2.2.2.2.2.2.2; have := hg.1; omega) hd (hg.2 H locs ls h1 h2 h3 h4 h5)
  · cases h
theorem zq_mabs (hC : zv_C p R s m args meth c cc nL on ini b x cA dD xs d n0 sl0 o) {i : Nat} (hm : (on, i, 995) ∈ zl_x) (hd : decode cc pc = .ok (.invokestatic i, 3)) {k : zv_K} (hk : ∀ pc lv st S D, k pc lv st S D = some o → zv_G p l e R s m args below meth c Q nL b x cA dD n0 sl0 o pc lv st S D) (h : zv_i1 st (fun a r => bif Nat.ble (zv_cs r) 8 then k (pc + 3) lv (.int (if 0 ≤ a then a else 0 - a) :: r) S D else none) = some o) : zv_G p l e R s m args below meth c Q nL b x cA dD n0 sl0 o pc lv st S D := by
  unfold zv_i1 at h; split at h
  · rename_i r
    dsimp only at h
    cases hb : Nat.ble (zv_cs r) 8 with
    | false => rw [hb] at h; cases h
    | true =>
      rw [hb] at h
      have hg := hk _ _ _ _ _ h
      have hb' : zv_cs r ≤ 8 := Nat.le_of_ble_eq_true hb
      refine ⟨hg.1, fun H locs ls h1 h2 h3 h4 h5 => ?_⟩
      have hw := zl_xw_abs
      refine va_mabs hC.1 hC.2.1 (by rw [hC.2.2.1]; exact h5.1.symm) hC.2.2.2.1 (hC.2.2.2.2.1 _ (zl_x_ok _ hm)) (hC.2.2.2.2.1 _ hw.1) (hC.2.2.2.2.1 _ hw.2.1) (hC.2.2.2.2.1 _ hw.2.2) (by have := hC.2.2.2.2.2.2.2.2.1; omega) (by
        rw [zv_cs_sum, zv_cs_map]
        have := hC.2.2.2.2.2.2.2.2.2.1
        omega) (by have := hC.2.2.2.2.2.2.2.2.2.2; have := hg.1; omega) (by have := hC.2.2.2.2.2.2.2.2.2.2; have := hg.1; omega) hd (hg.2 H locs ls h1 h2 h3 h4 h5)
  · cases h
theorem zv_main (hC : zv_C p R s m args meth c cc nL on ini b x cA dD xs d n0 sl0 o) {al bo : Bool} {xs' : Nat × (Nat → Int32)} {tb : List (Nat × List zv_E)} {ca : zv_Ca} {ci : zv_Ci} {rk : Nat} (htb : zv_tok on nL rk ini cc tb = true) (hca : zv_caok l b x cA dD xs d ca) (hci : zv_ciok l b x cA dD xs d ci) (hR : zv_RT p l e R s m args below meth c Q cc b x cA dD n0 sl0 o bo rk) (hxs : al = true → xs' = xs) :
    ∀ (f pc : Nat) (lv : zv_L) (st : List Value) (S : zv_S) (D : zv_D), zv_r al tb ca ci xs' bo f pc lv st S D = some o → zv_G p l e R s m args below meth c Q nL b x cA dD n0 sl0 o pc lv st S D := by
  intro f
  induction f with
  | zero => intro pc lv st S D h; cases h
  | succ f ih =>
    intro pc lv st S D h
    have hk : ∀ pc lv st S D, zv_r al tb ca ci xs' bo f pc lv st S D = some o → zv_G p l e R s m args below meth c Q nL b x cA dD n0 sl0 o pc lv st S D := ih
    replace h : zv_1 al tb ca ci xs' bo (zv_r al tb ca ci xs' bo f) pc lv st S D = some o := h
    generalize zv_r al tb ca ci xs' bo f = k at h hk
    unfold zv_1 at h
    cases he : zv_lk tb pc with
    | none => rw [he] at h; cases h
    | some en =>
      rw [he] at h
      obtain ⟨hd, hz⟩ := zv_tok_at htb he
      obtain ⟨ins, n, y⟩ := en
      dsimp only at h hd hz
      cases ins
      case iconst i =>
        simp only [zc, Bool.and_eq_true, decide_eq_true_eq] at hz
        obtain ⟨e1, hz⟩ := hz
        have e1 : n = 1 := Nat.eq_of_beq_eq_true e1
        subst e1
        exact zq_iconst hC hz hd hk h
      case bipush i =>
        simp only [zc, Bool.and_eq_true, decide_eq_true_eq] at hz
        obtain ⟨e1, hz⟩ := hz
        have e1 : n = 2 := Nat.eq_of_beq_eq_true e1
        subst e1
        exact zq_bipush hC hz hd hk h
      case sipush i =>
        simp only [zc, Bool.and_eq_true, decide_eq_true_eq] at hz
        obtain ⟨e1, hz⟩ := hz
        have e1 : n = 3 := Nat.eq_of_beq_eq_true e1
        subst e1
        exact zq_sipush hC hz hd hk h
      case ldc_w i =>
        simp only [zc, Bool.and_eq_true, decide_eq_true_eq] at hz
        obtain ⟨e1, hz⟩ := hz
        have e1 : n = 3 := Nat.eq_of_beq_eq_true e1
        subst e1
        exact zq_ldcw hC (zl_i_ok _ hz) hd hk h
      case lconst i =>
        simp only [zc, Bool.and_eq_true, decide_eq_true_eq] at hz
        obtain ⟨e1, hz⟩ := hz
        have e1 : n = 1 := Nat.eq_of_beq_eq_true e1
        subst e1
        exact zq_lconst hC hz hd hk h
      case ldc2_w i =>
        simp only [zc, Bool.and_eq_true, decide_eq_true_eq] at hz
        obtain ⟨e1, hz⟩ := hz
        have e1 : n = 3 := Nat.eq_of_beq_eq_true e1
        subst e1
        exact zq_ldc2 hC (zl_l_ok _ hz) hd hk h
      case iload i =>
        simp only [zc, Bool.and_eq_true, decide_eq_true_eq] at hz
        obtain ⟨e1, hz⟩ := hz
        have e1 : n = 2 := Nat.eq_of_beq_eq_true e1
        subst e1
        have e2 : i = y.1 := Nat.eq_of_beq_eq_true hz
        subst e2
        exact zq_iload hC hd hk h
      case iload_n j =>
        simp only [zc, Bool.and_eq_true, decide_eq_true_eq] at hz
        obtain ⟨e1, hz⟩ := hz
        have e1 : n = 1 := Nat.eq_of_beq_eq_true e1
        subst e1
        exact zq_iloadn hC (Nat.eq_of_beq_eq_true hz) hd hk h
      case lload i =>
        simp only [zc, Bool.and_eq_true, decide_eq_true_eq] at hz
        obtain ⟨e1, hz⟩ := hz
        have e1 : n = 2 := Nat.eq_of_beq_eq_true e1
        subst e1
        have e2 : i = y.1 := Nat.eq_of_beq_eq_true hz
        subst e2
        exact zq_lload hC hd hk h
      case lload_n j =>
        simp only [zc, Bool.and_eq_true, decide_eq_true_eq] at hz
        obtain ⟨e1, hz⟩ := hz
        have e1 : n = 1 := Nat.eq_of_beq_eq_true e1
        subst e1
        exact zq_lloadn hC (Nat.eq_of_beq_eq_true hz) hd hk h
      case aload i =>
        simp only [zc, Bool.and_eq_true, decide_eq_true_eq] at hz
        obtain ⟨e1, hz⟩ := hz
        have e1 : n = 2 := Nat.eq_of_beq_eq_true e1
        subst e1
        have e2 : i = y.1 := Nat.eq_of_beq_eq_true hz
        subst e2
        exact zq_aload hC hd hk h
      case aload_n j =>
        simp only [zc, Bool.and_eq_true, decide_eq_true_eq] at hz
        obtain ⟨e1, hz⟩ := hz
        have e1 : n = 1 := Nat.eq_of_beq_eq_true e1
        subst e1
        exact zq_aloadn hC (Nat.eq_of_beq_eq_true hz) hd hk h
      case istore i =>
        simp only [zc, Bool.and_eq_true, decide_eq_true_eq] at hz
        obtain ⟨e1, hz⟩ := hz
        have e1 : n = 2 := Nat.eq_of_beq_eq_true e1
        subst e1
        have e2 : i = y.1 := Nat.eq_of_beq_eq_true hz.1
        subst e2
        exact zq_istore hC (by simpa using hz.2) hd hk h
      case lstore i =>
        simp only [zc, Bool.and_eq_true, decide_eq_true_eq] at hz
        obtain ⟨e1, hz⟩ := hz
        have e1 : n = 2 := Nat.eq_of_beq_eq_true e1
        subst e1
        have e2 : i = y.1 := Nat.eq_of_beq_eq_true hz.1
        subst e2
        exact zq_lstore hC (by simpa using hz.2) hd hk h
      case istore_n j =>
        simp only [zc, Bool.and_eq_true, decide_eq_true_eq] at hz
        obtain ⟨e1, hz⟩ := hz
        have e1 : n = 1 := Nat.eq_of_beq_eq_true e1
        subst e1
        exact zq_istoren hC (Nat.eq_of_beq_eq_true hz.1) (by simpa using hz.2) hd hk h
      case lstore_n j =>
        simp only [zc, Bool.and_eq_true, decide_eq_true_eq] at hz
        obtain ⟨e1, hz⟩ := hz
        have e1 : n = 1 := Nat.eq_of_beq_eq_true e1
        subst e1
        exact zq_lstoren hC (Nat.eq_of_beq_eq_true hz.1) (by simpa using hz.2) hd hk h
      case astore_n j =>
        simp only [zc, Bool.and_eq_true, decide_eq_true_eq] at hz
        obtain ⟨e1, hz⟩ := hz
        have e1 : n = 1 := Nat.eq_of_beq_eq_true e1
        subst e1
        exact zq_astoren hC (Nat.eq_of_beq_eq_true hz.1) (by simpa using hz.2) hd hk h
      case iinc i v =>
        simp only [zc, Bool.and_eq_true, decide_eq_true_eq] at hz
        obtain ⟨e1, hz⟩ := hz
        have e1 : n = 3 := Nat.eq_of_beq_eq_true e1
        subst e1
        have e2 : i = y.1 := Nat.eq_of_beq_eq_true hz.1
        subst e2
        exact zq_iinc hC hz.2.1 (by simpa using hz.2.2) hd hk h
      case ifCond cd off =>
        simp only [zc, Bool.and_eq_true, decide_eq_true_eq] at hz
        obtain ⟨e1, hz⟩ := hz
        have e1 : n = 3 := Nat.eq_of_beq_eq_true e1
        subst e1
        cases cd
        · exact zq_if_eq hC hz hd hk h
        · exact zq_if_ne hC hz hd hk h
        · exact zq_if_lt hC hz hd hk h
        · exact zq_if_ge hC hz hd hk h
        · exact zq_if_gt hC hz hd hk h
        · exact zq_if_le hC hz hd hk h
      case if_icmp cd off =>
        simp only [zc, Bool.and_eq_true, decide_eq_true_eq] at hz
        obtain ⟨e1, hz⟩ := hz
        have e1 : n = 3 := Nat.eq_of_beq_eq_true e1
        subst e1
        cases cd
        · exact zq_icmp_eq hC hz hd hk h
        · exact zq_icmp_ne hC hz hd hk h
        · exact zq_icmp_lt hC hz hd hk h
        · exact zq_icmp_ge hC hz hd hk h
        · exact zq_icmp_gt hC hz hd hk h
        · exact zq_icmp_le hC hz hd hk h
      case goto off =>
        simp only [zc, Bool.and_eq_true, decide_eq_true_eq] at hz
        obtain ⟨e1, hz⟩ := hz
        have e1 : n = 3 := Nat.eq_of_beq_eq_true e1
        subst e1
        exact zq_goto hC hz hd hk h
      case tableswitch df lo hi offs =>
        simp only [zc, Bool.and_eq_true, decide_eq_true_eq] at hz
        exact zq_tsw hC hz.1 hz.2.1 hz.2.2 hd hk h
      case lookupswitch df ps =>
        simp only [zc, Bool.and_eq_true, decide_eq_true_eq] at hz
        exact zq_lsw hC hz.1 hz.2.1 hz.2.2 hd hk h
      case getfield i =>
        simp only [zc, Bool.and_eq_true, decide_eq_true_eq] at hz
        obtain ⟨e1, hz⟩ := hz
        have e1 : n = 3 := Nat.eq_of_beq_eq_true e1
        subst e1
        obtain ⟨z1, z2, z3, z4⟩ := hz
        exact zq_getf hC (by simpa using z1) (by simpa using z2) (Nat.eq_of_beq_eq_true z3) (zl_f_ok _ z4) hd hk h
      case putfield i =>
        simp only [zc, Bool.and_eq_true, decide_eq_true_eq] at hz
        obtain ⟨e1, hz⟩ := hz
        have e1 : n = 3 := Nat.eq_of_beq_eq_true e1
        subst e1
        obtain ⟨z1, z2, z3, z4, z5⟩ := hz
        refine zq_putf (al := al) hC (by simpa using z1) (by simpa using z2) (Nat.eq_of_beq_eq_true z3) (zl_f_ok _ z4) (fun hlt => ?_) (fun hlt => ?_) hd hk h
        · rw [zv_blt hlt] at z5
          simpa using z5
        · have hf : Nat.blt y.2.2.1 2 = false := by
            cases hb : Nat.blt y.2.2.1 2 with
            | false => rfl
            | true => exact absurd (by simpa using hb) hlt
          rw [hf] at z5
          simp only [cond_false, Bool.and_eq_true] at z5
          exact ⟨z5.1, z5.2.1, Nat.eq_of_beq_eq_true z5.2.2⟩
      case getstatic i =>
        simp only [zc, Bool.and_eq_true, decide_eq_true_eq] at hz
        obtain ⟨e1, hz⟩ := hz
        have e1 : n = 3 := Nat.eq_of_beq_eq_true e1
        subst e1
        exact zq_gets hC (zl_s_ok _ hz) hd hk h
      case iadd =>
        have e1 : n = 1 := Nat.eq_of_beq_eq_true hz
        subst e1
        exact zq_iadd hC hd hk h
      case isub =>
        have e1 : n = 1 := Nat.eq_of_beq_eq_true hz
        subst e1
        exact zq_isub hC hd hk h
      case imul =>
        have e1 : n = 1 := Nat.eq_of_beq_eq_true hz
        subst e1
        exact zq_imul hC hd hk h
      case iand =>
        have e1 : n = 1 := Nat.eq_of_beq_eq_true hz
        subst e1
        exact zq_iand hC hd hk h
      case ior =>
        have e1 : n = 1 := Nat.eq_of_beq_eq_true hz
        subst e1
        exact zq_ior hC hd hk h
      case ixor =>
        have e1 : n = 1 := Nat.eq_of_beq_eq_true hz
        subst e1
        exact zq_ixor hC hd hk h
      case ishl =>
        have e1 : n = 1 := Nat.eq_of_beq_eq_true hz
        subst e1
        exact zq_ishl hC hd hk h
      case ishr =>
        have e1 : n = 1 := Nat.eq_of_beq_eq_true hz
        subst e1
        exact zq_ishr hC hd hk h
      case iushr =>
        have e1 : n = 1 := Nat.eq_of_beq_eq_true hz
        subst e1
        exact zq_iushr hC hd hk h
      case idiv =>
        have e1 : n = 1 := Nat.eq_of_beq_eq_true hz
        subst e1
        exact zq_idiv hC hd hk h
      case irem =>
        have e1 : n = 1 := Nat.eq_of_beq_eq_true hz
        subst e1
        exact zq_irem hC hd hk h
      case ineg =>
        have e1 : n = 1 := Nat.eq_of_beq_eq_true hz
        subst e1
        exact zq_ineg hC hd hk h
      case ladd =>
        have e1 : n = 1 := Nat.eq_of_beq_eq_true hz
        subst e1
        exact zq_ladd hC hd hk h
      case lsub =>
        have e1 : n = 1 := Nat.eq_of_beq_eq_true hz
        subst e1
        exact zq_lsub hC hd hk h
      case lmul =>
        have e1 : n = 1 := Nat.eq_of_beq_eq_true hz
        subst e1
        exact zq_lmul hC hd hk h
      case land =>
        have e1 : n = 1 := Nat.eq_of_beq_eq_true hz
        subst e1
        exact zq_land hC hd hk h
      case lor =>
        have e1 : n = 1 := Nat.eq_of_beq_eq_true hz
        subst e1
        exact zq_lor hC hd hk h
      case ldiv =>
        have e1 : n = 1 := Nat.eq_of_beq_eq_true hz
        subst e1
        exact zq_ldiv hC hd hk h
      case lrem =>
        have e1 : n = 1 := Nat.eq_of_beq_eq_true hz
        subst e1
        exact zq_lrem hC hd hk h
      case lcmp =>
        have e1 : n = 1 := Nat.eq_of_beq_eq_true hz
        subst e1
        exact zq_lcmp hC hd hk h
      case lshl =>
        have e1 : n = 1 := Nat.eq_of_beq_eq_true hz
        subst e1
        exact zq_lshl hC hd hk h
      case lushr =>
        have e1 : n = 1 := Nat.eq_of_beq_eq_true hz
        subst e1
        exact zq_lushr hC hd hk h
      case i2l =>
        have e1 : n = 1 := Nat.eq_of_beq_eq_true hz
        subst e1
        exact zq_i2l hC hd hk h
      case l2i =>
        have e1 : n = 1 := Nat.eq_of_beq_eq_true hz
        subst e1
        exact zq_l2i hC hd hk h
      case i2c =>
        have e1 : n = 1 := Nat.eq_of_beq_eq_true hz
        subst e1
        exact zq_i2c hC hd hk h
      case dup =>
        have e1 : n = 1 := Nat.eq_of_beq_eq_true hz
        subst e1
        exact zq_dup hC hd hk h
      case dup2 =>
        have e1 : n = 1 := Nat.eq_of_beq_eq_true hz
        subst e1
        exact zq_dup2 hC hd hk h
      case pop =>
        have e1 : n = 1 := Nat.eq_of_beq_eq_true hz
        subst e1
        exact zq_pop hC hd hk h
      case iaload =>
        have e1 : n = 1 := Nat.eq_of_beq_eq_true hz
        subst e1
        replace h : zv_ia st _ = some o := h
        unfold zv_ia at h; split at h
        · rename_i i a r
          dsimp only at h
          cases q11 : Nat.beq (S.2.2.1 a).1 11 with
          | true =>
            rw [q11] at h
            cases hi : zv_in i (S.2.2.1 a).2 with
            | false => rw [hi] at h; cases h
            | true =>
              rw [hi] at h
              exact zq_iald hC hd hk (Nat.eq_of_beq_eq_true q11) hi h
          | false =>
            rw [q11] at h
            cases q21 : Nat.beq (S.2.2.1 a).1 21 with
            | true =>
              rw [q21] at h
              cases hi : al && zv_in i xs'.1 with
              | false => rw [hi] at h; cases h
              | true =>
                rw [hi] at h
                exact zq_sald hC hd hk (Nat.eq_of_beq_eq_true q21) (by simp only [Bool.and_eq_true] at hi; rw [← hxs hi.1]; exact hi.2) (by simp only [Bool.and_eq_true] at hi; rw [← hxs hi.1]; exact h)
            | false =>
              rw [q21] at h
              cases q22 : Nat.beq (S.2.2.1 a).1 22 with
              | true =>
                rw [q22] at h
                cases hi : zv_in i 5 with
                | false => rw [hi] at h; cases h
                | true =>
                  rw [hi] at h
                  exact zq_fald hC hd hk (Nat.eq_of_beq_eq_true q22) hi h
              | false =>
                rw [q22] at h
                cases h
        · cases h
      case laload =>
        have e1 : n = 1 := Nat.eq_of_beq_eq_true hz
        subst e1
        replace h : zv_ia st _ = some o := h
        unfold zv_ia at h; split at h
        · rename_i i a r
          dsimp only at h
          cases q24 : Nat.beq (S.2.2.1 a).1 24 with
          | true =>
            rw [q24] at h
            cases hi : zv_in i 5 with
            | false => rw [hi] at h; cases h
            | true =>
              rw [hi] at h
              exact zq_lald hC hd hk (Nat.eq_of_beq_eq_true q24) hi h
          | false =>
            rw [q24] at h
            cases h
        · cases h
      case caload =>
        have e1 : n = 1 := Nat.eq_of_beq_eq_true hz
        subst e1
        replace h : zv_ia st _ = some o := h
        unfold zv_ia at h; split at h
        · rename_i i a r
          dsimp only at h
          cases q10 : Nat.beq (S.2.2.1 a).1 10 with
          | true =>
            rw [q10] at h
            cases hi : zv_in i (S.2.2.1 a).2 with
            | false => rw [hi] at h; cases h
            | true =>
              rw [hi] at h
              exact zq_cald hC hd hk (Nat.eq_of_beq_eq_true q10) hi h
          | false =>
            rw [q10] at h
            cases h
        · cases h
      case baload =>
        have e1 : n = 1 := Nat.eq_of_beq_eq_true hz
        subst e1
        replace h : zv_ia st _ = some o := h
        unfold zv_ia at h; split at h
        · rename_i i a r
          dsimp only at h
          cases q12 : Nat.beq (S.2.2.1 a).1 12 with
          | true =>
            rw [q12] at h
            cases hi : zv_in i (S.2.2.1 a).2 with
            | false => rw [hi] at h; cases h
            | true =>
              rw [hi] at h
              exact zq_bald hC hd hk (Nat.eq_of_beq_eq_true q12) hi h
          | false =>
            rw [q12] at h
            cases h
        · cases h
      case aaload =>
        have e1 : n = 1 := Nat.eq_of_beq_eq_true hz
        subst e1
        replace h : zv_ia st _ = some o := h
        unfold zv_ia at h; split at h
        · rename_i i a r
          dsimp only at h
          cases q13 : Nat.beq (S.2.2.1 a).1 13 with
          | false => rw [q13] at h; cases h
          | true =>
            rw [q13] at h
            cases hi : zv_in i (S.2.2.1 a).2 with
            | false => rw [hi] at h; cases h
            | true =>
              rw [hi] at h
              replace h : (S.2.2.2 a i.toNatClampNeg).bind _ = some o := h
              cases hr : S.2.2.2 a i.toNatClampNeg with
              | none => rw [hr] at h; cases h
              | some a2 =>
                rw [hr] at h
                exact zq_aald hC hd hk (Nat.eq_of_beq_eq_true q13) hi hr h
        · cases h
      case iastore =>
        have e1 : n = 1 := Nat.eq_of_beq_eq_true hz
        subst e1
        replace h : zv_via st _ = some o := h
        unfold zv_via at h; split at h
        · rename_i v i a r
          dsimp only at h
          cases q1 : Nat.beq (S.2.2.1 a).1 11 with
          | false => rw [q1] at h; cases h
          | true =>
            rw [q1] at h
            cases hi : zv_in i (S.2.2.1 a).2 with
            | false => rw [hi] at h; cases h
            | true =>
              rw [hi] at h
              exact zq_iast hC hd hk (Nat.eq_of_beq_eq_true q1) hi h
        · cases h
      case castore =>
        have e1 : n = 1 := Nat.eq_of_beq_eq_true hz
        subst e1
        replace h : zv_via st _ = some o := h
        unfold zv_via at h; split at h
        · rename_i v i a r
          dsimp only at h
          cases q1 : Nat.beq (S.2.2.1 a).1 10 with
          | false => rw [q1] at h; cases h
          | true =>
            rw [q1] at h
            cases hi : zv_in i (S.2.2.1 a).2 with
            | false => rw [hi] at h; cases h
            | true =>
              rw [hi] at h
              exact zq_cast hC hd hk (Nat.eq_of_beq_eq_true q1) hi h
        · cases h
      case bastore =>
        have e1 : n = 1 := Nat.eq_of_beq_eq_true hz
        subst e1
        replace h : zv_via st _ = some o := h
        unfold zv_via at h; split at h
        · rename_i v i a r
          dsimp only at h
          cases q1 : Nat.beq (S.2.2.1 a).1 12 with
          | false => rw [q1] at h; cases h
          | true =>
            rw [q1] at h
            cases hi : zv_in i (S.2.2.1 a).2 with
            | false => rw [hi] at h; cases h
            | true =>
              rw [hi] at h
              exact zq_bast hC hd hk (Nat.eq_of_beq_eq_true q1) hi h
        · cases h
      case aastore =>
        have e1 : n = 1 := Nat.eq_of_beq_eq_true hz
        subst e1
        cases al with
        | false => cases h
        | true =>
          replace h : zv_a1 st _ = some o := h
          unfold zv_a1 at h; split at h
          · rename_i a2 r0
            dsimp only at h
            unfold zv_ia at h; split at h
            · rename_i i a r
              dsimp only at h
              cases hb : (Nat.beq (S.2.2.1 a).1 13 && (Nat.beq (S.2.2.1 a2).1 7 && zv_in i (S.2.2.1 a).2)) with
              | false => rw [hb] at h; cases h
              | true =>
                rw [hb] at h
                simp only [Bool.and_eq_true] at hb
                exact zq_aast hC hd hk (Nat.eq_of_beq_eq_true hb.1) (Nat.eq_of_beq_eq_true hb.2.1) hb.2.2 h
            · cases h
          · cases h
      case arraylength =>
        have e1 : n = 1 := Nat.eq_of_beq_eq_true hz
        subst e1
        replace h : zv_a1 st _ = some o := h
        unfold zv_a1 at h; split at h
        · rename_i a r
          dsimp only at h
          cases al with
          | false => exact zq_alen (al := false) hC hd hk h
          | true =>
            rw [hxs rfl] at h
            exact zq_alen (al := true) hC hd hk h
        · cases h
      case new i =>
        simp only [zc, Bool.and_eq_true, decide_eq_true_eq] at hz
        obtain ⟨e1, hz⟩ := hz
        have e1 : n = 3 := Nat.eq_of_beq_eq_true e1
        subst e1
        obtain ⟨z1, z2, z3⟩ := hz
        have e2 : y.2.1 = zn_nf y.1 := Nat.eq_of_beq_eq_true z2
        replace h : (bif al && Nat.ble S.1 100000 then k (pc + 3) lv (.ref S.1 :: st) (zv_new S y.1 y.2.1) (zv_zer S D) else none) = some o := h
        cases hb : (al && Nat.ble S.1 100000) with
        | false => rw [hb] at h; cases h
        | true =>
          rw [hb, e2] at h
          simp only [Bool.and_eq_true] at hb
          have hc := zl_c_ok _ z3
          exact zq_new hC (by simpa using z1) hc.1 hc.2.1 hc.2.2 hd hk (Nat.le_of_ble_eq_true hb.2) h
      case newarray t =>
        simp only [zc, Bool.and_eq_true, decide_eq_true_eq] at hz
        obtain ⟨e1, hz⟩ := hz
        have e1 : n = 2 := Nat.eq_of_beq_eq_true e1
        subst e1
        cases al with
        | false => cases h
        | true =>
          replace h : zv_i1 st _ = some o := h
          unfold zv_i1 at h; split at h
          · rename_i v r
            dsimp only at h
            cases hb : (!(decide (v < 0)) && (Nat.ble v.toNatClampNeg 65536 && Nat.ble S.1 100000)) with
            | false => rw [hb] at h; cases h
            | true =>
              rw [hb] at h
              simp only [Bool.and_eq_true, Bool.not_eq_true', decide_eq_false_iff_not] at hb
              cases t
              case int =>
                have e2 : y.1 = 11 := Nat.eq_of_beq_eq_true hz
                rw [e2] at h
                exact zq_newa_int hC zl_ar_int hd hk hb.1 (Nat.le_of_ble_eq_true hb.2.1) (Nat.le_of_ble_eq_true hb.2.2) h
              case char =>
                have e2 : y.1 = 10 := Nat.eq_of_beq_eq_true hz
                rw [e2] at h
                exact zq_newa_char hC zl_ar_char hd hk hb.1 (Nat.le_of_ble_eq_true hb.2.1) (Nat.le_of_ble_eq_true hb.2.2) h
              case boolean =>
                have e2 : y.1 = 12 := Nat.eq_of_beq_eq_true hz
                rw [e2] at h
                exact zq_newa_boolean hC zl_ar_boolean hd hk hb.1 (Nat.le_of_ble_eq_true hb.2.1) (Nat.le_of_ble_eq_true hb.2.2) h
              all_goals cases hz
          · cases h
      case anewarray i =>
        simp only [zc, Bool.and_eq_true, decide_eq_true_eq] at hz
        obtain ⟨e1, hz⟩ := hz
        have e1 : n = 3 := Nat.eq_of_beq_eq_true e1
        subst e1
        cases al with
        | false => cases h
        | true =>
          replace h : zv_i1 st _ = some o := h
          unfold zv_i1 at h; split at h
          · rename_i v r
            dsimp only at h
            cases hb : (!(decide (v < 0)) && (Nat.ble v.toNatClampNeg 65536 && Nat.ble S.1 100000)) with
            | false => rw [hb] at h; cases h
            | true =>
              rw [hb] at h
              simp only [Bool.and_eq_true, Bool.not_eq_true', decide_eq_false_iff_not] at hb
              exact zq_anew hC (zl_c_ok _ hz).1 hd hk hb.1 (Nat.le_of_ble_eq_true hb.2.1) (Nat.le_of_ble_eq_true hb.2.2) h
          · cases h
      case invokevirtual i =>
        simp only [zc, Bool.and_eq_true, decide_eq_true_eq] at hz
        obtain ⟨e1, hz⟩ := hz
        have e1 : n = 3 := Nat.eq_of_beq_eq_true e1
        subst e1
        exact zq_invv hC hca hz hd hk h
      case invokestatic i =>
        simp only [zc, Bool.and_eq_true, decide_eq_true_eq] at hz
        obtain ⟨e1, hz⟩ := hz
        have e1 : n = 3 := Nat.eq_of_beq_eq_true e1
        subst e1
        cases b9 : Nat.beq y.1 999 with
        | true =>
          unfold zv_s at h
          rw [b9] at h
          rw [b9] at hz
          exact zq_acp hC (zl_a_ok (on, i) (by simpa using hz)) zl_acw hd hk h
        | false =>
          unfold zv_s at h
          rw [b9] at h hz
          cases b7 : Nat.beq y.1 997 with
          | true =>
            rw [b7] at h hz
            exact zq_mmin hC (by simpa using hz) hd hk h
          | false =>
            rw [b7] at h hz
            cases b6 : Nat.beq y.1 996 with
            | true =>
              rw [b6] at h hz
              exact zq_mmax hC (by simpa using hz) hd hk h
            | false =>
              rw [b6] at h hz
              cases b5 : Nat.beq y.1 995 with
              | true =>
                rw [b5] at h hz
                exact zq_mabs hC (by simpa using hz) hd hk h
              | false =>
                rw [b5] at h hz
                exact zq_invs hC hca (by simpa using hz) hd hk h
      case invokespecial i =>
        simp only [zc, Bool.and_eq_true, decide_eq_true_eq] at hz
        obtain ⟨e1, hz⟩ := hz
        have e1 : n = 3 := Nat.eq_of_beq_eq_true e1
        subst e1
        cases b8 : Nat.beq y.1 998 with
        | true =>
          unfold zv_s at h
          rw [b8] at h hz
          exact zq_obj hC (zl_o_ok (on, i) (by simpa using hz)) zl_obw hd hk h
        | false =>
          unfold zv_s at h
          rw [b8] at h hz
          cases al with
          | false => cases h
          | true => exact zq_invi hC hci (by simpa using hz) hd hk h
      case ireturn =>
        simp only [zc, Bool.and_eq_true, decide_eq_true_eq] at hz
        obtain ⟨e1, hz⟩ := hz
        have e1 : n = 1 := Nat.eq_of_beq_eq_true e1
        subst e1
        have hrk : rk = 1 := Nat.eq_of_beq_eq_true hz
        unfold zv_s at h
        dsimp only at h
        split at h
        · rename_i v
          cases bo with
          | false =>
            have eo : ((v, 0, 0), S, D) = o := Option.some.inj h
            subst eo
            exact ⟨⟨Nat.le_refl _, Nat.le_refl _⟩, fun H locs ls h1 h2 h3 h4 h5 => (hR H locs ls pc h1 h4).1 v hrk rfl (fun q => by cases q) hd⟩
          | true =>
            cases hb : zv_bk v with
            | false => rw [hb] at h; cases h
            | true =>
              rw [hb] at h
              have eo : ((v, 0, 0), S, D) = o := Option.some.inj h
              subst eo
              unfold zv_bk at hb
              simp only [Bool.or_eq_true, decide_eq_true_eq] at hb
              exact ⟨⟨Nat.le_refl _, Nat.le_refl _⟩, fun H locs ls h1 h2 h3 h4 h5 => (hR H locs ls pc h1 h4).1 v hrk rfl (fun _ => hb) hd⟩
        · cases h
      case lreturn =>
        simp only [zc, Bool.and_eq_true, decide_eq_true_eq] at hz
        obtain ⟨e1, hz⟩ := hz
        have e1 : n = 1 := Nat.eq_of_beq_eq_true e1
        subst e1
        have hrk : rk = 2 := Nat.eq_of_beq_eq_true hz
        unfold zv_s at h
        dsimp only at h
        split at h
        · rename_i v
          have eo : ((0, v, 0), S, D) = o := Option.some.inj h
          subst eo
          exact ⟨⟨Nat.le_refl _, Nat.le_refl _⟩, fun H locs ls h1 h2 h3 h4 h5 => (hR H locs ls pc h1 h4).2.1 v hrk rfl hd⟩
        · cases h
      case areturn =>
        simp only [zc, Bool.and_eq_true, decide_eq_true_eq] at hz
        obtain ⟨e1, hz⟩ := hz
        have e1 : n = 1 := Nat.eq_of_beq_eq_true e1
        subst e1
        have hrk : rk = 3 := Nat.eq_of_beq_eq_true hz
        unfold zv_s at h
        dsimp only at h
        split at h
        · rename_i v
          have eo : ((0, 0, v), S, D) = o := Option.some.inj h
          subst eo
          exact ⟨⟨Nat.le_refl _, Nat.le_refl _⟩, fun H locs ls h1 h2 h3 h4 h5 => (hR H locs ls pc h1 h4).2.2.1 v hrk rfl hd⟩
        · cases h
      case return_ =>
        simp only [zc, Bool.and_eq_true, decide_eq_true_eq] at hz
        obtain ⟨e1, hz⟩ := hz
        have e1 : n = 1 := Nat.eq_of_beq_eq_true e1
        subst e1
        have hrk : rk = 0 := Nat.eq_of_beq_eq_true hz
        unfold zv_s at h
        dsimp only at h
        split at h
        · have eo : ((0, 0, 0), S, D) = o := Option.some.inj h
          subst eo
          exact ⟨⟨Nat.le_refl _, Nat.le_refl _⟩, fun H locs ls h1 h2 h3 h4 h5 => (hR H locs ls pc h1 h4).2.2.2 hrk rfl hd⟩
        · cases h
      all_goals cases h
end ZM
