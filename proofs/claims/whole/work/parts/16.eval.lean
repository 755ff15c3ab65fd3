/-! ===== a method that makes nothing leaves the shape as it is ===== -/
def zv_sp (S : zv_S) (F : zv_K → Option zv_O) : Prop := (∃ o, (∀ k, F k = o) ∧ ∀ v, o = some v → v.2.1 = S) ∨ ∃ pc lv st D, ∀ k : zv_K, F k = k pc lv st S D
theorem zv_spn {S : zv_S} : zv_sp S (fun _ => none) := Or.inl ⟨none, fun _ => rfl, fun _ h => by cases h⟩
theorem zv_spk {S : zv_S} (pc : Nat) (lv : zv_L) (st : List Value) (D : zv_D) : zv_sp S (fun k => k pc lv st S D) := Or.inr ⟨pc, lv, st, D, fun _ => rfl⟩
theorem zv_spc {S : zv_S} (b : Bool) {F G : zv_K → Option zv_O} (h1 : zv_sp S F) (h2 : zv_sp S G) : zv_sp S (fun k => bif b then F k else G k) := by
  cases b
  · exact h2
  · exact h1
theorem zv_spi {S : zv_S} {P : Prop} [Decidable P] {F G : zv_K → Option zv_O} (h1 : zv_sp S F) (h2 : zv_sp S G) : zv_sp S (fun k => if P then F k else G k) := by
  by_cases h : P
  · simpa [h] using h1
  · simpa [h] using h2
theorem zv_spb {S : zv_S} {α : Type} (o : Option α) {F : α → zv_K → Option zv_O} (h : ∀ a, zv_sp S (F a)) : zv_sp S (fun k => o.bind fun a => F a k) := by
  cases o with
  | none => exact zv_spn
  | some a => exact h a
theorem zv_spw {S : zv_S} (t : List (Int32 × Nat)) (x : Int32) (d : Nat) {F : Nat → zv_K → Option zv_O} (h : ∀ a, zv_sp S (F a)) : zv_sp S (fun k => zv_sw t x d fun a => F a k) := by
  induction t with
  | nil => exact h d
  | cons q r ih => exact zv_spi (h q.2) ih
theorem zv_sp_i2 {S0 : zv_S} (st : List Value) {F : Int32 → Int32 → List Value → zv_K → Option zv_O} (h : ∀ a b r, zv_sp S0 (F a b r)) : zv_sp S0 (fun k => zv_i2 st fun a b r => F a b r k) := by
  unfold zv_i2; split
  · exact h _ _ _
  · exact zv_spn
theorem zv_sp_l2 {S0 : zv_S} (st : List Value) {F : Int64 → Int64 → List Value → zv_K → Option zv_O} (h : ∀ a b r, zv_sp S0 (F a b r)) : zv_sp S0 (fun k => zv_l2 st fun a b r => F a b r k) := by
  unfold zv_l2; split
  · exact h _ _ _
  · exact zv_spn
theorem zv_sp_i1 {S0 : zv_S} (st : List Value) {F : Int32 → List Value → zv_K → Option zv_O} (h : ∀ a r, zv_sp S0 (F a r)) : zv_sp S0 (fun k => zv_i1 st fun a r => F a r k) := by
  unfold zv_i1; split
  · exact h _ _
  · exact zv_spn
theorem zv_sp_l1 {S0 : zv_S} (st : List Value) {F : Int64 → List Value → zv_K → Option zv_O} (h : ∀ a r, zv_sp S0 (F a r)) : zv_sp S0 (fun k => zv_l1 st fun a r => F a r k) := by
  unfold zv_l1; split
  · exact h _ _
  · exact zv_spn
theorem zv_sp_a1 {S0 : zv_S} (st : List Value) {F : Nat → List Value → zv_K → Option zv_O} (h : ∀ a r, zv_sp S0 (F a r)) : zv_sp S0 (fun k => zv_a1 st fun a r => F a r k) := by
  unfold zv_a1; split
  · exact h _ _
  · exact zv_spn
theorem zv_sp_ia {S0 : zv_S} (st : List Value) {F : Int32 → Nat → List Value → zv_K → Option zv_O} (h : ∀ a b r, zv_sp S0 (F a b r)) : zv_sp S0 (fun k => zv_ia st fun a b r => F a b r k) := by
  unfold zv_ia; split
  · exact h _ _ _
  · exact zv_spn
theorem zv_sp_via {S0 : zv_S} (st : List Value) {F : Int32 → Int32 → Nat → List Value → zv_K → Option zv_O} (h : ∀ v a b r, zv_sp S0 (F v a b r)) : zv_sp S0 (fun k => zv_via st fun v a b r => F v a b r k) := by
  unfold zv_via; split
  · exact h _ _ _ _
  · exact zv_spn
theorem zv_sp_li {S0 : zv_S} (o : Option Value) {F : Int32 → zv_K → Option zv_O} (h : ∀ a, zv_sp S0 (F a)) : zv_sp S0 (fun k => zv_li o fun a => F a k) := by
  unfold zv_li; split
  · exact h _
  · exact zv_spn
theorem zv_sp_ll {S0 : zv_S} (o o2 : Option Value) {F : Int64 → zv_K → Option zv_O} (h : ∀ a, zv_sp S0 (F a)) : zv_sp S0 (fun k => zv_ll o o2 fun a => F a k) := by
  unfold zv_ll; split
  · split
    · exact h _
    · exact zv_spn
  · exact zv_spn
theorem zv_sp_la {S0 : zv_S} (o : Option Value) {F : Nat → zv_K → Option zv_O} (h : ∀ a, zv_sp S0 (F a)) : zv_sp S0 (fun k => zv_la o fun a => F a k) := by
  unfold zv_la; split
  · exact h _
  · exact zv_spn
theorem zv_sp_acp {S0 : zv_S} (st : List Value) (S : zv_S) (D : zv_D) {F : List Value → zv_D → zv_K → Option zv_O} (h : ∀ a b, zv_sp S0 (F a b)) : zv_sp S0 (fun k => zv_acp st S D fun a b => F a b k) := by
  unfold zv_acp; split
  · exact zv_spc _ (h _ _) zv_spn
  · exact zv_spn
theorem zv_sp_dp {S0 : zv_S} (st : List Value) {F : List Value → zv_K → Option zv_O} (h : ∀ r, zv_sp S0 (F r)) : zv_sp S0 (fun k => zv_dp st fun r => F r k) := by
  unfold zv_dp; split
  · exact h _
  · exact h _
  · exact zv_spn
theorem zv_s_sp (ca : zv_Ca) (ci : zv_Ci) (xs : Nat × (Nat → Int32)) (bo : Bool) (ins : Instr) (n : Nat) (x : zv_X) (pc : Nat) (lv : zv_L) (st : List Value) (S : zv_S) (D : zv_D) : zv_sp S (zv_s false ca ci xs bo ins n x pc lv st S D) := by
  cases ins
  case ifCond cond off => cases cond <;> exact zv_sp_i1 _ fun _ _ => zv_spi (zv_spk _ _ _ _) (zv_spk _ _ _ _)
  case if_icmp cond off => cases cond <;> exact zv_sp_i2 _ fun _ _ _ => zv_spi (zv_spk _ _ _ _) (zv_spk _ _ _ _)
  case iconst => exact zv_spk _ _ _ _
  case bipush => exact zv_spk _ _ _ _
  case sipush => exact zv_spk _ _ _ _
  case ldc_w => exact zv_spk _ _ _ _
  case lconst => exact zv_spk _ _ _ _
  case ldc2_w => exact zv_spk _ _ _ _
  case getstatic => exact zv_spk _ _ _ _
  case goto => exact zv_spk _ _ _ _
  case iload => exact zv_sp_li _ fun _ => zv_spk _ _ _ _
  case iload_n => exact zv_sp_li _ fun _ => zv_spk _ _ _ _
  case lload => exact zv_sp_ll _ _ fun _ => zv_spk _ _ _ _
  case lload_n => exact zv_sp_ll _ _ fun _ => zv_spk _ _ _ _
  case aload => exact zv_sp_la _ fun _ => zv_spk _ _ _ _
  case aload_n => exact zv_sp_la _ fun _ => zv_spk _ _ _ _
  case istore => exact zv_sp_i1 _ fun _ _ => zv_spk _ _ _ _
  case istore_n => exact zv_sp_i1 _ fun _ _ => zv_spk _ _ _ _
  case lstore => exact zv_sp_l1 _ fun _ _ => zv_spk _ _ _ _
  case lstore_n => exact zv_sp_l1 _ fun _ _ => zv_spk _ _ _ _
  case astore_n => exact zv_sp_a1 _ fun _ _ => zv_spk _ _ _ _
  case iinc => exact zv_sp_li _ fun _ => zv_spk _ _ _ _
  case iadd => exact zv_sp_i2 _ fun _ _ _ => zv_spk _ _ _ _
  case isub => exact zv_sp_i2 _ fun _ _ _ => zv_spk _ _ _ _
  case imul => exact zv_sp_i2 _ fun _ _ _ => zv_spk _ _ _ _
  case iand => exact zv_sp_i2 _ fun _ _ _ => zv_spk _ _ _ _
  case ior => exact zv_sp_i2 _ fun _ _ _ => zv_spk _ _ _ _
  case ixor => exact zv_sp_i2 _ fun _ _ _ => zv_spk _ _ _ _
  case ishl => exact zv_sp_i2 _ fun _ _ _ => zv_spk _ _ _ _
  case ishr => exact zv_sp_i2 _ fun _ _ _ => zv_spk _ _ _ _
  case iushr => exact zv_sp_i2 _ fun _ _ _ => zv_spk _ _ _ _
  case idiv => exact zv_sp_i2 _ fun _ _ _ => zv_spi zv_spn (zv_spk _ _ _ _)
  case irem => exact zv_sp_i2 _ fun _ _ _ => zv_spi zv_spn (zv_spk _ _ _ _)
  case ineg => exact zv_sp_i1 _ fun _ _ => zv_spk _ _ _ _
  case ladd => exact zv_sp_l2 _ fun _ _ _ => zv_spk _ _ _ _
  case lsub => exact zv_sp_l2 _ fun _ _ _ => zv_spk _ _ _ _
  case lmul => exact zv_sp_l2 _ fun _ _ _ => zv_spk _ _ _ _
  case land => exact zv_sp_l2 _ fun _ _ _ => zv_spk _ _ _ _
  case lor => exact zv_sp_l2 _ fun _ _ _ => zv_spk _ _ _ _
  case ldiv => exact zv_sp_l2 _ fun _ _ _ => zv_spi zv_spn (zv_spk _ _ _ _)
  case lrem => exact zv_sp_l2 _ fun _ _ _ => zv_spi zv_spn (zv_spk _ _ _ _)
  case lcmp => exact zv_sp_l2 _ fun _ _ _ => zv_spk _ _ _ _
  case lshl => exact zv_sp_i1 _ fun _ _ => zv_sp_l1 _ fun _ _ => zv_spk _ _ _ _
  case lushr => exact zv_sp_i1 _ fun _ _ => zv_sp_l1 _ fun _ _ => zv_spk _ _ _ _
  case i2l => exact zv_sp_i1 _ fun _ _ => zv_spk _ _ _ _
  case l2i => exact zv_sp_l1 _ fun _ _ => zv_spk _ _ _ _
  case i2c => exact zv_sp_i1 _ fun _ _ => zv_spk _ _ _ _
  case dup => exact zv_sp_dp st fun r => zv_spk (pc + n) lv r D
  case dup2 => exact zv_sp_ia _ fun _ _ _ => zv_spk _ _ _ _
  case pop => exact zv_sp_i1 _ fun _ _ => zv_spk _ _ _ _
  case tableswitch => exact zv_sp_i1 _ fun _ _ => zv_spw _ _ _ fun _ => zv_spk _ _ _ _
  case lookupswitch => exact zv_sp_i1 _ fun _ _ => zv_spw _ _ _ fun _ => zv_spk _ _ _ _
  case getfield => exact zv_sp_a1 _ fun _ _ => zv_spc _ (zv_spc _ (zv_spk _ _ _ _) (zv_spc _ (zv_spk _ _ _ _) (zv_spb _ fun _ => zv_spk _ _ _ _))) zv_spn
  case putfield => exact zv_spc _ (zv_sp_i1 _ fun _ _ => zv_sp_a1 _ fun _ _ => zv_spc _ (zv_spk _ _ _ _) zv_spn) (zv_spc _ (zv_sp_l1 _ fun _ _ => zv_sp_a1 _ fun _ _ => zv_spc _ (zv_spk _ _ _ _) zv_spn) zv_spn)
  case iaload => exact zv_sp_ia _ fun _ _ _ => zv_spc _ (zv_spc _ (zv_spk _ _ _ _) zv_spn) (zv_spc _ (zv_spc _ (zv_spk _ _ _ _) zv_spn) (zv_spc _ (zv_spc _ (zv_spk _ _ _ _) zv_spn) zv_spn))
  case laload => exact zv_sp_ia _ fun _ _ _ => zv_spc _ (zv_spc _ (zv_spk _ _ _ _) zv_spn) zv_spn
  case caload => exact zv_sp_ia _ fun _ _ _ => zv_spc _ (zv_spc _ (zv_spk _ _ _ _) zv_spn) zv_spn
  case baload => exact zv_sp_ia _ fun _ _ _ => zv_spc _ (zv_spc _ (zv_spk _ _ _ _) zv_spn) zv_spn
  case aaload => exact zv_sp_ia _ fun _ _ _ => zv_spc _ (zv_spc _ (zv_spb _ fun _ => zv_spk _ _ _ _) zv_spn) zv_spn
  case iastore => exact zv_sp_via _ fun _ _ _ _ => zv_spc _ (zv_spc _ (zv_spk _ _ _ _) zv_spn) zv_spn
  case castore => exact zv_sp_via _ fun _ _ _ _ => zv_spc _ (zv_spc _ (zv_spk _ _ _ _) zv_spn) zv_spn
  case bastore => exact zv_sp_via _ fun _ _ _ _ => zv_spc _ (zv_spc _ (zv_spk _ _ _ _) zv_spn) zv_spn
  case aastore => exact zv_spn
  case arraylength => exact zv_sp_a1 _ fun _ _ => zv_spc _ (zv_spc _ (zv_spk _ _ _ _) zv_spn) (zv_spc _ (zv_spk _ _ _ _) (zv_spc _ (zv_spk _ _ _ _) zv_spn))
  case new => exact zv_spn
  case newarray => exact zv_spn
  case anewarray => exact zv_spn
  case invokevirtual => exact zv_spc _ (zv_spb _ fun _ => zv_spk _ _ _ _) zv_spn
  case invokestatic => exact zv_spc _ (zv_sp_acp _ _ _ fun _ _ => zv_spk _ _ _ _) (zv_spc _ (zv_sp_i2 _ fun _ _ _ => zv_spc _ (zv_spk _ _ _ _) zv_spn) (zv_spc _ (zv_sp_i2 _ fun _ _ _ => zv_spc _ (zv_spk _ _ _ _) zv_spn) (zv_spc _ (zv_sp_i1 _ fun _ _ => zv_spc _ (zv_spk _ _ _ _) zv_spn) (zv_spc _ (zv_spb _ fun _ => zv_spk _ _ _ _) zv_spn))))
  case invokespecial => exact zv_spc _ (zv_sp_a1 _ fun _ _ => zv_spc _ (zv_spk _ _ _ _) zv_spn) zv_spn
  case ireturn =>
    refine Or.inl ⟨_, fun _ => rfl, fun v h => ?_⟩
    try dsimp only [zv_s] at h
    split at h
    · cases bo
      · rw [← Option.some.inj h]
      · rename_i w
        cases hb : zv_bk w with
        | false => rw [hb] at h; cases h
        | true => rw [hb] at h; rw [← Option.some.inj h]
    · cases h
  case lreturn =>
    refine Or.inl ⟨_, fun _ => rfl, fun v h => ?_⟩
    try dsimp only [zv_s] at h
    split at h
    · rw [← Option.some.inj h]
    · cases h
  case areturn =>
    refine Or.inl ⟨_, fun _ => rfl, fun v h => ?_⟩
    try dsimp only [zv_s] at h
    split at h
    · rw [← Option.some.inj h]
    · cases h
  case return_ =>
    refine Or.inl ⟨_, fun _ => rfl, fun v h => ?_⟩
    try dsimp only [zv_s] at h
    split at h
    · rw [← Option.some.inj h]
    · cases h
  all_goals exact zv_spn
theorem zv_r_S (tb : List (Nat × List zv_E)) (ca : zv_Ca) (ci : zv_Ci) (xs : Nat × (Nat → Int32)) (bo : Bool) : ∀ (f pc : Nat) (lv : zv_L) (st : List Value) (S : zv_S) (D : zv_D) (o : zv_O), zv_r false tb ca ci xs bo f pc lv st S D = some o → o.2.1 = S := by
  intro f
  induction f with
  | zero => intro pc lv st S D o h; cases h
  | succ f ih =>
    intro pc lv st S D o h
    replace h : zv_1 false tb ca ci xs bo (zv_r false tb ca ci xs bo f) pc lv st S D = some o := h
    unfold zv_1 at h
    cases he : zv_lk tb pc with
    | none => rw [he] at h; cases h
    | some en =>
      rw [he] at h
      rcases zv_s_sp ca ci xs bo en.1 en.2.1 en.2.2 pc lv st S D with ⟨q, hq, hv⟩ | ⟨pc', lv', st', D', hq⟩
      · exact hv o ((hq _).symm.trans h)
      · exact ih _ _ _ _ _ _ ((hq _).symm.trans h)
def zv_bo (r : Option FieldType) : Bool := match r with
  | some .boolean => true
  | _ => false
/-- the methods that make nothing, d deep -/
noncomputable def zv_ev : Nat → zv_Ca
  | 0 => fun _ _ _ _ => none
  | d + 1 => fun k As S D => match zv_ms k with
    | none => none
    | some mt => bif zv_rc mt As S then (zv_m mt.2.2.2.2.2.2.2.2 (zv_ev d) (zv_bo mt.2.2.2.1) 0 (zv_en As mt.2.2.1) [] S D).map (fun o => (o.1, o.2.2)) else none
/-- those that make cells -/
noncomputable def zv_ei (xs : Nat × (Nat → Int32)) : Nat → zv_Ci
  | 0 => fun _ _ _ _ => none
  | d + 1 => fun k As S D => match zv_ms k with
    | none => none
    | some mt => bif zv_rc mt As S then (zv_z true mt.2.2.2.2.2.2.2.2 (zv_ev d) (zv_ei xs d) xs (zv_bo mt.2.2.2.1) 0 (zv_en As mt.2.2.1) [] S D).bind (fun o => bif Nat.ble S.1 o.2.1.1 && Nat.ble S.2.1 o.2.1.2.1 then some o else none) else none
def zv_mto (mt : zv_Mt) : Prop := zv_tok mt.2.2.2.2.2.2.1 mt.2.2.1 mt.2.2.2.2.2.1 (Nat.beq mt.2.2.2.2.2.2.2.1 2) mt.2.1 mt.2.2.2.2.2.2.2.2 = true
/-- a method's contract out of a run of the small machine -/
theorem zv_met (l : Launch) {b : Nat} {x : Nat → Nat} {cA : Nat → ClassId} {dD : va_G} {xs xs' : Nat × (Nat → Int32)} {d k : Nat} {al : Bool} {ca : zv_Ca} {ci : zv_Ci} {mt : zv_Mt} (hms : zv_ms k = some mt) (hto : zv_mto mt) (hca : zv_caok l b x cA dD xs d ca) (hci : zv_ciok l b x cA dD xs d ci) {As : List Value} {S : zv_S} {D : zv_D} {o : zv_O} (hrc : zv_rc mt As S = true) {f : Nat} (hxs : al = true → xs' = xs) (hmo : S.1 ≤ o.2.1.1 ∧ S.2.1 ≤ o.2.1.2.1) (hf : zv_r al mt.2.2.2.2.2.2.2.2 ca ci xs' (zv_bo mt.2.2.2.1) f 0 (zv_en As mt.2.2.1) [] S D = some o) : zv_ct l b x cA dD xs (d + 1) mt As S D o := by
  obtain ⟨m1, m2, m3, m4, m5, m6, m7, m8⟩ := zv_ms_ok k mt hms
  refine ⟨hmo.1, hmo.2, ?_⟩
  refine Met.ofW (cc := mt.2.1) (maxL := mt.2.2.1) (ret := mt.2.2.2.1) m3 rfl ?_
  intro p e s m args below meth c s₁ B hml hv
  obtain ⟨rfl, hsz, hH, henv⟩ := hv
  have hx := B.exec
  have hb := B.bytes
  have hr := B.returns
  have hts := atoms_spec (ws := zv_wo mt) B.pre
  have hown : s.vm.findClass mt.1.cls = some m.cls := findClass_of_methodNamed B.named
  have hlocks := B.notSynchronized
  have hname := (name_of_methodNamed B.named B.method).1
  rw [lg_entry_eq]
  have hC : zv_C p (headSpec (zv_wo mt) (zv_rm (d + 1) (o.2.1.1 - S.1) (o.2.1.2.1 - S.2.1))).room s m (As.map (zv_vl b x)).toArray meth c mt.2.1 mt.2.2.1 mt.2.2.2.2.2.2.1 (Nat.beq mt.2.2.2.2.2.2.2.1 2) b x cA dD xs d S.1 S.2.1 o := by
    refine ⟨hx, hb, hml, by rw [← m5]; exact hown, fun w hw => hts w (List.mem_cons_of_mem _ hw), henv, hsz, fun hi => ?_, Nat.le_refl _, Nat.le_refl _, Nat.le_refl _, Nat.le_refl _⟩
    have hk2 : mt.2.2.2.2.2.2.2.1 = 2 := Nat.eq_of_beq_eq_true hi
    rw [hk2] at m7
    rw [hname]
    exact m7.2.1
  have hR : zv_RT p l e (headSpec (zv_wo mt) (zv_rm (d + 1) (o.2.1.1 - S.1) (o.2.1.2.1 - S.2.1))).room s m (As.map (zv_vl b x)).toArray below meth c (MQ below (zv_Qc b x cA dD mt.2.2.2.2.2.1 o.1 o.2.1 o.2.2) (As.map (zv_vl b x)).toArray s (o.2.1.1 - S.1) (o.2.1.2.1 - S.2.1) (fun q => b ≤ q)) mt.2.1 b x cA dD S.1 S.2.1 o (zv_bo mt.2.2.2.1) mt.2.2.2.2.2.1 := by
    intro H locs ls pc h1 h4
    refine ⟨fun v hrk ho hbo hd => ?_, fun v hrk ho hd => ?_, fun v hrk ho hd => ?_, fun hrk ho hd => ?_⟩
    · rw [hrk] at m8
      have hq : ∀ t : State, t.heap = H → s.WarmedH t.vm → zv_Qc b x cA dD mt.2.2.2.2.2.1 o.1 o.2.1 o.2.2 (As.map (zv_vl b x)).toArray s (.returned (some (.int v))) t := by
        intro t ht _
        rw [hrk]
        exact ⟨⟨v, (), rfl, by rw [ho], by show zv_H b x cA dD _ _ t.heap; rw [ht]; exact h1⟩, h4.F ht⟩
      rcases m8 with hi | hi
      · exact W.iret hx hb (by rw [hr, hi]) hq h4.2.2 hd
      · have hv : v = 0 ∨ v = 1 := hbo (by rw [hi]; rfl)
        exact W.zret (ty := .boolean) hx hb (by rw [hr, hi]) (by rcases hv with rfl | rfl <;> rfl) hq h4.2.2 hd
    · rw [hrk] at m8
      exact W.lret hx hb (by rw [hr, m8]) (fun t ht _ => by rw [hrk]; exact ⟨⟨v, (), rfl, by rw [ho], by show zv_H b x cA dD _ _ t.heap; rw [ht]; exact h1⟩, h4.F ht⟩) h4.2.2 hd
    · rw [hrk] at m8
      obtain ⟨Cn, hCn⟩ := m8
      exact W.aret (rt := .object Cn) hx hb (by rw [hr, hCn]) (Or.inl ⟨Cn, rfl⟩) (Or.inr ⟨_, rfl⟩) (fun t ht _ => by rw [hrk]; exact ⟨⟨(), _, rfl, trivial, by rw [ho], by show zv_H b x cA dD _ _ t.heap; rw [ht]; exact h1⟩, h4.F ht⟩) h4.2.2 hd
    · rw [hrk] at m8
      exact W.vret hx hb (by rw [hr, m8]) (fun t ht _ => by rw [hrk]; exact ⟨⟨(), rfl, trivial, by show zv_H b x cA dD _ _ t.heap; rw [ht]; exact h1⟩, h4.F ht⟩) h4.2.2 hd
  have key := (zv_main (l := l) (e := e) (below := below) (al := al) hC hto hca hci hR hxs f 0 (zv_en As mt.2.2.1) [] S D hf).2 s.heap [] _ hH (Nat.le_refl _) (Nat.le_refl _) va_S.rf (zv_lr_en (zv_rc_n hrc).2)
  rw [Nat.sub_self, Nat.sub_self] at key
  exact key
theorem zv_ev_ok (l : Launch) {b : Nat} {x : Nat → Nat} {cA : Nat → ClassId} {dD : va_G} {xs : Nat × (Nat → Int32)} (hall : ∀ k mt, zv_ms k = some mt → zv_mto mt) : ∀ d, zv_caok l b x cA dD xs d (zv_ev d) := by
  intro d
  induction d with
  | zero => intro k As S D r D' h; cases h
  | succ d ih =>
    intro k As S D r D' h
    unfold zv_ev at h
    cases hms : zv_ms k with
    | none => rw [hms] at h; cases h
    | some mt =>
      rw [hms] at h
      dsimp only at h
      cases hrc : zv_rc mt As S with
      | false => rw [hrc] at h; cases h
      | true =>
        rw [hrc] at h
        replace h : (zv_m mt.2.2.2.2.2.2.2.2 (zv_ev d) (zv_bo mt.2.2.2.1) 0 (zv_en As mt.2.2.1) [] S D).map (fun o => (o.1, o.2.2)) = some (r, D') := h
        obtain ⟨o, ho, e⟩ := Option.map_eq_some_iff.mp h
        obtain ⟨f, hf⟩ := (zv_z_iff _ _ _ _ _ _ _ _ _ _ _ _).mp ho
        have hS := zv_r_S _ _ _ _ _ f _ _ _ _ _ _ hf
        obtain ⟨r', S', D''⟩ := o
        dsimp only at hS e
        subst hS
        cases e
        exact ⟨mt, rfl, hrc, zv_met l hms (hall k mt hms) ih (ci := fun _ _ _ _ => none) (fun _ _ _ _ _ h => by cases h) hrc (fun h => by cases h) ⟨Nat.le_refl _, Nat.le_refl _⟩ hf⟩
theorem zv_ei_ok (l : Launch) {b : Nat} {x : Nat → Nat} {cA : Nat → ClassId} {dD : va_G} {xs : Nat × (Nat → Int32)} (hall : ∀ k mt, zv_ms k = some mt → zv_mto mt) : ∀ d, zv_ciok l b x cA dD xs d (zv_ei xs d) := by
  intro d
  induction d with
  | zero => intro k As S D o h; cases h
  | succ d ih =>
    intro k As S D o h
    unfold zv_ei at h
    cases hms : zv_ms k with
    | none => rw [hms] at h; cases h
    | some mt =>
      rw [hms] at h
      dsimp only at h
      cases hrc : zv_rc mt As S with
      | false => rw [hrc] at h; cases h
      | true =>
        rw [hrc] at h
        replace h : (zv_z true mt.2.2.2.2.2.2.2.2 (zv_ev d) (zv_ei xs d) xs (zv_bo mt.2.2.2.1) 0 (zv_en As mt.2.2.1) [] S D).bind (fun o => bif Nat.ble S.1 o.2.1.1 && Nat.ble S.2.1 o.2.1.2.1 then some o else none) = some o := h
        obtain ⟨o', ho, e⟩ := Option.bind_eq_some_iff.mp h
        cases hb : (Nat.ble S.1 o'.2.1.1 && Nat.ble S.2.1 o'.2.1.2.1) with
        | false => rw [hb] at e; cases e
        | true =>
          rw [hb] at e
          cases e
          simp only [Bool.and_eq_true] at hb
          obtain ⟨f, hf⟩ := (zv_z_iff _ _ _ _ _ _ _ _ _ _ _ _).mp ho
          exact ⟨mt, rfl, hrc, zv_met l hms (hall k mt hms) (zv_ev_ok l hall d) ih hrc (fun _ => rfl) ⟨Nat.le_of_ble_eq_true hb.1, Nat.le_of_ble_eq_true hb.2⟩ hf⟩
