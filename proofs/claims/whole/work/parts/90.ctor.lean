/-! ===== the constructors ===== -/
def zD_z (n : Nat) (Dm : zv_D) : Prop := ∀ c, n ≤ c → Dm.1 c = (fun _ => 0) ∧ Dm.2 c = fun _ => 0
theorem zer_id {S : zv_S} {Dm : zv_D} {n : Nat} (h : zD_z n Dm) (hn : n ≤ S.1) : zv_zer S Dm = Dm := by
  refine Prod.ext (funext fun c => ?_) (funext fun c => ?_)
  · show (if c = S.1 then fun _ => 0 else Dm.1 c) = Dm.1 c
    by_cases e : c = S.1
    · rw [if_pos e, (h c (by omega)).1]
    · rw [if_neg e]
  · show (if c = S.1 then fun _ => 0 else Dm.2 c) = Dm.2 c
    by_cases e : c = S.1
    · rw [if_pos e, (h c (by omega)).2]
    · rw [if_neg e]
theorem zD_up {n m : Nat} {Dm : zv_D} (h : zD_z n Dm) (hn : n ≤ m) : zD_z m Dm := fun c hc => h c (Nat.le_trans hn hc)
theorem zD_w {n c i : Nat} {v : Int32} {Dm : zv_D} (h : zD_z n Dm) (hc : c < n) : zD_z n (zv_w Dm.1 c i v, Dm.2) := fun x hx => ⟨(zw_cell _ _ _ (by omega)).trans (h x hx).1, (h x hx).2⟩
theorem zD_g {n : Nat} {g : Nat → Nat → Int32} {Dm : zv_D} (h : zD_z n Dm) (hg : ∀ x, n ≤ x → g x = Dm.1 x) : zD_z n (g, Dm.2) := fun x hx => ⟨(hg x hx).trans (h x hx).1, (h x hx).2⟩
set_option maxRecDepth 20000 in
theorem zj_26 {xs : Nat × (Nat → Int32)} {d : Nat} {Dm : zv_D} (hz : zD_z 113 Dm) : zv_ei xs (d + 1) 42 [.ref 112] zq_226 Dm = some ((0, 0, 0), zq_232, Dm) := by
  have e : zv_z true zt_X5_init (zv_ev (d + 0)) (zv_ei xs (d + 0)) xs false 0 [some (.ref 112)] [] zq_226 Dm = some ((0, 0, 0), zq_232, Dm) := by
    rw [zin_55, zer_id (S := zq_226) hz (by decide +kernel), zer_id (S := zq_228) hz (by decide +kernel), zer_id (S := zq_230) hz (by decide +kernel)]
  show Option.bind (zv_z true zt_X5_init (zv_ev (d + 0)) (zv_ei xs (d + 0)) xs false 0 [some (.ref 112)] [] zq_226 Dm) _ = _
  rw [e]
  rfl
set_option maxRecDepth 20000 in
theorem zj_25 {xs : Nat × (Nat → Int32)} {d : Nat} {Dm : zv_D} (hz : zD_z 108 Dm) : zv_ei xs (d + 1) 67 [.ref 107] zq_216 Dm = some ((0, 0, 0), zq_222, Dm) := by
  have e : zv_z true zt_X7_init (zv_ev (d + 0)) (zv_ei xs (d + 0)) xs false 0 [some (.ref 107)] [] zq_216 Dm = some ((0, 0, 0), zq_222, Dm) := by
    rw [zin_53, zer_id (S := zq_216) hz (by decide +kernel), zer_id (S := zq_218) hz (by decide +kernel), zer_id (S := zq_220) hz (by decide +kernel)]
  show Option.bind (zv_z true zt_X7_init (zv_ev (d + 0)) (zv_ei xs (d + 0)) xs false 0 [some (.ref 107)] [] zq_216 Dm) _ = _
  rw [e]
  rfl
set_option maxRecDepth 20000 in
theorem zj_24 {xs : Nat × (Nat → Int32)} {d : Nat} {Dm : zv_D} (hz : zD_z 104 Dm) : zv_ei xs (d + 1) 67 [.ref 103] zq_208 Dm = some ((0, 0, 0), zq_214, Dm) := by
  have e : zv_z true zt_X7_init (zv_ev (d + 0)) (zv_ei xs (d + 0)) xs false 0 [some (.ref 103)] [] zq_208 Dm = some ((0, 0, 0), zq_214, Dm) := by
    rw [zin_51, zer_id (S := zq_208) hz (by decide +kernel), zer_id (S := zq_210) hz (by decide +kernel), zer_id (S := zq_212) hz (by decide +kernel)]
  show Option.bind (zv_z true zt_X7_init (zv_ev (d + 0)) (zv_ei xs (d + 0)) xs false 0 [some (.ref 103)] [] zq_208 Dm) _ = _
  rw [e]
  rfl
set_option maxRecDepth 20000 in
theorem zj_23 {xs : Nat × (Nat → Int32)} {d : Nat} {Dm : zv_D} (hz : zD_z 99 Dm) : zv_ei xs (d + 1) 67 [.ref 98] zq_197 Dm = some ((0, 0, 0), zq_203, Dm) := by
  have e : zv_z true zt_X7_init (zv_ev (d + 0)) (zv_ei xs (d + 0)) xs false 0 [some (.ref 98)] [] zq_197 Dm = some ((0, 0, 0), zq_203, Dm) := by
    rw [zin_48, zer_id (S := zq_197) hz (by decide +kernel), zer_id (S := zq_199) hz (by decide +kernel), zer_id (S := zq_201) hz (by decide +kernel)]
  show Option.bind (zv_z true zt_X7_init (zv_ev (d + 0)) (zv_ei xs (d + 0)) xs false 0 [some (.ref 98)] [] zq_197 Dm) _ = _
  rw [e]
  rfl
set_option maxRecDepth 20000 in
theorem zj_22 {xs : Nat × (Nat → Int32)} {d : Nat} {Dm : zv_D} (hz : zD_z 95 Dm) : zv_ei xs (d + 1) 67 [.ref 94] zq_189 Dm = some ((0, 0, 0), zq_195, Dm) := by
  have e : zv_z true zt_X7_init (zv_ev (d + 0)) (zv_ei xs (d + 0)) xs false 0 [some (.ref 94)] [] zq_189 Dm = some ((0, 0, 0), zq_195, Dm) := by
    rw [zin_46, zer_id (S := zq_189) hz (by decide +kernel), zer_id (S := zq_191) hz (by decide +kernel), zer_id (S := zq_193) hz (by decide +kernel)]
  show Option.bind (zv_z true zt_X7_init (zv_ev (d + 0)) (zv_ei xs (d + 0)) xs false 0 [some (.ref 94)] [] zq_189 Dm) _ = _
  rw [e]
  rfl
set_option maxRecDepth 20000 in
theorem zj_21 {xs : Nat × (Nat → Int32)} {d : Nat} {Dm : zv_D} (hz : zD_z 91 Dm) : zv_ei xs (d + 1) 67 [.ref 90] zq_181 Dm = some ((0, 0, 0), zq_187, Dm) := by
  have e : zv_z true zt_X7_init (zv_ev (d + 0)) (zv_ei xs (d + 0)) xs false 0 [some (.ref 90)] [] zq_181 Dm = some ((0, 0, 0), zq_187, Dm) := by
    rw [zin_44, zer_id (S := zq_181) hz (by decide +kernel), zer_id (S := zq_183) hz (by decide +kernel), zer_id (S := zq_185) hz (by decide +kernel)]
  show Option.bind (zv_z true zt_X7_init (zv_ev (d + 0)) (zv_ei xs (d + 0)) xs false 0 [some (.ref 90)] [] zq_181 Dm) _ = _
  rw [e]
  rfl
set_option maxRecDepth 20000 in
theorem zj_20 {xs : Nat × (Nat → Int32)} {d : Nat} {Dm : zv_D} (hz : zD_z 87 Dm) : zv_ei xs (d + 1) 67 [.ref 86] zq_173 Dm = some ((0, 0, 0), zq_179, Dm) := by
  have e : zv_z true zt_X7_init (zv_ev (d + 0)) (zv_ei xs (d + 0)) xs false 0 [some (.ref 86)] [] zq_173 Dm = some ((0, 0, 0), zq_179, Dm) := by
    rw [zin_42, zer_id (S := zq_173) hz (by decide +kernel), zer_id (S := zq_175) hz (by decide +kernel), zer_id (S := zq_177) hz (by decide +kernel)]
  show Option.bind (zv_z true zt_X7_init (zv_ev (d + 0)) (zv_ei xs (d + 0)) xs false 0 [some (.ref 86)] [] zq_173 Dm) _ = _
  rw [e]
  rfl
set_option maxRecDepth 20000 in
theorem zj_19 {xs : Nat × (Nat → Int32)} {d : Nat} {Dm : zv_D} (hz : zD_z 83 Dm) : zv_ei xs (d + 1) 67 [.ref 82] zq_165 Dm = some ((0, 0, 0), zq_171, Dm) := by
  have e : zv_z true zt_X7_init (zv_ev (d + 0)) (zv_ei xs (d + 0)) xs false 0 [some (.ref 82)] [] zq_165 Dm = some ((0, 0, 0), zq_171, Dm) := by
    rw [zin_40, zer_id (S := zq_165) hz (by decide +kernel), zer_id (S := zq_167) hz (by decide +kernel), zer_id (S := zq_169) hz (by decide +kernel)]
  show Option.bind (zv_z true zt_X7_init (zv_ev (d + 0)) (zv_ei xs (d + 0)) xs false 0 [some (.ref 82)] [] zq_165 Dm) _ = _
  rw [e]
  rfl
set_option maxRecDepth 20000 in
theorem zj_18 {xs : Nat × (Nat → Int32)} {d : Nat} {Dm : zv_D} (hz : zD_z 79 Dm) : zv_ei xs (d + 1) 67 [.ref 78] zq_157 Dm = some ((0, 0, 0), zq_163, Dm) := by
  have e : zv_z true zt_X7_init (zv_ev (d + 0)) (zv_ei xs (d + 0)) xs false 0 [some (.ref 78)] [] zq_157 Dm = some ((0, 0, 0), zq_163, Dm) := by
    rw [zin_38, zer_id (S := zq_157) hz (by decide +kernel), zer_id (S := zq_159) hz (by decide +kernel), zer_id (S := zq_161) hz (by decide +kernel)]
  show Option.bind (zv_z true zt_X7_init (zv_ev (d + 0)) (zv_ei xs (d + 0)) xs false 0 [some (.ref 78)] [] zq_157 Dm) _ = _
  rw [e]
  rfl
set_option maxRecDepth 20000 in
theorem zj_17 {xs : Nat × (Nat → Int32)} {d : Nat} {Dm : zv_D} (hz : zD_z 75 Dm) : zv_ei xs (d + 1) 67 [.ref 74] zq_149 Dm = some ((0, 0, 0), zq_155, Dm) := by
  have e : zv_z true zt_X7_init (zv_ev (d + 0)) (zv_ei xs (d + 0)) xs false 0 [some (.ref 74)] [] zq_149 Dm = some ((0, 0, 0), zq_155, Dm) := by
    rw [zin_36, zer_id (S := zq_149) hz (by decide +kernel), zer_id (S := zq_151) hz (by decide +kernel), zer_id (S := zq_153) hz (by decide +kernel)]
  show Option.bind (zv_z true zt_X7_init (zv_ev (d + 0)) (zv_ei xs (d + 0)) xs false 0 [some (.ref 74)] [] zq_149 Dm) _ = _
  rw [e]
  rfl
set_option maxRecDepth 20000 in
theorem zj_16 {xs : Nat × (Nat → Int32)} {d : Nat} {Dm : zv_D} (hz : zD_z 71 Dm) : zv_ei xs (d + 1) 67 [.ref 70] zq_141 Dm = some ((0, 0, 0), zq_147, Dm) := by
  have e : zv_z true zt_X7_init (zv_ev (d + 0)) (zv_ei xs (d + 0)) xs false 0 [some (.ref 70)] [] zq_141 Dm = some ((0, 0, 0), zq_147, Dm) := by
    rw [zin_34, zer_id (S := zq_141) hz (by decide +kernel), zer_id (S := zq_143) hz (by decide +kernel), zer_id (S := zq_145) hz (by decide +kernel)]
  show Option.bind (zv_z true zt_X7_init (zv_ev (d + 0)) (zv_ei xs (d + 0)) xs false 0 [some (.ref 70)] [] zq_141 Dm) _ = _
  rw [e]
  rfl
set_option maxRecDepth 20000 in
theorem zj_15 {xs : Nat × (Nat → Int32)} {d : Nat} {Dm : zv_D} (hz : zD_z 67 Dm) : zv_ei xs (d + 1) 67 [.ref 66] zq_133 Dm = some ((0, 0, 0), zq_139, Dm) := by
  have e : zv_z true zt_X7_init (zv_ev (d + 0)) (zv_ei xs (d + 0)) xs false 0 [some (.ref 66)] [] zq_133 Dm = some ((0, 0, 0), zq_139, Dm) := by
    rw [zin_32, zer_id (S := zq_133) hz (by decide +kernel), zer_id (S := zq_135) hz (by decide +kernel), zer_id (S := zq_137) hz (by decide +kernel)]
  show Option.bind (zv_z true zt_X7_init (zv_ev (d + 0)) (zv_ei xs (d + 0)) xs false 0 [some (.ref 66)] [] zq_133 Dm) _ = _
  rw [e]
  rfl
set_option maxRecDepth 20000 in
theorem zj_14 {xs : Nat × (Nat → Int32)} {d : Nat} {Dm : zv_D} (hz : zD_z 63 Dm) : zv_ei xs (d + 1) 67 [.ref 62] zq_125 Dm = some ((0, 0, 0), zq_131, Dm) := by
  have e : zv_z true zt_X7_init (zv_ev (d + 0)) (zv_ei xs (d + 0)) xs false 0 [some (.ref 62)] [] zq_125 Dm = some ((0, 0, 0), zq_131, Dm) := by
    rw [zin_30, zer_id (S := zq_125) hz (by decide +kernel), zer_id (S := zq_127) hz (by decide +kernel), zer_id (S := zq_129) hz (by decide +kernel)]
  show Option.bind (zv_z true zt_X7_init (zv_ev (d + 0)) (zv_ei xs (d + 0)) xs false 0 [some (.ref 62)] [] zq_125 Dm) _ = _
  rw [e]
  rfl
set_option maxRecDepth 20000 in
theorem zj_13 {xs : Nat × (Nat → Int32)} {d : Nat} {Dm : zv_D} (hz : zD_z 59 Dm) : zv_ei xs (d + 1) 67 [.ref 58] zq_117 Dm = some ((0, 0, 0), zq_123, Dm) := by
  have e : zv_z true zt_X7_init (zv_ev (d + 0)) (zv_ei xs (d + 0)) xs false 0 [some (.ref 58)] [] zq_117 Dm = some ((0, 0, 0), zq_123, Dm) := by
    rw [zin_28, zer_id (S := zq_117) hz (by decide +kernel), zer_id (S := zq_119) hz (by decide +kernel), zer_id (S := zq_121) hz (by decide +kernel)]
  show Option.bind (zv_z true zt_X7_init (zv_ev (d + 0)) (zv_ei xs (d + 0)) xs false 0 [some (.ref 58)] [] zq_117 Dm) _ = _
  rw [e]
  rfl
set_option maxRecDepth 20000 in
theorem zj_12 {xs : Nat × (Nat → Int32)} {d : Nat} {Dm : zv_D} (hz : zD_z 55 Dm) : zv_ei xs (d + 1) 67 [.ref 54] zq_109 Dm = some ((0, 0, 0), zq_115, Dm) := by
  have e : zv_z true zt_X7_init (zv_ev (d + 0)) (zv_ei xs (d + 0)) xs false 0 [some (.ref 54)] [] zq_109 Dm = some ((0, 0, 0), zq_115, Dm) := by
    rw [zin_26, zer_id (S := zq_109) hz (by decide +kernel), zer_id (S := zq_111) hz (by decide +kernel), zer_id (S := zq_113) hz (by decide +kernel)]
  show Option.bind (zv_z true zt_X7_init (zv_ev (d + 0)) (zv_ei xs (d + 0)) xs false 0 [some (.ref 54)] [] zq_109 Dm) _ = _
  rw [e]
  rfl
set_option maxRecDepth 20000 in
theorem zj_11 {xs : Nat × (Nat → Int32)} {d : Nat} {Dm : zv_D} (hz : zD_z 51 Dm) : zv_ei xs (d + 1) 67 [.ref 50] zq_101 Dm = some ((0, 0, 0), zq_107, Dm) := by
  have e : zv_z true zt_X7_init (zv_ev (d + 0)) (zv_ei xs (d + 0)) xs false 0 [some (.ref 50)] [] zq_101 Dm = some ((0, 0, 0), zq_107, Dm) := by
    rw [zin_24, zer_id (S := zq_101) hz (by decide +kernel), zer_id (S := zq_103) hz (by decide +kernel), zer_id (S := zq_105) hz (by decide +kernel)]
  show Option.bind (zv_z true zt_X7_init (zv_ev (d + 0)) (zv_ei xs (d + 0)) xs false 0 [some (.ref 50)] [] zq_101 Dm) _ = _
  rw [e]
  rfl
set_option maxRecDepth 20000 in
theorem zj_10 {xs : Nat × (Nat → Int32)} {d : Nat} {Dm : zv_D} (hz : zD_z 47 Dm) : zv_ei xs (d + 1) 67 [.ref 46] zq_93 Dm = some ((0, 0, 0), zq_99, Dm) := by
  have e : zv_z true zt_X7_init (zv_ev (d + 0)) (zv_ei xs (d + 0)) xs false 0 [some (.ref 46)] [] zq_93 Dm = some ((0, 0, 0), zq_99, Dm) := by
    rw [zin_22, zer_id (S := zq_93) hz (by decide +kernel), zer_id (S := zq_95) hz (by decide +kernel), zer_id (S := zq_97) hz (by decide +kernel)]
  show Option.bind (zv_z true zt_X7_init (zv_ev (d + 0)) (zv_ei xs (d + 0)) xs false 0 [some (.ref 46)] [] zq_93 Dm) _ = _
  rw [e]
  rfl
set_option maxRecDepth 20000 in
theorem zj_9 {xs : Nat × (Nat → Int32)} {d : Nat} {Dm : zv_D} (hz : zD_z 45 Dm) : zv_ei xs (d + 2) 16 [.ref 44] zq_90 Dm = some ((0, 0, 0), zq_204, Dm) := by
  have e : zv_z true zt_X2_init (zv_ev (d + 1)) (zv_ei xs (d + 1)) xs false 0 [some (.ref 44), none] [] zq_90 Dm = some ((0, 0, 0), zq_204, Dm) := by
    rw [zin_21, zer_id (S := zq_90) hz (by decide +kernel), zer_id (S := zq_92) hz (by decide +kernel)]
    rw [zj_10 (d := d + 0) (zD_up hz (by decide)), Option.bind_some]
    dsimp only
    rw [zin_23, zer_id (S := zq_100) hz (by decide +kernel)]
    rw [zj_11 (d := d + 0) (zD_up hz (by decide)), Option.bind_some]
    dsimp only
    rw [zin_25, zer_id (S := zq_108) hz (by decide +kernel)]
    rw [zj_12 (d := d + 0) (zD_up hz (by decide)), Option.bind_some]
    dsimp only
    rw [zin_27, zer_id (S := zq_116) hz (by decide +kernel)]
    rw [zj_13 (d := d + 0) (zD_up hz (by decide)), Option.bind_some]
    dsimp only
    rw [zin_29, zer_id (S := zq_124) hz (by decide +kernel)]
    rw [zj_14 (d := d + 0) (zD_up hz (by decide)), Option.bind_some]
    dsimp only
    rw [zin_31, zer_id (S := zq_132) hz (by decide +kernel)]
    rw [zj_15 (d := d + 0) (zD_up hz (by decide)), Option.bind_some]
    dsimp only
    rw [zin_33, zer_id (S := zq_140) hz (by decide +kernel)]
    rw [zj_16 (d := d + 0) (zD_up hz (by decide)), Option.bind_some]
    dsimp only
    rw [zin_35, zer_id (S := zq_148) hz (by decide +kernel)]
    rw [zj_17 (d := d + 0) (zD_up hz (by decide)), Option.bind_some]
    dsimp only
    rw [zin_37, zer_id (S := zq_156) hz (by decide +kernel)]
    rw [zj_18 (d := d + 0) (zD_up hz (by decide)), Option.bind_some]
    dsimp only
    rw [zin_39, zer_id (S := zq_164) hz (by decide +kernel)]
    rw [zj_19 (d := d + 0) (zD_up hz (by decide)), Option.bind_some]
    dsimp only
    rw [zin_41, zer_id (S := zq_172) hz (by decide +kernel)]
    rw [zj_20 (d := d + 0) (zD_up hz (by decide)), Option.bind_some]
    dsimp only
    rw [zin_43, zer_id (S := zq_180) hz (by decide +kernel)]
    rw [zj_21 (d := d + 0) (zD_up hz (by decide)), Option.bind_some]
    dsimp only
    rw [zin_45, zer_id (S := zq_188) hz (by decide +kernel)]
    rw [zj_22 (d := d + 0) (zD_up hz (by decide)), Option.bind_some]
    dsimp only
    rw [zin_47, zer_id (S := zq_196) hz (by decide +kernel)]
    rw [zj_23 (d := d + 0) (zD_up hz (by decide)), Option.bind_some]
    dsimp only
    rw [zin_49]
  show Option.bind (zv_z true zt_X2_init (zv_ev (d + 1)) (zv_ei xs (d + 1)) xs false 0 [some (.ref 44), none] [] zq_90 Dm) _ = _
  rw [e]
  rfl
set_option maxRecDepth 20000 in
theorem zj_8 {xs : Nat × (Nat → Int32)} {d : Nat} {Dm : zv_D} (hz : zD_z 41 Dm) : zv_ei xs (d + 1) 8 [.ref 40] zq_82 Dm = some ((0, 0, 0), zq_88, Dm) := by
  have e : zv_z true zt_X1_init (zv_ev (d + 0)) (zv_ei xs (d + 0)) xs false 0 [some (.ref 40)] [] zq_82 Dm = some ((0, 0, 0), zq_88, Dm) := by
    rw [zin_19, zer_id (S := zq_82) hz (by decide +kernel), zer_id (S := zq_84) hz (by decide +kernel), zer_id (S := zq_86) hz (by decide +kernel)]
  show Option.bind (zv_z true zt_X1_init (zv_ev (d + 0)) (zv_ei xs (d + 0)) xs false 0 [some (.ref 40)] [] zq_82 Dm) _ = _
  rw [e]
  rfl
set_option maxRecDepth 20000 in
theorem zj_7 {xs : Nat × (Nat → Int32)} {d : Nat} {Dm : zv_D} (hz : zD_z 39 Dm) : zv_ei xs (d + 1) 2 [.ref 38] zq_78 Dm = some ((0, 0, 0), zq_80, Dm) := by
  have e : zv_z true zt_X0_init (zv_ev (d + 0)) (zv_ei xs (d + 0)) xs false 0 [some (.ref 38)] [] zq_78 Dm = some ((0, 0, 0), zq_80, Dm) := by
    rw [zin_17, zer_id (S := zq_78) hz (by decide +kernel)]
  show Option.bind (zv_z true zt_X0_init (zv_ev (d + 0)) (zv_ei xs (d + 0)) xs false 0 [some (.ref 38)] [] zq_78 Dm) _ = _
  rw [e]
  rfl
set_option maxRecDepth 20000 in
theorem zj_6 {xs : Nat × (Nat → Int32)} {d : Nat} {Dm : zv_D} (hz : zD_z 29 Dm) : zv_ei xs (d + 1) 67 [.ref 28] zq_56 Dm = some ((0, 0, 0), zq_62, Dm) := by
  have e : zv_z true zt_X7_init (zv_ev (d + 0)) (zv_ei xs (d + 0)) xs false 0 [some (.ref 28)] [] zq_56 Dm = some ((0, 0, 0), zq_62, Dm) := by
    rw [zin_12, zer_id (S := zq_56) hz (by decide +kernel), zer_id (S := zq_58) hz (by decide +kernel), zer_id (S := zq_60) hz (by decide +kernel)]
  show Option.bind (zv_z true zt_X7_init (zv_ev (d + 0)) (zv_ei xs (d + 0)) xs false 0 [some (.ref 28)] [] zq_56 Dm) _ = _
  rw [e]
  rfl
set_option maxRecDepth 20000 in
theorem zj_4 {xs : Nat × (Nat → Int32)} {d : Nat} {Dm : zv_D} (hz : zD_z 18 Dm) : zv_ei xs (d + 1) 67 [.ref 17] zq_33 Dm = some ((0, 0, 0), zq_39, Dm) := by
  have e : zv_z true zt_X7_init (zv_ev (d + 0)) (zv_ei xs (d + 0)) xs false 0 [some (.ref 17)] [] zq_33 Dm = some ((0, 0, 0), zq_39, Dm) := by
    rw [zin_6, zer_id (S := zq_33) hz (by decide +kernel), zer_id (S := zq_35) hz (by decide +kernel), zer_id (S := zq_37) hz (by decide +kernel)]
  show Option.bind (zv_z true zt_X7_init (zv_ev (d + 0)) (zv_ei xs (d + 0)) xs false 0 [some (.ref 17)] [] zq_33 Dm) _ = _
  rw [e]
  rfl
set_option maxRecDepth 20000 in
theorem zj_2 {xs : Nat × (Nat → Int32)} {d : Nat} {Dm : zv_D} (hz : zD_z 10 Dm) : zv_ei xs (d + 1) 19 [.ref 9] zq_18 Dm = some ((0, 0, 0), zq_30, (zv_w Dm.1 9 0 1, Dm.2)) := by
  have e : zv_z true zt_X3_init (zv_ev (d + 0)) (zv_ei xs (d + 0)) xs false 0 [some (.ref 9)] [] zq_18 Dm = some ((0, 0, 0), zq_30, (zv_w Dm.1 9 0 1, Dm.2)) := by
    rw [zin_3, zer_id (S := zq_18) (zD_w (c := 9) (i := 0) (v := 1) hz (by decide)) (by decide +kernel), zer_id (S := zq_20) (zD_w (c := 9) (i := 0) (v := 1) hz (by decide)) (by decide +kernel), zer_id (S := zq_22) (zD_w (c := 9) (i := 0) (v := 1) hz (by decide)) (by decide +kernel), zer_id (S := zq_24) (zD_w (c := 9) (i := 0) (v := 1) hz (by decide)) (by decide +kernel), zer_id (S := zq_26) (zD_w (c := 9) (i := 0) (v := 1) hz (by decide)) (by decide +kernel), zer_id (S := zq_28) (zD_w (c := 9) (i := 0) (v := 1) hz (by decide)) (by decide +kernel)]
  show Option.bind (zv_z true zt_X3_init (zv_ev (d + 0)) (zv_ei xs (d + 0)) xs false 0 [some (.ref 9)] [] zq_18 Dm) _ = _
  rw [e]
  rfl
set_option maxRecDepth 20000 in
theorem zj_1 {xs : Nat × (Nat → Int32)} {d : Nat} {Dm : zv_D} (hz : zD_z 2 Dm) : zv_ei xs (d + 1) 28 [.ref 1] zq_2 Dm = some ((0, 0, 0), zq_16, Dm) := by
  have e : zv_z true zt_X4_init (zv_ev (d + 0)) (zv_ei xs (d + 0)) xs false 0 [some (.ref 1)] [] zq_2 Dm = some ((0, 0, 0), zq_16, Dm) := by
    rw [zin_1, zer_id (S := zq_2) hz (by decide +kernel), zer_id (S := zq_4) hz (by decide +kernel), zer_id (S := zq_6) hz (by decide +kernel), zer_id (S := zq_8) hz (by decide +kernel), zer_id (S := zq_10) hz (by decide +kernel), zer_id (S := zq_12) hz (by decide +kernel), zer_id (S := zq_14) hz (by decide +kernel)]
  show Option.bind (zv_z true zt_X4_init (zv_ev (d + 0)) (zv_ei xs (d + 0)) xs false 0 [some (.ref 1)] [] zq_2 Dm) _ = _
  rw [e]
  rfl
set_option maxRecDepth 20000 in
theorem zj_3 {xs : Nat × (Nat → Int32)} {d : Nat} {Dm : zv_D} {T : zT} {X : zX} (hz : zD_z 17 Dm) (hT : zT_ok T) (hm : Dm.1 9 1 = nI (zT_m T)) (hpl : ∀ e, e < 4 → Dm.1 12 e = nI (zT_pl T e)) (hco : ∀ k, k < 25 → (0 : Int32) = nI (zX_co X k)) (hX : ∀ k, zX_co X k ≤ 9) : ∃ g', (∀ x, x ≠ 21 → x ≠ 22 → x ≠ 23 → g' x = Dm.1 x) ∧ (∀ i j, i < 5 → j < 5 → g' 22 (5 * i + j) = nI (za_di (zX_co X) i j)) ∧ (∀ i, i < 5 → g' 21 i = nI (zf_set (za_nr T X i))) ∧ (∀ k, k < 80 → g' 23 k = -2) ∧ zv_ei xs (d + 4) 45 [.ref 16, .ref 9] zq_32 Dm = some ((0, 0, 0), zq_53, (g', Dm.2)) := by
  obtain ⟨g1, f1, a1, b1, r1⟩ := ev_measure_k (dp := d) (Dm := Dm) (T := T) (X := X) hT hm hpl (fun k hk => by rw [(hz 18 (by decide)).1]; exact hco k hk) hX
  obtain ⟨g2, f2, a2, r2⟩ := ev_forgetPicks_k (dp := d + 1) (g1, Dm.2)
  dsimp only at f2 a2 r2
  refine ⟨g2, fun x h1 h2 h3 => (f2 x h3).trans (f1 x h1 h2), fun i j hi hj => by rw [f2 22 (by decide)]; exact a1 i j hi hj, fun i hi => by rw [f2 21 (by decide)]; exact b1 i hi, a2, ?_⟩
  rw [← zq_53_S] at r1 r2
  have e : zv_z true zt_X6_init (zv_ev (d + 3)) (zv_ei xs (d + 3)) xs false 0 [some (.ref 16), some (.ref 9)] [] zq_32 Dm = some ((0, 0, 0), zq_53, (g2, Dm.2)) := by
    rw [zin_5, zer_id (S := zq_32) hz (by decide +kernel)]
    rw [zj_4 (d := d + 2) (zD_up hz (by decide)), Option.bind_some]
    dsimp only
    rw [zin_7, zer_id (S := zq_40) hz (by decide +kernel), zer_id (S := zq_42) hz (by decide +kernel), zer_id (S := zq_44) hz (by decide +kernel), zer_id (S := zq_46) hz (by decide +kernel), zer_id (S := zq_48) hz (by decide +kernel), zer_id (S := zq_50) hz (by decide +kernel), r1]
    show zv_z true zt_X6_init (zv_ev (d + 3)) (zv_ei xs (d + 3)) xs false 68 [some (.ref 16), some (.ref 9)] [] zq_53 (g1, Dm.2) = _
    rw [zin_8, r2]
    show zv_z true zt_X6_init (zv_ev (d + 3)) (zv_ei xs (d + 3)) xs false 72 [some (.ref 16), some (.ref 9)] [] zq_53 (g2, Dm.2) = _
    rw [zin_9]
  show Option.bind (zv_z true zt_X6_init (zv_ev (d + 3)) (zv_ei xs (d + 3)) xs false 0 [some (.ref 16), some (.ref 9)] [] zq_32 Dm) _ = _
  rw [e]
  rfl
set_option maxRecDepth 20000 in
theorem zj_5 {xs : Nat × (Nat → Int32)} {d : Nat} {Dm : zv_D} {T : zT} {X : zX} (hz : zD_z 28 Dm) (hT : zT_ok T) (hm : Dm.1 9 1 = nI (zT_m T)) (hpl : ∀ e, e < 4 → Dm.1 12 e = nI (zT_pl T e)) (hco : ∀ k, k < 25 → (0 : Int32) = nI (zX_co X k)) (hX : ∀ k, zX_co X k ≤ 9) : ∃ g', (∀ x, x ≠ 32 → x ≠ 33 → x ≠ 34 → g' x = Dm.1 x) ∧ (∀ i j, i < 5 → j < 5 → g' 33 (5 * i + j) = nI (za_di (zX_co X) i j)) ∧ (∀ i, i < 5 → g' 32 i = nI (zf_set (za_nr T X i))) ∧ (∀ k, k < 80 → g' 34 k = -2) ∧ zv_ei xs (d + 4) 45 [.ref 27, .ref 9] zq_55 Dm = some ((0, 0, 0), zq_76, (g', Dm.2)) := by
  obtain ⟨g1, f1, a1, b1, r1⟩ := ev_measure_t (dp := d) (Dm := Dm) (T := T) (X := X) hT hm hpl (fun k hk => by rw [(hz 29 (by decide)).1]; exact hco k hk) hX
  obtain ⟨g2, f2, a2, r2⟩ := ev_forgetPicks_t (dp := d + 1) (g1, Dm.2)
  dsimp only at f2 a2 r2
  refine ⟨g2, fun x h1 h2 h3 => (f2 x h3).trans (f1 x h1 h2), fun i j hi hj => by rw [f2 33 (by decide)]; exact a1 i j hi hj, fun i hi => by rw [f2 32 (by decide)]; exact b1 i hi, a2, ?_⟩
  rw [← zq_76_S] at r1 r2
  have e : zv_z true zt_X6_init (zv_ev (d + 3)) (zv_ei xs (d + 3)) xs false 0 [some (.ref 27), some (.ref 9)] [] zq_55 Dm = some ((0, 0, 0), zq_76, (g2, Dm.2)) := by
    rw [zin_11, zer_id (S := zq_55) hz (by decide +kernel)]
    rw [zj_6 (d := d + 2) (zD_up hz (by decide)), Option.bind_some]
    dsimp only
    rw [zin_13, zer_id (S := zq_63) hz (by decide +kernel), zer_id (S := zq_65) hz (by decide +kernel), zer_id (S := zq_67) hz (by decide +kernel), zer_id (S := zq_69) hz (by decide +kernel), zer_id (S := zq_71) hz (by decide +kernel), zer_id (S := zq_73) hz (by decide +kernel), r1]
    show zv_z true zt_X6_init (zv_ev (d + 3)) (zv_ei xs (d + 3)) xs false 68 [some (.ref 27), some (.ref 9)] [] zq_76 (g1, Dm.2) = _
    rw [zin_14, r2]
    show zv_z true zt_X6_init (zv_ev (d + 3)) (zv_ei xs (d + 3)) xs false 72 [some (.ref 27), some (.ref 9)] [] zq_76 (g2, Dm.2) = _
    rw [zin_15]
  show Option.bind (zv_z true zt_X6_init (zv_ev (d + 3)) (zv_ei xs (d + 3)) xs false 0 [some (.ref 27), some (.ref 9)] [] zq_55 Dm) _ = _
  rw [e]
  rfl
