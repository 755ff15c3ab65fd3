/-! ===== the law ===== -/
theorem zlaw_go {kc km : Nat} {As : List Value} (H : zGo kc km As) {Z : zZ} (ok : zOK Z) {g : Nat → Nat → Int32} {h : Nat → Nat → Int64} (hC : zBC g h Z) (hM : zBM g h Z) : ∃ v D1 g2 h2 Z', zOK Z' ∧ zBC g2 h2 Z' ∧ zBM g2 h2 Z' ∧ zv_ev 11 kc (.ref 0 :: As) zS0 (g, h) = some (v, D1) ∧ zv_ev 11 km (.ref 116 :: As) zS0 D1 = some (v, (g2, h2)) := by
  obtain ⟨v, Z', ok', c, m⟩ := H Z ok
  obtain ⟨g1, h1, c1, f1, r1⟩ := c g h hC
  obtain ⟨g2, h2, m2, f2, r2⟩ := m g1 h1 (zBM_f hM f1)
  exact ⟨v, (g1, h1), g2, h2, Z', ok', zBC_f c1 f2, m2, r1, r2⟩
theorem lg_cmp_0 (a : Int64) : lg_cmp a a = 0 := by simp [lg_cmp]
set_option maxRecDepth 20000 in
theorem zlc_184 {xs : Nat × (Nat → Int32)} {i : Int32} (i1 : zv_in (i + 1) xs.1 = true) (i2 : zv_in (i + 2) xs.1 = true) (i3 : zv_in (i + 3) xs.1 = true) {g : Nat → Nat → Int32} {h : Nat → Nat → Int64} {Z : zZ} (ok : zOK Z) (hC : zBC g h Z) (hM : zBM g h Z) : ∃ g2 h2 Z', zOK Z' ∧ zBC g2 h2 Z' ∧ zBM g2 h2 Z' ∧ zv_z true zt_L_law (zv_ev 11) (zv_ei xs 11) xs true 184 [some (.ref 1000000), some (.ref 0), some (.ref 116), some (.int i)] [] zS0 (g, h) = zv_z true zt_L_law (zv_ev 11) (zv_ei xs 11) xs true 1159 [some (.ref 1000000), some (.ref 0), some (.ref 116), some (.int i)] [] zS0 (g2, h2) := by
  obtain ⟨v, D1, g2, h2, Z', ok', c', m', r1, r2⟩ := zlaw_go (go_write ((xs.2 (i + 1).toNatClampNeg))) ok hC hM
  refine ⟨g2, h2, Z', ok', c', m', ?_⟩
  rw [zd_law_184, i1, cond_true, r1, Option.bind_some]
  dsimp only
  rw [cond_true, r2, Option.bind_some]
  dsimp only
  rw [if_pos rfl]
set_option maxRecDepth 20000 in
theorem zlc_207 {xs : Nat × (Nat → Int32)} {i : Int32} (i1 : zv_in (i + 1) xs.1 = true) (i2 : zv_in (i + 2) xs.1 = true) (i3 : zv_in (i + 3) xs.1 = true) {g : Nat → Nat → Int32} {h : Nat → Nat → Int64} {Z : zZ} (ok : zOK Z) (hC : zBC g h Z) (hM : zBM g h Z) : ∃ g2 h2 Z', zOK Z' ∧ zBC g2 h2 Z' ∧ zBM g2 h2 Z' ∧ zv_z true zt_L_law (zv_ev 11) (zv_ei xs 11) xs true 207 [some (.ref 1000000), some (.ref 0), some (.ref 116), some (.int i)] [] zS0 (g, h) = zv_z true zt_L_law (zv_ev 11) (zv_ei xs 11) xs true 1159 [some (.ref 1000000), some (.ref 0), some (.ref 116), some (.int i)] [] zS0 (g2, h2) := by
  obtain ⟨v, D1, g2, h2, Z', ok', c', m', r1, r2⟩ := zlaw_go (go_wipe) ok hC hM
  refine ⟨g2, h2, Z', ok', c', m', ?_⟩
  rw [zd_law_207, r1, Option.bind_some]
  dsimp only
  rw [r2, Option.bind_some]
  dsimp only
  rw [if_pos rfl]
set_option maxRecDepth 20000 in
theorem zlc_220 {xs : Nat × (Nat → Int32)} {i : Int32} (i1 : zv_in (i + 1) xs.1 = true) (i2 : zv_in (i + 2) xs.1 = true) (i3 : zv_in (i + 3) xs.1 = true) {g : Nat → Nat → Int32} {h : Nat → Nat → Int64} {Z : zZ} (ok : zOK Z) (hC : zBC g h Z) (hM : zBM g h Z) : ∃ g2 h2 Z', zOK Z' ∧ zBC g2 h2 Z' ∧ zBM g2 h2 Z' ∧ zv_z true zt_L_law (zv_ev 11) (zv_ei xs 11) xs true 220 [some (.ref 1000000), some (.ref 0), some (.ref 116), some (.int i)] [] zS0 (g, h) = zv_z true zt_L_law (zv_ev 11) (zv_ei xs 11) xs true 1159 [some (.ref 1000000), some (.ref 0), some (.ref 116), some (.int i)] [] zS0 (g2, h2) := by
  obtain ⟨v, D1, g2, h2, Z', ok', c', m', r1, r2⟩ := zlaw_go (go_fault) ok hC hM
  refine ⟨g2, h2, Z', ok', c', m', ?_⟩
  rw [zd_law_220, r1, Option.bind_some]
  dsimp only
  rw [r2, Option.bind_some]
  dsimp only
  rw [if_pos rfl]
set_option maxRecDepth 20000 in
theorem zlc_233 {xs : Nat × (Nat → Int32)} {i : Int32} (i1 : zv_in (i + 1) xs.1 = true) (i2 : zv_in (i + 2) xs.1 = true) (i3 : zv_in (i + 3) xs.1 = true) {g : Nat → Nat → Int32} {h : Nat → Nat → Int64} {Z : zZ} (ok : zOK Z) (hC : zBC g h Z) (hM : zBM g h Z) : ∃ g2 h2 Z', zOK Z' ∧ zBC g2 h2 Z' ∧ zBM g2 h2 Z' ∧ zv_z true zt_L_law (zv_ev 11) (zv_ei xs 11) xs true 233 [some (.ref 1000000), some (.ref 0), some (.ref 116), some (.int i)] [] zS0 (g, h) = zv_z true zt_L_law (zv_ev 11) (zv_ei xs 11) xs true 1159 [some (.ref 1000000), some (.ref 0), some (.ref 116), some (.int i)] [] zS0 (g2, h2) := by
  obtain ⟨v, D1, g2, h2, Z', ok', c', m', r1, r2⟩ := zlaw_go (go_domain) ok hC hM
  refine ⟨g2, h2, Z', ok', c', m', ?_⟩
  rw [zd_law_233, r1, Option.bind_some]
  dsimp only
  rw [r2, Option.bind_some]
  dsimp only
  rw [if_pos rfl]
set_option maxRecDepth 20000 in
theorem zlc_246 {xs : Nat × (Nat → Int32)} {i : Int32} (i1 : zv_in (i + 1) xs.1 = true) (i2 : zv_in (i + 2) xs.1 = true) (i3 : zv_in (i + 3) xs.1 = true) {g : Nat → Nat → Int32} {h : Nat → Nat → Int64} {Z : zZ} (ok : zOK Z) (hC : zBC g h Z) (hM : zBM g h Z) : ∃ g2 h2 Z', zOK Z' ∧ zBC g2 h2 Z' ∧ zBM g2 h2 Z' ∧ zv_z true zt_L_law (zv_ev 11) (zv_ei xs 11) xs true 246 [some (.ref 1000000), some (.ref 0), some (.ref 116), some (.int i)] [] zS0 (g, h) = zv_z true zt_L_law (zv_ev 11) (zv_ei xs 11) xs true 1159 [some (.ref 1000000), some (.ref 0), some (.ref 116), some (.int i)] [] zS0 (g2, h2) := by
  obtain ⟨v, D1, g2, h2, Z', ok', c', m', r1, r2⟩ := zlaw_go (go_link ((xs.2 (i + 1).toNatClampNeg)) ((xs.2 (i + 2).toNatClampNeg)) ((xs.2 (i + 3).toNatClampNeg))) ok hC hM
  refine ⟨g2, h2, Z', ok', c', m', ?_⟩
  rw [zd_law_246, i1, i2, i3, cond_true, cond_true, cond_true, r1, Option.bind_some]
  dsimp only
  rw [cond_true, cond_true, cond_true, r2, Option.bind_some]
  dsimp only
  rw [if_pos rfl]
set_option maxRecDepth 20000 in
theorem zlc_289 {xs : Nat × (Nat → Int32)} {i : Int32} (i1 : zv_in (i + 1) xs.1 = true) (i2 : zv_in (i + 2) xs.1 = true) (i3 : zv_in (i + 3) xs.1 = true) {g : Nat → Nat → Int32} {h : Nat → Nat → Int64} {Z : zZ} (ok : zOK Z) (hC : zBC g h Z) (hM : zBM g h Z) : ∃ g2 h2 Z', zOK Z' ∧ zBC g2 h2 Z' ∧ zBM g2 h2 Z' ∧ zv_z true zt_L_law (zv_ev 11) (zv_ei xs 11) xs true 289 [some (.ref 1000000), some (.ref 0), some (.ref 116), some (.int i)] [] zS0 (g, h) = zv_z true zt_L_law (zv_ev 11) (zv_ei xs 11) xs true 1159 [some (.ref 1000000), some (.ref 0), some (.ref 116), some (.int i)] [] zS0 (g2, h2) := by
  obtain ⟨v, D1, g2, h2, Z', ok', c', m', r1, r2⟩ := zlaw_go (go_session ((xs.2 (i + 1).toNatClampNeg)) ((xs.2 (i + 2).toNatClampNeg))) ok hC hM
  refine ⟨g2, h2, Z', ok', c', m', ?_⟩
  rw [zd_law_289, i1, i2, cond_true, cond_true, r1, Option.bind_some]
  dsimp only
  rw [cond_true, cond_true, r2, Option.bind_some]
  dsimp only
  rw [if_pos rfl]
set_option maxRecDepth 20000 in
theorem zlc_322 {xs : Nat × (Nat → Int32)} {i : Int32} (i1 : zv_in (i + 1) xs.1 = true) (i2 : zv_in (i + 2) xs.1 = true) (i3 : zv_in (i + 3) xs.1 = true) {g : Nat → Nat → Int32} {h : Nat → Nat → Int64} {Z : zZ} (ok : zOK Z) (hC : zBC g h Z) (hM : zBM g h Z) : ∃ g2 h2 Z', zOK Z' ∧ zBC g2 h2 Z' ∧ zBM g2 h2 Z' ∧ zv_z true zt_L_law (zv_ev 11) (zv_ei xs 11) xs true 322 [some (.ref 1000000), some (.ref 0), some (.ref 116), some (.int i)] [] zS0 (g, h) = zv_z true zt_L_law (zv_ev 11) (zv_ei xs 11) xs true 1159 [some (.ref 1000000), some (.ref 0), some (.ref 116), some (.int i)] [] zS0 (g2, h2) := by
  obtain ⟨v, D1, g2, h2, Z', ok', c', m', r1, r2⟩ := zlaw_go (go_exit ((xs.2 (i + 1).toNatClampNeg)) ((xs.2 (i + 2).toNatClampNeg))) ok hC hM
  refine ⟨g2, h2, Z', ok', c', m', ?_⟩
  rw [zd_law_322, i1, i2, cond_true, cond_true, r1, Option.bind_some]
  dsimp only
  rw [cond_true, cond_true, r2, Option.bind_some]
  dsimp only
  rw [if_pos rfl]
set_option maxRecDepth 20000 in
theorem zlc_355 {xs : Nat × (Nat → Int32)} {i : Int32} (i1 : zv_in (i + 1) xs.1 = true) (i2 : zv_in (i + 2) xs.1 = true) (i3 : zv_in (i + 3) xs.1 = true) {g : Nat → Nat → Int32} {h : Nat → Nat → Int64} {Z : zZ} (ok : zOK Z) (hC : zBC g h Z) (hM : zBM g h Z) : ∃ g2 h2 Z', zOK Z' ∧ zBC g2 h2 Z' ∧ zBM g2 h2 Z' ∧ zv_z true zt_L_law (zv_ev 11) (zv_ei xs 11) xs true 355 [some (.ref 1000000), some (.ref 0), some (.ref 116), some (.int i)] [] zS0 (g, h) = zv_z true zt_L_law (zv_ev 11) (zv_ei xs 11) xs true 1159 [some (.ref 1000000), some (.ref 0), some (.ref 116), some (.int i)] [] zS0 (g2, h2) := by
  obtain ⟨v, D1, g2, h2, Z', ok', c', m', r1, r2⟩ := zlaw_go (go_step ((xs.2 (i + 1).toNatClampNeg))) ok hC hM
  refine ⟨g2, h2, Z', ok', c', m', ?_⟩
  rw [zd_law_355, i1, cond_true, r1, Option.bind_some]
  dsimp only
  rw [cond_true, r2, Option.bind_some]
  dsimp only
  rw [if_pos rfl]
set_option maxRecDepth 20000 in
theorem zlc_378 {xs : Nat × (Nat → Int32)} {i : Int32} (i1 : zv_in (i + 1) xs.1 = true) (i2 : zv_in (i + 2) xs.1 = true) (i3 : zv_in (i + 3) xs.1 = true) {g : Nat → Nat → Int32} {h : Nat → Nat → Int64} {Z : zZ} (ok : zOK Z) (hC : zBC g h Z) (hM : zBM g h Z) : ∃ g2 h2 Z', zOK Z' ∧ zBC g2 h2 Z' ∧ zBM g2 h2 Z' ∧ zv_z true zt_L_law (zv_ev 11) (zv_ei xs 11) xs true 378 [some (.ref 1000000), some (.ref 0), some (.ref 116), some (.int i)] [] zS0 (g, h) = zv_z true zt_L_law (zv_ev 11) (zv_ei xs 11) xs true 1159 [some (.ref 1000000), some (.ref 0), some (.ref 116), some (.int i)] [] zS0 (g2, h2) := by
  obtain ⟨v, D1, g2, h2, Z', ok', c', m', r1, r2⟩ := zlaw_go (go_round) ok hC hM
  refine ⟨g2, h2, Z', ok', c', m', ?_⟩
  rw [zd_law_378, r1, Option.bind_some]
  dsimp only
  rw [r2, Option.bind_some]
  dsimp only
  rw [if_pos rfl]
set_option maxRecDepth 20000 in
theorem zlc_391 {xs : Nat × (Nat → Int32)} {i : Int32} (i1 : zv_in (i + 1) xs.1 = true) (i2 : zv_in (i + 2) xs.1 = true) (i3 : zv_in (i + 3) xs.1 = true) {g : Nat → Nat → Int32} {h : Nat → Nat → Int64} {Z : zZ} (ok : zOK Z) (hC : zBC g h Z) (hM : zBM g h Z) : ∃ g2 h2 Z', zOK Z' ∧ zBC g2 h2 Z' ∧ zBM g2 h2 Z' ∧ zv_z true zt_L_law (zv_ev 11) (zv_ei xs 11) xs true 391 [some (.ref 1000000), some (.ref 0), some (.ref 116), some (.int i)] [] zS0 (g, h) = zv_z true zt_L_law (zv_ev 11) (zv_ei xs 11) xs true 1159 [some (.ref 1000000), some (.ref 0), some (.ref 116), some (.int i)] [] zS0 (g2, h2) := by
  obtain ⟨v, D1, g2, h2, Z', ok', c', m', r1, r2⟩ := zlaw_go (go_setLink ((xs.2 (i + 1).toNatClampNeg)) ((xs.2 (i + 2).toNatClampNeg)) ((xs.2 (i + 3).toNatClampNeg))) ok hC hM
  refine ⟨g2, h2, Z', ok', c', m', ?_⟩
  rw [zd_law_391, i1, i2, i3, cond_true, cond_true, cond_true, r1, Option.bind_some]
  dsimp only
  rw [cond_true, cond_true, cond_true, r2, Option.bind_some]
  dsimp only
  rw [if_pos rfl]
set_option maxRecDepth 20000 in
theorem zlc_434 {xs : Nat × (Nat → Int32)} {i : Int32} (i1 : zv_in (i + 1) xs.1 = true) (i2 : zv_in (i + 2) xs.1 = true) (i3 : zv_in (i + 3) xs.1 = true) {g : Nat → Nat → Int32} {h : Nat → Nat → Int64} {Z : zZ} (ok : zOK Z) (hC : zBC g h Z) (hM : zBM g h Z) : ∃ g2 h2 Z', zOK Z' ∧ zBC g2 h2 Z' ∧ zBM g2 h2 Z' ∧ zv_z true zt_L_law (zv_ev 11) (zv_ei xs 11) xs true 434 [some (.ref 1000000), some (.ref 0), some (.ref 116), some (.int i)] [] zS0 (g, h) = zv_z true zt_L_law (zv_ev 11) (zv_ei xs 11) xs true 1159 [some (.ref 1000000), some (.ref 0), some (.ref 116), some (.int i)] [] zS0 (g2, h2) := by
  obtain ⟨v, D1, g2, h2, Z', ok', c', m', r1, r2⟩ := zlaw_go (go_turn ((xs.2 (i + 1).toNatClampNeg))) ok hC hM
  refine ⟨g2, h2, Z', ok', c', m', ?_⟩
  rw [zd_law_434, i1, cond_true, r1, Option.bind_some]
  dsimp only
  rw [cond_true, r2, Option.bind_some]
  dsimp only
  rw [if_pos rfl]
set_option maxRecDepth 20000 in
theorem zlc_457 {xs : Nat × (Nat → Int32)} {i : Int32} (i1 : zv_in (i + 1) xs.1 = true) (i2 : zv_in (i + 2) xs.1 = true) (i3 : zv_in (i + 3) xs.1 = true) {g : Nat → Nat → Int32} {h : Nat → Nat → Int64} {Z : zZ} (ok : zOK Z) (hC : zBC g h Z) (hM : zBM g h Z) : ∃ g2 h2 Z', zOK Z' ∧ zBC g2 h2 Z' ∧ zBM g2 h2 Z' ∧ zv_z true zt_L_law (zv_ev 11) (zv_ei xs 11) xs true 457 [some (.ref 1000000), some (.ref 0), some (.ref 116), some (.int i)] [] zS0 (g, h) = zv_z true zt_L_law (zv_ev 11) (zv_ei xs 11) xs true 1159 [some (.ref 1000000), some (.ref 0), some (.ref 116), some (.int i)] [] zS0 (g2, h2) := by
  obtain ⟨v, D1, g2, h2, Z', ok', c', m', r1, r2⟩ := zlaw_go (go_weigh ((xs.2 (i + 1).toNatClampNeg)) ((xs.2 (i + 2).toNatClampNeg))) ok hC hM
  refine ⟨g2, h2, Z', ok', c', m', ?_⟩
  rw [zd_law_457, i1, i2, cond_true, cond_true, r1, Option.bind_some]
  dsimp only
  rw [cond_true, cond_true, r2, Option.bind_some]
  dsimp only
  rw [if_pos rfl]
set_option maxRecDepth 20000 in
theorem zlc_490 {xs : Nat × (Nat → Int32)} {i : Int32} (i1 : zv_in (i + 1) xs.1 = true) (i2 : zv_in (i + 2) xs.1 = true) (i3 : zv_in (i + 3) xs.1 = true) {g : Nat → Nat → Int32} {h : Nat → Nat → Int64} {Z : zZ} (ok : zOK Z) (hC : zBC g h Z) (hM : zBM g h Z) : ∃ g2 h2 Z', zOK Z' ∧ zBC g2 h2 Z' ∧ zBM g2 h2 Z' ∧ zv_z true zt_L_law (zv_ev 11) (zv_ei xs 11) xs true 490 [some (.ref 1000000), some (.ref 0), some (.ref 116), some (.int i)] [] zS0 (g, h) = zv_z true zt_L_law (zv_ev 11) (zv_ei xs 11) xs true 1159 [some (.ref 1000000), some (.ref 0), some (.ref 116), some (.int i)] [] zS0 (g2, h2) := by
  obtain ⟨v, D1, g2, h2, Z', ok', c', m', r1, r2⟩ := zlaw_go (go_add ((xs.2 (i + 1).toNatClampNeg))) ok hC hM
  refine ⟨g2, h2, Z', ok', c', m', ?_⟩
  rw [zd_law_490, i1, cond_true, r1, Option.bind_some]
  dsimp only
  rw [cond_true, r2, Option.bind_some]
  dsimp only
  rw [if_pos rfl]
set_option maxRecDepth 20000 in
theorem zlc_513 {xs : Nat × (Nat → Int32)} {i : Int32} (i1 : zv_in (i + 1) xs.1 = true) (i2 : zv_in (i + 2) xs.1 = true) (i3 : zv_in (i + 3) xs.1 = true) {g : Nat → Nat → Int32} {h : Nat → Nat → Int64} {Z : zZ} (ok : zOK Z) (hC : zBC g h Z) (hM : zBM g h Z) : ∃ g2 h2 Z', zOK Z' ∧ zBC g2 h2 Z' ∧ zBM g2 h2 Z' ∧ zv_z true zt_L_law (zv_ev 11) (zv_ei xs 11) xs true 513 [some (.ref 1000000), some (.ref 0), some (.ref 116), some (.int i)] [] zS0 (g, h) = zv_z true zt_L_law (zv_ev 11) (zv_ei xs 11) xs true 1159 [some (.ref 1000000), some (.ref 0), some (.ref 116), some (.int i)] [] zS0 (g2, h2) := by
  obtain ⟨v, D1, g2, h2, Z', ok', c', m', r1, r2⟩ := zlaw_go (go_setMode ((xs.2 (i + 1).toNatClampNeg))) ok hC hM
  refine ⟨g2, h2, Z', ok', c', m', ?_⟩
  rw [zd_law_513, i1, cond_true, r1, Option.bind_some]
  dsimp only
  rw [cond_true, r2, Option.bind_some]
  dsimp only
  rw [if_pos rfl]
set_option maxRecDepth 20000 in
theorem zlc_536 {xs : Nat × (Nat → Int32)} {i : Int32} (i1 : zv_in (i + 1) xs.1 = true) (i2 : zv_in (i + 2) xs.1 = true) (i3 : zv_in (i + 3) xs.1 = true) {g : Nat → Nat → Int32} {h : Nat → Nat → Int64} {Z : zZ} (ok : zOK Z) (hC : zBC g h Z) (hM : zBM g h Z) : ∃ g2 h2 Z', zOK Z' ∧ zBC g2 h2 Z' ∧ zBM g2 h2 Z' ∧ zv_z true zt_L_law (zv_ev 11) (zv_ei xs 11) xs true 536 [some (.ref 1000000), some (.ref 0), some (.ref 116), some (.int i)] [] zS0 (g, h) = zv_z true zt_L_law (zv_ev 11) (zv_ei xs 11) xs true 1159 [some (.ref 1000000), some (.ref 0), some (.ref 116), some (.int i)] [] zS0 (g2, h2) := by
  obtain ⟨v, D1, g2, h2, Z', ok', c', m', r1, r2⟩ := zlaw_go (go_undo) ok hC hM
  refine ⟨g2, h2, Z', ok', c', m', ?_⟩
  rw [zd_law_536, r1, Option.bind_some]
  dsimp only
  rw [r2, Option.bind_some]
  dsimp only
  rw [if_pos rfl]
set_option maxRecDepth 20000 in
theorem zlc_549 {xs : Nat × (Nat → Int32)} {i : Int32} (i1 : zv_in (i + 1) xs.1 = true) (i2 : zv_in (i + 2) xs.1 = true) (i3 : zv_in (i + 3) xs.1 = true) {g : Nat → Nat → Int32} {h : Nat → Nat → Int64} {Z : zZ} (ok : zOK Z) (hC : zBC g h Z) (hM : zBM g h Z) : ∃ g2 h2 Z', zOK Z' ∧ zBC g2 h2 Z' ∧ zBM g2 h2 Z' ∧ zv_z true zt_L_law (zv_ev 11) (zv_ei xs 11) xs true 549 [some (.ref 1000000), some (.ref 0), some (.ref 116), some (.int i)] [] zS0 (g, h) = zv_z true zt_L_law (zv_ev 11) (zv_ei xs 11) xs true 1159 [some (.ref 1000000), some (.ref 0), some (.ref 116), some (.int i)] [] zS0 (g2, h2) := by
  obtain ⟨v, D1, g2, h2, Z', ok', c', m', r1, r2⟩ := zlaw_go (go_choice ((xs.2 (i + 1).toNatClampNeg)) ((xs.2 (i + 2).toNatClampNeg)) ((xs.2 (i + 3).toNatClampNeg))) ok hC hM
  refine ⟨g2, h2, Z', ok', c', m', ?_⟩
  rw [zd_law_549, i1, i2, i3, cond_true, cond_true, cond_true, r1, Option.bind_some]
  dsimp only
  rw [cond_true, cond_true, cond_true, r2, Option.bind_some]
  dsimp only
  rw [if_pos rfl]
set_option maxRecDepth 20000 in
theorem zlc_592 {xs : Nat × (Nat → Int32)} {i : Int32} (i1 : zv_in (i + 1) xs.1 = true) (i2 : zv_in (i + 2) xs.1 = true) (i3 : zv_in (i + 3) xs.1 = true) {g : Nat → Nat → Int32} {h : Nat → Nat → Int64} {Z : zZ} (ok : zOK Z) (hC : zBC g h Z) (hM : zBM g h Z) : ∃ g2 h2 Z', zOK Z' ∧ zBC g2 h2 Z' ∧ zBM g2 h2 Z' ∧ zv_z true zt_L_law (zv_ev 11) (zv_ei xs 11) xs true 592 [some (.ref 1000000), some (.ref 0), some (.ref 116), some (.int i)] [] zS0 (g, h) = zv_z true zt_L_law (zv_ev 11) (zv_ei xs 11) xs true 1159 [some (.ref 1000000), some (.ref 0), some (.ref 116), some (.int i)] [] zS0 (g2, h2) := by
  obtain ⟨v, D1, g2, h2, Z', ok', c', m', r1, r2⟩ := zlaw_go (go_heard ((xs.2 (i + 1).toNatClampNeg))) ok hC hM
  refine ⟨g2, h2, Z', ok', c', m', ?_⟩
  rw [zd_law_592, i1, cond_true, r1, Option.bind_some]
  dsimp only
  rw [cond_true, r2, Option.bind_some]
  dsimp only
  rw [if_pos rfl]
set_option maxRecDepth 20000 in
theorem zlc_615 {xs : Nat × (Nat → Int32)} {i : Int32} (i1 : zv_in (i + 1) xs.1 = true) (i2 : zv_in (i + 2) xs.1 = true) (i3 : zv_in (i + 3) xs.1 = true) {g : Nat → Nat → Int32} {h : Nat → Nat → Int64} {Z : zZ} (ok : zOK Z) (hC : zBC g h Z) (hM : zBM g h Z) : ∃ g2 h2 Z', zOK Z' ∧ zBC g2 h2 Z' ∧ zBM g2 h2 Z' ∧ zv_z true zt_L_law (zv_ev 11) (zv_ei xs 11) xs true 615 [some (.ref 1000000), some (.ref 0), some (.ref 116), some (.int i)] [] zS0 (g, h) = zv_z true zt_L_law (zv_ev 11) (zv_ei xs 11) xs true 1159 [some (.ref 1000000), some (.ref 0), some (.ref 116), some (.int i)] [] zS0 (g2, h2) := by
  obtain ⟨v, D1, g2, h2, Z', ok', c', m', r1, r2⟩ := zlaw_go (go_tells ((xs.2 (i + 1).toNatClampNeg)) ((xs.2 (i + 2).toNatClampNeg))) ok hC hM
  refine ⟨g2, h2, Z', ok', c', m', ?_⟩
  rw [zd_law_615, i1, i2, cond_true, cond_true, r1, Option.bind_some]
  dsimp only
  rw [cond_true, cond_true, r2, Option.bind_some]
  dsimp only
  rw [if_pos rfl]
set_option maxRecDepth 20000 in
theorem zlc_648 {xs : Nat × (Nat → Int32)} {i : Int32} (i1 : zv_in (i + 1) xs.1 = true) (i2 : zv_in (i + 2) xs.1 = true) (i3 : zv_in (i + 3) xs.1 = true) {g : Nat → Nat → Int32} {h : Nat → Nat → Int64} {Z : zZ} (ok : zOK Z) (hC : zBC g h Z) (hM : zBM g h Z) : ∃ g2 h2 Z', zOK Z' ∧ zBC g2 h2 Z' ∧ zBM g2 h2 Z' ∧ zv_z true zt_L_law (zv_ev 11) (zv_ei xs 11) xs true 648 [some (.ref 1000000), some (.ref 0), some (.ref 116), some (.int i)] [] zS0 (g, h) = zv_z true zt_L_law (zv_ev 11) (zv_ei xs 11) xs true 1159 [some (.ref 1000000), some (.ref 0), some (.ref 116), some (.int i)] [] zS0 (g2, h2) := by
  obtain ⟨v, D1, g2, h2, Z', ok', c', m', r1, r2⟩ := zlaw_go (go_mesh ((xs.2 (i + 1).toNatClampNeg))) ok hC hM
  refine ⟨g2, h2, Z', ok', c', m', ?_⟩
  rw [zd_law_648, i1, cond_true, r1, Option.bind_some]
  dsimp only
  rw [cond_true, r2, Option.bind_some]
  dsimp only
  rw [if_pos rfl]
set_option maxRecDepth 20000 in
theorem zlc_671 {xs : Nat × (Nat → Int32)} {i : Int32} (i1 : zv_in (i + 1) xs.1 = true) (i2 : zv_in (i + 2) xs.1 = true) (i3 : zv_in (i + 3) xs.1 = true) {g : Nat → Nat → Int32} {h : Nat → Nat → Int64} {Z : zZ} (ok : zOK Z) (hC : zBC g h Z) (hM : zBM g h Z) : ∃ g2 h2 Z', zOK Z' ∧ zBC g2 h2 Z' ∧ zBM g2 h2 Z' ∧ zv_z true zt_L_law (zv_ev 11) (zv_ei xs 11) xs true 671 [some (.ref 1000000), some (.ref 0), some (.ref 116), some (.int i)] [] zS0 (g, h) = zv_z true zt_L_law (zv_ev 11) (zv_ei xs 11) xs true 1159 [some (.ref 1000000), some (.ref 0), some (.ref 116), some (.int i)] [] zS0 (g2, h2) := by
  obtain ⟨v, D1, g2, h2, Z', ok', c', m', r1, r2⟩ := zlaw_go (go_leaves ((xs.2 (i + 1).toNatClampNeg)) ((xs.2 (i + 2).toNatClampNeg))) ok hC hM
  refine ⟨g2, h2, Z', ok', c', m', ?_⟩
  rw [zd_law_671, i1, i2, cond_true, cond_true, r1, Option.bind_some]
  dsimp only
  rw [cond_true, cond_true, r2, Option.bind_some]
  dsimp only
  rw [if_pos rfl]
set_option maxRecDepth 20000 in
theorem zlc_704 {xs : Nat × (Nat → Int32)} {i : Int32} (i1 : zv_in (i + 1) xs.1 = true) (i2 : zv_in (i + 2) xs.1 = true) (i3 : zv_in (i + 3) xs.1 = true) {g : Nat → Nat → Int32} {h : Nat → Nat → Int64} {Z : zZ} (ok : zOK Z) (hC : zBC g h Z) (hM : zBM g h Z) : ∃ g2 h2 Z', zOK Z' ∧ zBC g2 h2 Z' ∧ zBM g2 h2 Z' ∧ zv_z true zt_L_law (zv_ev 11) (zv_ei xs 11) xs true 704 [some (.ref 1000000), some (.ref 0), some (.ref 116), some (.int i)] [] zS0 (g, h) = zv_z true zt_L_law (zv_ev 11) (zv_ei xs 11) xs true 1159 [some (.ref 1000000), some (.ref 0), some (.ref 116), some (.int i)] [] zS0 (g2, h2) := by
  obtain ⟨v, D1, g2, h2, Z', ok', c', m', r1, r2⟩ := zlaw_go (go_run ((xs.2 (i + 1).toNatClampNeg)) ((xs.2 (i + 2).toNatClampNeg))) ok hC hM
  refine ⟨g2, h2, Z', ok', c', m', ?_⟩
  rw [zd_law_704, i1, i2, cond_true, cond_true, r1, Option.bind_some]
  dsimp only
  rw [cond_true, cond_true, r2, Option.bind_some]
  dsimp only
  rw [if_pos rfl]
set_option maxRecDepth 20000 in
theorem zlc_737 {xs : Nat × (Nat → Int32)} {i : Int32} (i1 : zv_in (i + 1) xs.1 = true) (i2 : zv_in (i + 2) xs.1 = true) (i3 : zv_in (i + 3) xs.1 = true) {g : Nat → Nat → Int32} {h : Nat → Nat → Int64} {Z : zZ} (ok : zOK Z) (hC : zBC g h Z) (hM : zBM g h Z) : ∃ g2 h2 Z', zOK Z' ∧ zBC g2 h2 Z' ∧ zBM g2 h2 Z' ∧ zv_z true zt_L_law (zv_ev 11) (zv_ei xs 11) xs true 737 [some (.ref 1000000), some (.ref 0), some (.ref 116), some (.int i)] [] zS0 (g, h) = zv_z true zt_L_law (zv_ev 11) (zv_ei xs 11) xs true 1159 [some (.ref 1000000), some (.ref 0), some (.ref 116), some (.int i)] [] zS0 (g2, h2) := by
  obtain ⟨v, D1, g2, h2, Z', ok', c', m', r1, r2⟩ := zlaw_go (go_orders ((xs.2 (i + 1).toNatClampNeg))) ok hC hM
  refine ⟨g2, h2, Z', ok', c', m', ?_⟩
  rw [zd_law_737, i1, cond_true, r1, Option.bind_some]
  dsimp only
  rw [cond_true, r2, Option.bind_some]
  dsimp only
  rw [if_pos rfl]
set_option maxRecDepth 20000 in
theorem zlc_760 {xs : Nat × (Nat → Int32)} {i : Int32} (i1 : zv_in (i + 1) xs.1 = true) (i2 : zv_in (i + 2) xs.1 = true) (i3 : zv_in (i + 3) xs.1 = true) {g : Nat → Nat → Int32} {h : Nat → Nat → Int64} {Z : zZ} (ok : zOK Z) (hC : zBC g h Z) (hM : zBM g h Z) : ∃ g2 h2 Z', zOK Z' ∧ zBC g2 h2 Z' ∧ zBM g2 h2 Z' ∧ zv_z true zt_L_law (zv_ev 11) (zv_ei xs 11) xs true 760 [some (.ref 1000000), some (.ref 0), some (.ref 116), some (.int i)] [] zS0 (g, h) = zv_z true zt_L_law (zv_ev 11) (zv_ei xs 11) xs true 1159 [some (.ref 1000000), some (.ref 0), some (.ref 116), some (.int i)] [] zS0 (g2, h2) := by
  obtain ⟨v, D1, g2, h2, Z', ok', c', m', r1, r2⟩ := zlaw_go (go_healed ((xs.2 (i + 1).toNatClampNeg))) ok hC hM
  refine ⟨g2, h2, Z', ok', c', m', ?_⟩
  rw [zd_law_760, i1, cond_true, r1, Option.bind_some]
  dsimp only
  rw [cond_true, r2, Option.bind_some]
  dsimp only
  rw [if_pos rfl]
set_option maxRecDepth 20000 in
theorem zlc_783 {xs : Nat × (Nat → Int32)} {i : Int32} (i1 : zv_in (i + 1) xs.1 = true) (i2 : zv_in (i + 2) xs.1 = true) (i3 : zv_in (i + 3) xs.1 = true) {g : Nat → Nat → Int32} {h : Nat → Nat → Int64} {Z : zZ} (ok : zOK Z) (hC : zBC g h Z) (hM : zBM g h Z) : ∃ g2 h2 Z', zOK Z' ∧ zBC g2 h2 Z' ∧ zBM g2 h2 Z' ∧ zv_z true zt_L_law (zv_ev 11) (zv_ei xs 11) xs true 783 [some (.ref 1000000), some (.ref 0), some (.ref 116), some (.int i)] [] zS0 (g, h) = zv_z true zt_L_law (zv_ev 11) (zv_ei xs 11) xs true 1159 [some (.ref 1000000), some (.ref 0), some (.ref 116), some (.int i)] [] zS0 (g2, h2) := by
  obtain ⟨v, D1, g2, h2, Z', ok', c', m', r1, r2⟩ := zlaw_go (go_judge ((xs.2 (i + 1).toNatClampNeg)) (((((xs.2 (i + 2).toNatClampNeg).toInt64) <<< ((32 : Int32).toInt64 &&& 63)) ||| (((xs.2 (i + 3).toNatClampNeg).toInt64) &&& 4294967295)))) ok hC hM
  refine ⟨g2, h2, Z', ok', c', m', ?_⟩
  rw [zd_law_783, i1, i2, i3, cond_true, cond_true, cond_true, r1, Option.bind_some]
  dsimp only
  rw [cond_true, cond_true, cond_true, r2, Option.bind_some]
  dsimp only
  rw [if_pos rfl]
set_option maxRecDepth 20000 in
theorem zlc_846 {xs : Nat × (Nat → Int32)} {i : Int32} (i1 : zv_in (i + 1) xs.1 = true) (i2 : zv_in (i + 2) xs.1 = true) (i3 : zv_in (i + 3) xs.1 = true) {g : Nat → Nat → Int32} {h : Nat → Nat → Int64} {Z : zZ} (ok : zOK Z) (hC : zBC g h Z) (hM : zBM g h Z) : ∃ g2 h2 Z', zOK Z' ∧ zBC g2 h2 Z' ∧ zBM g2 h2 Z' ∧ zv_z true zt_L_law (zv_ev 11) (zv_ei xs 11) xs true 846 [some (.ref 1000000), some (.ref 0), some (.ref 116), some (.int i)] [] zS0 (g, h) = zv_z true zt_L_law (zv_ev 11) (zv_ei xs 11) xs true 1159 [some (.ref 1000000), some (.ref 0), some (.ref 116), some (.int i)] [] zS0 (g2, h2) := by
  obtain ⟨v, D1, g2, h2, Z', ok', c', m', r1, r2⟩ := zlaw_go (go_see ((xs.2 (i + 1).toNatClampNeg)) ((xs.2 (i + 2).toNatClampNeg)) ((xs.2 (i + 3).toNatClampNeg))) ok hC hM
  refine ⟨g2, h2, Z', ok', c', m', ?_⟩
  rw [zd_law_846, i1, i2, i3, cond_true, cond_true, cond_true, r1, Option.bind_some]
  dsimp only
  rw [cond_true, cond_true, cond_true, r2, Option.bind_some]
  dsimp only
  rw [if_pos rfl]
set_option maxRecDepth 20000 in
theorem zlc_889 {xs : Nat × (Nat → Int32)} {i : Int32} (i1 : zv_in (i + 1) xs.1 = true) (i2 : zv_in (i + 2) xs.1 = true) (i3 : zv_in (i + 3) xs.1 = true) {g : Nat → Nat → Int32} {h : Nat → Nat → Int64} {Z : zZ} (ok : zOK Z) (hC : zBC g h Z) (hM : zBM g h Z) : ∃ g2 h2 Z', zOK Z' ∧ zBC g2 h2 Z' ∧ zBM g2 h2 Z' ∧ zv_z true zt_L_law (zv_ev 11) (zv_ei xs 11) xs true 889 [some (.ref 1000000), some (.ref 0), some (.ref 116), some (.int i)] [] zS0 (g, h) = zv_z true zt_L_law (zv_ev 11) (zv_ei xs 11) xs true 1159 [some (.ref 1000000), some (.ref 0), some (.ref 116), some (.int i)] [] zS0 (g2, h2) := by
  obtain ⟨v, D1, g2, h2, Z', ok', c', m', r1, r2⟩ := zlaw_go (go_unsee) ok hC hM
  refine ⟨g2, h2, Z', ok', c', m', ?_⟩
  rw [zd_law_889, r1, Option.bind_some]
  dsimp only
  rw [r2, Option.bind_some]
  dsimp only
  rw [if_pos rfl]
set_option maxRecDepth 20000 in
theorem zlc_902 {xs : Nat × (Nat → Int32)} {i : Int32} (i1 : zv_in (i + 1) xs.1 = true) (i2 : zv_in (i + 2) xs.1 = true) (i3 : zv_in (i + 3) xs.1 = true) {g : Nat → Nat → Int32} {h : Nat → Nat → Int64} {Z : zZ} (ok : zOK Z) (hC : zBC g h Z) (hM : zBM g h Z) : ∃ g2 h2 Z', zOK Z' ∧ zBC g2 h2 Z' ∧ zBM g2 h2 Z' ∧ zv_z true zt_L_law (zv_ev 11) (zv_ei xs 11) xs true 902 [some (.ref 1000000), some (.ref 0), some (.ref 116), some (.int i)] [] zS0 (g, h) = zv_z true zt_L_law (zv_ev 11) (zv_ei xs 11) xs true 1159 [some (.ref 1000000), some (.ref 0), some (.ref 116), some (.int i)] [] zS0 (g2, h2) := by
  obtain ⟨v, D1, g2, h2, Z', ok', c', m', r1, r2⟩ := zlaw_go (go_which) ok hC hM
  refine ⟨g2, h2, Z', ok', c', m', ?_⟩
  rw [zd_law_902, r1, Option.bind_some]
  dsimp only
  rw [r2, Option.bind_some]
  dsimp only
  rw [if_pos rfl]
set_option maxRecDepth 20000 in
theorem zlc_915 {xs : Nat × (Nat → Int32)} {i : Int32} (i1 : zv_in (i + 1) xs.1 = true) (i2 : zv_in (i + 2) xs.1 = true) (i3 : zv_in (i + 3) xs.1 = true) {g : Nat → Nat → Int32} {h : Nat → Nat → Int64} {Z : zZ} (ok : zOK Z) (hC : zBC g h Z) (hM : zBM g h Z) : ∃ g2 h2 Z', zOK Z' ∧ zBC g2 h2 Z' ∧ zBM g2 h2 Z' ∧ zv_z true zt_L_law (zv_ev 11) (zv_ei xs 11) xs true 915 [some (.ref 1000000), some (.ref 0), some (.ref 116), some (.int i)] [] zS0 (g, h) = zv_z true zt_L_law (zv_ev 11) (zv_ei xs 11) xs true 1159 [some (.ref 1000000), some (.ref 0), some (.ref 116), some (.int i)] [] zS0 (g2, h2) := by
  by_cases hb : xs.2 (i + 2).toNatClampNeg = 0
  · obtain ⟨v, D1, g2, h2, Z', ok', c', m', r1, r2⟩ := zlaw_go (go_share ((xs.2 (i + 1).toNatClampNeg)) (0)) ok hC hM
    refine ⟨g2, h2, Z', ok', c', m', ?_⟩
    rw [zd_law_915, i1, i2, cond_true, cond_true, if_pos hb, r1, Option.bind_some]
    dsimp only
    rw [cond_true, cond_true, if_pos hb, r2, Option.bind_some]
    dsimp only
    rw [if_pos rfl]
  · obtain ⟨v, D1, g2, h2, Z', ok', c', m', r1, r2⟩ := zlaw_go (go_share ((xs.2 (i + 1).toNatClampNeg)) (1)) ok hC hM
    refine ⟨g2, h2, Z', ok', c', m', ?_⟩
    rw [zd_law_915, i1, i2, cond_true, cond_true, if_neg hb, r1, Option.bind_some]
    dsimp only
    rw [cond_true, cond_true, if_neg hb, r2, Option.bind_some]
    dsimp only
    rw [if_pos rfl]
set_option maxRecDepth 20000 in
theorem zlc_964 {xs : Nat × (Nat → Int32)} {i : Int32} (i1 : zv_in (i + 1) xs.1 = true) (i2 : zv_in (i + 2) xs.1 = true) (i3 : zv_in (i + 3) xs.1 = true) {g : Nat → Nat → Int32} {h : Nat → Nat → Int64} {Z : zZ} (ok : zOK Z) (hC : zBC g h Z) (hM : zBM g h Z) : ∃ g2 h2 Z', zOK Z' ∧ zBC g2 h2 Z' ∧ zBM g2 h2 Z' ∧ zv_z true zt_L_law (zv_ev 11) (zv_ei xs 11) xs true 964 [some (.ref 1000000), some (.ref 0), some (.ref 116), some (.int i)] [] zS0 (g, h) = zv_z true zt_L_law (zv_ev 11) (zv_ei xs 11) xs true 1159 [some (.ref 1000000), some (.ref 0), some (.ref 116), some (.int i)] [] zS0 (g2, h2) := by
  by_cases hb : xs.2 (i + 2).toNatClampNeg = 0
  · obtain ⟨v, D1, g2, h2, Z', ok', c', m', r1, r2⟩ := zlaw_go (go_lost ((xs.2 (i + 1).toNatClampNeg)) (0)) ok hC hM
    refine ⟨g2, h2, Z', ok', c', m', ?_⟩
    rw [zd_law_964, i1, i2, cond_true, cond_true, if_pos hb, r1, Option.bind_some]
    dsimp only
    rw [cond_true, cond_true, if_pos hb, r2, Option.bind_some]
    dsimp only
    rw [if_pos rfl]
  · obtain ⟨v, D1, g2, h2, Z', ok', c', m', r1, r2⟩ := zlaw_go (go_lost ((xs.2 (i + 1).toNatClampNeg)) (1)) ok hC hM
    refine ⟨g2, h2, Z', ok', c', m', ?_⟩
    rw [zd_law_964, i1, i2, cond_true, cond_true, if_neg hb, r1, Option.bind_some]
    dsimp only
    rw [cond_true, cond_true, if_neg hb, r2, Option.bind_some]
    dsimp only
    rw [if_pos rfl]
set_option maxRecDepth 20000 in
theorem zlc_1013 {xs : Nat × (Nat → Int32)} {i : Int32} (i1 : zv_in (i + 1) xs.1 = true) (i2 : zv_in (i + 2) xs.1 = true) (i3 : zv_in (i + 3) xs.1 = true) {g : Nat → Nat → Int32} {h : Nat → Nat → Int64} {Z : zZ} (ok : zOK Z) (hC : zBC g h Z) (hM : zBM g h Z) : ∃ g2 h2 Z', zOK Z' ∧ zBC g2 h2 Z' ∧ zBM g2 h2 Z' ∧ zv_z true zt_L_law (zv_ev 11) (zv_ei xs 11) xs true 1013 [some (.ref 1000000), some (.ref 0), some (.ref 116), some (.int i)] [] zS0 (g, h) = zv_z true zt_L_law (zv_ev 11) (zv_ei xs 11) xs true 1159 [some (.ref 1000000), some (.ref 0), some (.ref 116), some (.int i)] [] zS0 (g2, h2) := by
  obtain ⟨v, D1, g2, h2, Z', ok', c', m', r1, r2⟩ := zlaw_go (go_seed (((((xs.2 (i + 1).toNatClampNeg).toInt64) <<< ((32 : Int32).toInt64 &&& 63)) ||| (((xs.2 (i + 2).toNatClampNeg).toInt64) &&& 4294967295)))) ok hC hM
  refine ⟨g2, h2, Z', ok', c', m', ?_⟩
  rw [zd_law_1013, i1, i2, cond_true, cond_true, r1, Option.bind_some]
  dsimp only
  rw [cond_true, cond_true, r2, Option.bind_some]
  dsimp only
  rw [lg_cmp_0, if_pos rfl]
set_option maxRecDepth 20000 in
theorem zlc_1067 {xs : Nat × (Nat → Int32)} {i : Int32} (i1 : zv_in (i + 1) xs.1 = true) (i2 : zv_in (i + 2) xs.1 = true) (i3 : zv_in (i + 3) xs.1 = true) {g : Nat → Nat → Int32} {h : Nat → Nat → Int64} {Z : zZ} (ok : zOK Z) (hC : zBC g h Z) (hM : zBM g h Z) : ∃ g2 h2 Z', zOK Z' ∧ zBC g2 h2 Z' ∧ zBM g2 h2 Z' ∧ zv_z true zt_L_law (zv_ev 11) (zv_ei xs 11) xs true 1067 [some (.ref 1000000), some (.ref 0), some (.ref 116), some (.int i)] [] zS0 (g, h) = zv_z true zt_L_law (zv_ev 11) (zv_ei xs 11) xs true 1159 [some (.ref 1000000), some (.ref 0), some (.ref 116), some (.int i)] [] zS0 (g2, h2) := by
  obtain ⟨v, D1, g2, h2, Z', ok', c', m', r1, r2⟩ := zlaw_go (go_drawn ((xs.2 (i + 1).toNatClampNeg))) ok hC hM
  refine ⟨g2, h2, Z', ok', c', m', ?_⟩
  rw [zd_law_1067, i1, cond_true, r1, Option.bind_some]
  dsimp only
  rw [cond_true, r2, Option.bind_some]
  dsimp only
  rw [if_pos rfl]
set_option maxRecDepth 20000 in
theorem zlc_1090 {xs : Nat × (Nat → Int32)} {i : Int32} (i1 : zv_in (i + 1) xs.1 = true) (i2 : zv_in (i + 2) xs.1 = true) (i3 : zv_in (i + 3) xs.1 = true) {g : Nat → Nat → Int32} {h : Nat → Nat → Int64} {Z : zZ} (ok : zOK Z) (hC : zBC g h Z) (hM : zBM g h Z) : ∃ g2 h2 Z', zOK Z' ∧ zBC g2 h2 Z' ∧ zBM g2 h2 Z' ∧ zv_z true zt_L_law (zv_ev 11) (zv_ei xs 11) xs true 1090 [some (.ref 1000000), some (.ref 0), some (.ref 116), some (.int i)] [] zS0 (g, h) = zv_z true zt_L_law (zv_ev 11) (zv_ei xs 11) xs true 1159 [some (.ref 1000000), some (.ref 0), some (.ref 116), some (.int i)] [] zS0 (g2, h2) := by
  obtain ⟨v, D1, g2, h2, Z', ok', c', m', r1, r2⟩ := zlaw_go (go_keep ((xs.2 (i + 1).toNatClampNeg))) ok hC hM
  refine ⟨g2, h2, Z', ok', c', m', ?_⟩
  rw [zd_law_1090, i1, cond_true, r1, Option.bind_some]
  dsimp only
  rw [cond_true, r2, Option.bind_some]
  dsimp only
  rw [if_pos rfl]
set_option maxRecDepth 20000 in
theorem zlc_1113 {xs : Nat × (Nat → Int32)} {i : Int32} (i1 : zv_in (i + 1) xs.1 = true) (i2 : zv_in (i + 2) xs.1 = true) (i3 : zv_in (i + 3) xs.1 = true) {g : Nat → Nat → Int32} {h : Nat → Nat → Int64} {Z : zZ} (ok : zOK Z) (hC : zBC g h Z) (hM : zBM g h Z) : ∃ g2 h2 Z', zOK Z' ∧ zBC g2 h2 Z' ∧ zBM g2 h2 Z' ∧ zv_z true zt_L_law (zv_ev 11) (zv_ei xs 11) xs true 1113 [some (.ref 1000000), some (.ref 0), some (.ref 116), some (.int i)] [] zS0 (g, h) = zv_z true zt_L_law (zv_ev 11) (zv_ei xs 11) xs true 1159 [some (.ref 1000000), some (.ref 0), some (.ref 116), some (.int i)] [] zS0 (g2, h2) := by
  obtain ⟨v, D1, g2, h2, Z', ok', c', m', r1, r2⟩ := zlaw_go (go_again ((xs.2 (i + 1).toNatClampNeg))) ok hC hM
  refine ⟨g2, h2, Z', ok', c', m', ?_⟩
  rw [zd_law_1113, i1, cond_true, r1, Option.bind_some]
  dsimp only
  rw [cond_true, r2, Option.bind_some]
  dsimp only
  rw [if_pos rfl]
set_option maxRecDepth 20000 in
theorem zlc_1136 {xs : Nat × (Nat → Int32)} {i : Int32} (i1 : zv_in (i + 1) xs.1 = true) (i2 : zv_in (i + 2) xs.1 = true) (i3 : zv_in (i + 3) xs.1 = true) {g : Nat → Nat → Int32} {h : Nat → Nat → Int64} {Z : zZ} (ok : zOK Z) (hC : zBC g h Z) (hM : zBM g h Z) : ∃ g2 h2 Z', zOK Z' ∧ zBC g2 h2 Z' ∧ zBM g2 h2 Z' ∧ zv_z true zt_L_law (zv_ev 11) (zv_ei xs 11) xs true 1136 [some (.ref 1000000), some (.ref 0), some (.ref 116), some (.int i)] [] zS0 (g, h) = zv_z true zt_L_law (zv_ev 11) (zv_ei xs 11) xs true 1159 [some (.ref 1000000), some (.ref 0), some (.ref 116), some (.int i)] [] zS0 (g2, h2) := by
  obtain ⟨v, D1, g2, h2, Z', ok', c', m', r1, r2⟩ := zlaw_go (go_count ((xs.2 (i + 1).toNatClampNeg))) ok hC hM
  refine ⟨g2, h2, Z', ok', c', m', ?_⟩
  rw [zd_law_1136, i1, cond_true, r1, Option.bind_some]
  dsimp only
  rw [cond_true, r2, Option.bind_some]
  dsimp only
  rw [if_pos rfl]
theorem zlaw_sw {xs : Nat × (Nat → Int32)} {i : Int32} (i1 : zv_in (i + 1) xs.1 = true) (i2 : zv_in (i + 2) xs.1 = true) (i3 : zv_in (i + 3) xs.1 = true) {g : Nat → Nat → Int32} {h : Nat → Nat → Int64} {Z : zZ} (ok : zOK Z) (hC : zBC g h Z) (hM : zBM g h Z) (h0 : zv_in i xs.1 = true) (hl : ¬ (Int32.ofNat xs.1) - 4 < i) : ∃ g2 h2 Z', zOK Z' ∧ zBC g2 h2 Z' ∧ zBM g2 h2 Z' ∧ zv_z true zt_L_law (zv_ev 11) (zv_ei xs 11) xs true 18 [some (.ref 1000000), some (.ref 0), some (.ref 116), some (.int i)] [] zS0 (g, h) = zv_z true zt_L_law (zv_ev 11) (zv_ei xs 11) xs true 1159 [some (.ref 1000000), some (.ref 0), some (.ref 116), some (.int i)] [] zS0 (g2, h2) := by
  have hd := zd_law_18 (zv_ev 11) (zv_ei xs 11) xs g h i
  rw [if_neg hl, h0, cond_true] at hd
  by_cases q0 : (xs.2 i.toNatClampNeg) &&& 63 = 0
  · rw [if_pos q0] at hd
    obtain ⟨g2, h2, Z', a, b, c, r⟩ := zlc_184 i1 i2 i3 ok hC hM
    exact ⟨g2, h2, Z', a, b, c, hd.trans r⟩
  rw [if_neg q0] at hd
  by_cases q1 : (xs.2 i.toNatClampNeg) &&& 63 = 1
  · rw [if_pos q1] at hd
    obtain ⟨g2, h2, Z', a, b, c, r⟩ := zlc_207 i1 i2 i3 ok hC hM
    exact ⟨g2, h2, Z', a, b, c, hd.trans r⟩
  rw [if_neg q1] at hd
  by_cases q2 : (xs.2 i.toNatClampNeg) &&& 63 = 2
  · rw [if_pos q2] at hd
    obtain ⟨g2, h2, Z', a, b, c, r⟩ := zlc_220 i1 i2 i3 ok hC hM
    exact ⟨g2, h2, Z', a, b, c, hd.trans r⟩
  rw [if_neg q2] at hd
  by_cases q3 : (xs.2 i.toNatClampNeg) &&& 63 = 3
  · rw [if_pos q3] at hd
    obtain ⟨g2, h2, Z', a, b, c, r⟩ := zlc_233 i1 i2 i3 ok hC hM
    exact ⟨g2, h2, Z', a, b, c, hd.trans r⟩
  rw [if_neg q3] at hd
  by_cases q4 : (xs.2 i.toNatClampNeg) &&& 63 = 4
  · rw [if_pos q4] at hd
    obtain ⟨g2, h2, Z', a, b, c, r⟩ := zlc_246 i1 i2 i3 ok hC hM
    exact ⟨g2, h2, Z', a, b, c, hd.trans r⟩
  rw [if_neg q4] at hd
  by_cases q5 : (xs.2 i.toNatClampNeg) &&& 63 = 5
  · rw [if_pos q5] at hd
    obtain ⟨g2, h2, Z', a, b, c, r⟩ := zlc_289 i1 i2 i3 ok hC hM
    exact ⟨g2, h2, Z', a, b, c, hd.trans r⟩
  rw [if_neg q5] at hd
  by_cases q6 : (xs.2 i.toNatClampNeg) &&& 63 = 6
  · rw [if_pos q6] at hd
    obtain ⟨g2, h2, Z', a, b, c, r⟩ := zlc_322 i1 i2 i3 ok hC hM
    exact ⟨g2, h2, Z', a, b, c, hd.trans r⟩
  rw [if_neg q6] at hd
  by_cases q7 : (xs.2 i.toNatClampNeg) &&& 63 = 7
  · rw [if_pos q7] at hd
    obtain ⟨g2, h2, Z', a, b, c, r⟩ := zlc_355 i1 i2 i3 ok hC hM
    exact ⟨g2, h2, Z', a, b, c, hd.trans r⟩
  rw [if_neg q7] at hd
  by_cases q8 : (xs.2 i.toNatClampNeg) &&& 63 = 8
  · rw [if_pos q8] at hd
    obtain ⟨g2, h2, Z', a, b, c, r⟩ := zlc_378 i1 i2 i3 ok hC hM
    exact ⟨g2, h2, Z', a, b, c, hd.trans r⟩
  rw [if_neg q8] at hd
  by_cases q9 : (xs.2 i.toNatClampNeg) &&& 63 = 9
  · rw [if_pos q9] at hd
    obtain ⟨g2, h2, Z', a, b, c, r⟩ := zlc_391 i1 i2 i3 ok hC hM
    exact ⟨g2, h2, Z', a, b, c, hd.trans r⟩
  rw [if_neg q9] at hd
  by_cases q10 : (xs.2 i.toNatClampNeg) &&& 63 = 10
  · rw [if_pos q10] at hd
    obtain ⟨g2, h2, Z', a, b, c, r⟩ := zlc_434 i1 i2 i3 ok hC hM
    exact ⟨g2, h2, Z', a, b, c, hd.trans r⟩
  rw [if_neg q10] at hd
  by_cases q11 : (xs.2 i.toNatClampNeg) &&& 63 = 11
  · rw [if_pos q11] at hd
    obtain ⟨g2, h2, Z', a, b, c, r⟩ := zlc_457 i1 i2 i3 ok hC hM
    exact ⟨g2, h2, Z', a, b, c, hd.trans r⟩
  rw [if_neg q11] at hd
  by_cases q12 : (xs.2 i.toNatClampNeg) &&& 63 = 12
  · rw [if_pos q12] at hd
    obtain ⟨g2, h2, Z', a, b, c, r⟩ := zlc_490 i1 i2 i3 ok hC hM
    exact ⟨g2, h2, Z', a, b, c, hd.trans r⟩
  rw [if_neg q12] at hd
  by_cases q13 : (xs.2 i.toNatClampNeg) &&& 63 = 13
  · rw [if_pos q13] at hd
    obtain ⟨g2, h2, Z', a, b, c, r⟩ := zlc_513 i1 i2 i3 ok hC hM
    exact ⟨g2, h2, Z', a, b, c, hd.trans r⟩
  rw [if_neg q13] at hd
  by_cases q14 : (xs.2 i.toNatClampNeg) &&& 63 = 14
  · rw [if_pos q14] at hd
    obtain ⟨g2, h2, Z', a, b, c, r⟩ := zlc_536 i1 i2 i3 ok hC hM
    exact ⟨g2, h2, Z', a, b, c, hd.trans r⟩
  rw [if_neg q14] at hd
  by_cases q15 : (xs.2 i.toNatClampNeg) &&& 63 = 15
  · rw [if_pos q15] at hd
    obtain ⟨g2, h2, Z', a, b, c, r⟩ := zlc_549 i1 i2 i3 ok hC hM
    exact ⟨g2, h2, Z', a, b, c, hd.trans r⟩
  rw [if_neg q15] at hd
  by_cases q16 : (xs.2 i.toNatClampNeg) &&& 63 = 16
  · rw [if_pos q16] at hd
    obtain ⟨g2, h2, Z', a, b, c, r⟩ := zlc_592 i1 i2 i3 ok hC hM
    exact ⟨g2, h2, Z', a, b, c, hd.trans r⟩
  rw [if_neg q16] at hd
  by_cases q17 : (xs.2 i.toNatClampNeg) &&& 63 = 17
  · rw [if_pos q17] at hd
    obtain ⟨g2, h2, Z', a, b, c, r⟩ := zlc_615 i1 i2 i3 ok hC hM
    exact ⟨g2, h2, Z', a, b, c, hd.trans r⟩
  rw [if_neg q17] at hd
  by_cases q18 : (xs.2 i.toNatClampNeg) &&& 63 = 18
  · rw [if_pos q18] at hd
    obtain ⟨g2, h2, Z', a, b, c, r⟩ := zlc_648 i1 i2 i3 ok hC hM
    exact ⟨g2, h2, Z', a, b, c, hd.trans r⟩
  rw [if_neg q18] at hd
  by_cases q19 : (xs.2 i.toNatClampNeg) &&& 63 = 19
  · rw [if_pos q19] at hd
    obtain ⟨g2, h2, Z', a, b, c, r⟩ := zlc_671 i1 i2 i3 ok hC hM
    exact ⟨g2, h2, Z', a, b, c, hd.trans r⟩
  rw [if_neg q19] at hd
  by_cases q20 : (xs.2 i.toNatClampNeg) &&& 63 = 20
  · rw [if_pos q20] at hd
    obtain ⟨g2, h2, Z', a, b, c, r⟩ := zlc_704 i1 i2 i3 ok hC hM
    exact ⟨g2, h2, Z', a, b, c, hd.trans r⟩
  rw [if_neg q20] at hd
  by_cases q21 : (xs.2 i.toNatClampNeg) &&& 63 = 21
  · rw [if_pos q21] at hd
    obtain ⟨g2, h2, Z', a, b, c, r⟩ := zlc_737 i1 i2 i3 ok hC hM
    exact ⟨g2, h2, Z', a, b, c, hd.trans r⟩
  rw [if_neg q21] at hd
  by_cases q22 : (xs.2 i.toNatClampNeg) &&& 63 = 22
  · rw [if_pos q22] at hd
    obtain ⟨g2, h2, Z', a, b, c, r⟩ := zlc_760 i1 i2 i3 ok hC hM
    exact ⟨g2, h2, Z', a, b, c, hd.trans r⟩
  rw [if_neg q22] at hd
  by_cases q23 : (xs.2 i.toNatClampNeg) &&& 63 = 23
  · rw [if_pos q23] at hd
    obtain ⟨g2, h2, Z', a, b, c, r⟩ := zlc_783 i1 i2 i3 ok hC hM
    exact ⟨g2, h2, Z', a, b, c, hd.trans r⟩
  rw [if_neg q23] at hd
  by_cases q24 : (xs.2 i.toNatClampNeg) &&& 63 = 24
  · rw [if_pos q24] at hd
    obtain ⟨g2, h2, Z', a, b, c, r⟩ := zlc_846 i1 i2 i3 ok hC hM
    exact ⟨g2, h2, Z', a, b, c, hd.trans r⟩
  rw [if_neg q24] at hd
  by_cases q25 : (xs.2 i.toNatClampNeg) &&& 63 = 25
  · rw [if_pos q25] at hd
    obtain ⟨g2, h2, Z', a, b, c, r⟩ := zlc_889 i1 i2 i3 ok hC hM
    exact ⟨g2, h2, Z', a, b, c, hd.trans r⟩
  rw [if_neg q25] at hd
  by_cases q26 : (xs.2 i.toNatClampNeg) &&& 63 = 26
  · rw [if_pos q26] at hd
    obtain ⟨g2, h2, Z', a, b, c, r⟩ := zlc_902 i1 i2 i3 ok hC hM
    exact ⟨g2, h2, Z', a, b, c, hd.trans r⟩
  rw [if_neg q26] at hd
  by_cases q27 : (xs.2 i.toNatClampNeg) &&& 63 = 27
  · rw [if_pos q27] at hd
    obtain ⟨g2, h2, Z', a, b, c, r⟩ := zlc_915 i1 i2 i3 ok hC hM
    exact ⟨g2, h2, Z', a, b, c, hd.trans r⟩
  rw [if_neg q27] at hd
  by_cases q28 : (xs.2 i.toNatClampNeg) &&& 63 = 28
  · rw [if_pos q28] at hd
    obtain ⟨g2, h2, Z', a, b, c, r⟩ := zlc_964 i1 i2 i3 ok hC hM
    exact ⟨g2, h2, Z', a, b, c, hd.trans r⟩
  rw [if_neg q28] at hd
  by_cases q29 : (xs.2 i.toNatClampNeg) &&& 63 = 29
  · rw [if_pos q29] at hd
    obtain ⟨g2, h2, Z', a, b, c, r⟩ := zlc_1013 i1 i2 i3 ok hC hM
    exact ⟨g2, h2, Z', a, b, c, hd.trans r⟩
  rw [if_neg q29] at hd
  by_cases q30 : (xs.2 i.toNatClampNeg) &&& 63 = 30
  · rw [if_pos q30] at hd
    obtain ⟨g2, h2, Z', a, b, c, r⟩ := zlc_1067 i1 i2 i3 ok hC hM
    exact ⟨g2, h2, Z', a, b, c, hd.trans r⟩
  rw [if_neg q30] at hd
  by_cases q31 : (xs.2 i.toNatClampNeg) &&& 63 = 31
  · rw [if_pos q31] at hd
    obtain ⟨g2, h2, Z', a, b, c, r⟩ := zlc_1090 i1 i2 i3 ok hC hM
    exact ⟨g2, h2, Z', a, b, c, hd.trans r⟩
  rw [if_neg q31] at hd
  by_cases q32 : (xs.2 i.toNatClampNeg) &&& 63 = 32
  · rw [if_pos q32] at hd
    obtain ⟨g2, h2, Z', a, b, c, r⟩ := zlc_1113 i1 i2 i3 ok hC hM
    exact ⟨g2, h2, Z', a, b, c, hd.trans r⟩
  rw [if_neg q32] at hd
  by_cases q33 : (xs.2 i.toNatClampNeg) &&& 63 = 33
  · rw [if_pos q33] at hd
    obtain ⟨g2, h2, Z', a, b, c, r⟩ := zlc_1136 i1 i2 i3 ok hC hM
    exact ⟨g2, h2, Z', a, b, c, hd.trans r⟩
  rw [if_neg q33] at hd
  exact ⟨g, h, Z, ok, hC, hM, hd⟩
theorem zlaw_le : ∀ L, L < 4 → ∀ i, i < 4 → (Int32.ofNat L) - 4 < nI i := by decide +kernel
theorem zlaw_loop {L : Nat} {xs : Nat → Int32} (hL : L ≤ 2048) : ∀ f i, i ≤ L → L < i + f → ∀ (Z : zZ) (g : Nat → Nat → Int32) (h : Nat → Nat → Int64), zOK Z → zBC g h Z → zBM g h Z → ∃ Dm, zv_z true zt_L_law (zv_ev 11) (zv_ei (L, xs) 11) (L, xs) true 18 [some (.ref 1000000), some (.ref 0), some (.ref 116), some (.int (nI i))] [] zS0 (g, h) = some ((1, 0, 0), zS0, Dm) := by
  intro f
  induction f with
  | zero => intro i hi hf; omega
  | succ f ih =>
    intro i hi hf Z g h ok hC hM
    by_cases hc : (Int32.ofNat L) - 4 < nI i
    · exact ⟨(g, h), by rw [zd_law_18, if_pos hc]⟩
    · have h4 : 4 ≤ L := by
        by_cases h : L < 4
        · exact absurd (zlaw_le L h i (by omega)) hc
        · omega
      have e : (Int32.ofNat L) - 4 = nI (L - 4) := pk_sub (a := L) (b := 4) (by omega)
      have hi4 : i + 4 ≤ L := by
        by_cases h : L - 4 < i
        · exact absurd (by rw [e]; exact nI_lt h (by omega)) hc
        · omega
      have k1 : nI i + 1 = nI (i + 1) := nI_1 i
      have k2 : nI i + 2 = nI (i + 2) := nI_add i 2
      have k3 : nI i + 3 = nI (i + 3) := nI_add i 3
      have k4 : nI i + 4 = nI (i + 4) := nI_add i 4
      obtain ⟨g2, h2, Z', ok', c', m', r⟩ := zlaw_sw (xs := (L, xs)) (i := nI i) (by rw [k1]; exact zi_in (by dsimp only; omega) (by dsimp only; omega)) (by rw [k2]; exact zi_in (by dsimp only; omega) (by dsimp only; omega)) (by rw [k3]; exact zi_in (by dsimp only; omega) (by dsimp only; omega)) ok hC hM (zi_in (by dsimp only; omega) (by dsimp only; omega)) hc
      obtain ⟨Dm, q⟩ := ih (i + 4) hi4 (by omega) Z' g2 h2 ok' c' m'
      refine ⟨Dm, r.trans ?_⟩
      rw [zd_law_1159, k4]
      exact q
theorem whole_goal : zv_goal := by
  intro L xs hL
  obtain ⟨g, h, c, m, r⟩ := zlw_start (L, xs)
  obtain ⟨Dm, q⟩ := zlaw_loop (xs := xs) hL (L + 1) 0 (Nat.zero_le _) (by omega) zZ_0 g h zZ_0_ok c m
  exact ⟨((1, 0, 0), zS0, Dm), r.trans q, rfl, (show zS0.1 ≤ 600000 by decide), (show zS0.2.1 ≤ 7302249 by decide)⟩
theorem whole_start {p : Program} {e : Env} {s : State} {m : MethodId} {below : List Frame} {meth : Method} {c : Code} (l : Launch) (hflags : l.flags = flags0) {b L : Nat} {xs : Nat → Int32} (hL : L ≤ 2048) (C0 : lw_At p s m meth c b L xs) : W p l e room_1 s m #[Value.ref b] below meth c s.heap [] 0 0 (lw_Z below #[Value.ref b] s) (entryFrame m ([Value.ref b] : List Value).toArray 4) := whole_open whole_goal l hL C0
