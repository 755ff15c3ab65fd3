/-! ===== the smallest methods ===== -/
section EV
variable {dp : Nat} (Dm : zv_D)
theorem ev_exitOf (a : Int32) : zv_ev (dp + 1) 115 [.int a] zS0 Dm = zo_i ((a >>> (8 &&& 31)) &&& 3) Dm := zs_X8_exitOf (zd_X8_exitOf _ Dm.1 Dm.2 a)
theorem ev_fromOf (a : Int32) : zv_ev (dp + 1) 116 [.int a] zS0 Dm = zo_i ((a >>> (5 &&& 31)) &&& 7) Dm := zs_X8_fromOf (zd_X8_fromOf _ Dm.1 Dm.2 a)
theorem ev_routeOf (a b c : Int32) : zv_ev (dp + 1) 117 [.int a, .int b, .int c] zS0 Dm = zo_i (((((1024 : Int32) ||| (a <<< (8 &&& 31))) ||| (b <<< (5 &&& 31))) ||| c)) Dm := zs_X8_routeOf (zd_X8_routeOf _ Dm.1 Dm.2 a b c)
theorem ev_hasRouter {n : Nat} (a : Int32) (hn : Dm.1 9 0 = nI n) (h5 : n ≤ 5) : zv_ev (dp + 1) 22 [.ref 9, .int a] zS0 Dm = zo_i (bif zv_in a n then 1 else 0) Dm := by
  refine zs_X3_hasRouter ((zd_X3_hasRouter _ Dm.1 Dm.2 a).trans ?_)
  rw [hn]
  cases hb : zv_in a n with
  | true =>
    obtain ⟨k, hk, rfl⟩ := zi_of hb
    rw [if_neg (nI_pos (by omega)), if_neg (nI_ge hk (by omega)), if_neg (zi_ge 5 5 rfl (by omega) (by decide))]
    rfl
  | false =>
    rcases zi_no (by omega) hb with h | h
    · rw [if_pos h]; rfl
    · rw [if_pos h]
      split <;> rfl
theorem ev_hasExit {n : Nat} (a : Int32) (hn : Dm.1 9 1 = nI n) (h5 : n ≤ 4) : zv_ev (dp + 1) 23 [.ref 9, .int a] zS0 Dm = zo_i (bif zv_in a n then 1 else 0) Dm := by
  refine zs_X3_hasExit ((zd_X3_hasExit _ Dm.1 Dm.2 a).trans ?_)
  rw [hn]
  cases hb : zv_in a n with
  | true =>
    obtain ⟨k, hk, rfl⟩ := zi_of hb
    rw [if_neg (nI_pos (by omega)), if_neg (nI_ge hk (by omega)), if_neg (zi_ge 4 4 rfl (by omega) (by decide))]
    rfl
  | false =>
    rcases zi_no (by omega) hb with h | h
    · rw [if_pos h]; rfl
    · rw [if_pos h]
      split <;> rfl
theorem zx_pair {i j : Nat} (hi : i < 5) (hj : j < 5) : (nI i * 5) + nI j = nI (5 * i + j) := by
  rw [show (5 : Int32) = nI 5 from rfl, pk_mul, nI_add, Nat.mul_comm]
theorem ev_sessionOf {i j : Nat} (hi : i < 5) (hj : j < 5) : zv_ev (dp + 1) 24 [.ref 9, .int (nI i), .int (nI j)] zS0 Dm = zo_i (Dm.1 10 (5 * i + j)) Dm := by
  refine zs_X3_sessionOf ((zd_X3_sessionOf _ Dm.1 Dm.2 _ _).trans ?_)
  rw [zx_pair hi hj, if_neg (nI_pos (by omega)), if_neg (zi_ge 25 25 rfl (by omega) (by decide)), zi_in (by omega) (by decide), nI_clamp (by omega)]
  rfl
theorem ev_toldBy {i j : Nat} (hi : i < 5) (hj : j < 5) : zv_ev (dp + 1) 25 [.ref 9, .int (nI i), .int (nI j)] zS0 Dm = zo_i (Dm.1 11 (5 * i + j)) Dm := by
  refine zs_X3_toldBy ((zd_X3_toldBy _ Dm.1 Dm.2 _ _).trans ?_)
  rw [zx_pair hi hj, if_neg (nI_pos (by omega)), if_neg (zi_ge 25 25 rfl (by omega) (by decide)), zi_in (by omega) (by decide), nI_clamp (by omega)]
  rfl
theorem ev_costOf_17 {i j : Nat} (hi : i < 5) (hj : j < 5) : zv_ev (dp + 1) 71 [.ref 17, .int (nI i), .int (nI j)] zS0 Dm = zo_i (Dm.1 18 (5 * i + j)) Dm := by
  refine zs_X7_costOf_17 ((zd_X7_costOf_17 _ Dm.1 Dm.2 _ _).trans ?_)
  rw [zx_pair hi hj, if_neg (nI_pos (by omega)), if_neg (zi_ge 25 25 rfl (by omega) (by decide)), zi_in (by omega) (by decide), nI_clamp (by omega)]
  rfl
theorem ev_firstRoute_17 {i : Nat} (hi : i < 5) : zv_ev (dp + 1) 74 [.ref 17, .int (nI i)] zS0 Dm = zo_i (Dm.1 20 i &&& 2047) Dm := by
  refine zs_X7_firstRoute_17 ((zd_X7_firstRoute_17 _ Dm.1 Dm.2 _).trans ?_)
  rw [if_neg (nI_pos (by omega)), if_neg (zi_ge 5 5 rfl (by omega) (by decide)), zi_in (by omega) (by decide), nI_clamp (by omega)]
  rfl
theorem ev_secondRoute_17 {i : Nat} (hi : i < 5) : zv_ev (dp + 1) 75 [.ref 17, .int (nI i)] zS0 Dm = zo_i ((Dm.1 20 i >>> (11 &&& 31)) &&& 2047) Dm := by
  refine zs_X7_secondRoute_17 ((zd_X7_secondRoute_17 _ Dm.1 Dm.2 _).trans ?_)
  rw [if_neg (nI_pos (by omega)), if_neg (zi_ge 5 5 rfl (by omega) (by decide)), zi_in (by omega) (by decide), nI_clamp (by omega)]
  rfl
theorem ev_firstExit_17 {i : Nat} (hi : i < 5) : zv_ev (dp + 2) 76 [.ref 17, .int (nI i)] zS0 Dm = zo_i (if Dm.1 20 i &&& 2047 = 0 then -1 else ((Dm.1 20 i &&& 2047) >>> (8 &&& 31)) &&& 3) Dm := by
  refine zs_X7_firstExit_17 ((zd_X7_firstExit_17 _ Dm.1 Dm.2 _).trans ?_)
  rw [ev_firstRoute_17 (Dm.1, Dm.2) hi]
  simp only [Option.bind_some, ev_exitOf]
  split <;> rfl
theorem ev_flip_17 (a : Int32) : zv_ev (dp + 1) 72 [.ref 17, .int a] zS0 Dm = some ((0, 0, 0), (zv_w Dm.1 17 3 (Dm.1 17 3 ^^^ ((1 : Int32) <<< (a &&& 31))), Dm.2)) := zs_X7_flip_17 (zd_X7_flip_17 _ Dm.1 Dm.2 a)
theorem ev_costOf_28 {i j : Nat} (hi : i < 5) (hj : j < 5) : zv_ev (dp + 1) 71 [.ref 28, .int (nI i), .int (nI j)] zS0 Dm = zo_i (Dm.1 29 (5 * i + j)) Dm := by
  refine zs_X7_costOf_28 ((zd_X7_costOf_28 _ Dm.1 Dm.2 _ _).trans ?_)
  rw [zx_pair hi hj, if_neg (nI_pos (by omega)), if_neg (zi_ge 25 25 rfl (by omega) (by decide)), zi_in (by omega) (by decide), nI_clamp (by omega)]
  rfl
theorem ev_firstRoute_28 {i : Nat} (hi : i < 5) : zv_ev (dp + 1) 74 [.ref 28, .int (nI i)] zS0 Dm = zo_i (Dm.1 31 i &&& 2047) Dm := by
  refine zs_X7_firstRoute_28 ((zd_X7_firstRoute_28 _ Dm.1 Dm.2 _).trans ?_)
  rw [if_neg (nI_pos (by omega)), if_neg (zi_ge 5 5 rfl (by omega) (by decide)), zi_in (by omega) (by decide), nI_clamp (by omega)]
  rfl
theorem ev_secondRoute_28 {i : Nat} (hi : i < 5) : zv_ev (dp + 1) 75 [.ref 28, .int (nI i)] zS0 Dm = zo_i ((Dm.1 31 i >>> (11 &&& 31)) &&& 2047) Dm := by
  refine zs_X7_secondRoute_28 ((zd_X7_secondRoute_28 _ Dm.1 Dm.2 _).trans ?_)
  rw [if_neg (nI_pos (by omega)), if_neg (zi_ge 5 5 rfl (by omega) (by decide)), zi_in (by omega) (by decide), nI_clamp (by omega)]
  rfl
theorem ev_firstExit_28 {i : Nat} (hi : i < 5) : zv_ev (dp + 2) 76 [.ref 28, .int (nI i)] zS0 Dm = zo_i (if Dm.1 31 i &&& 2047 = 0 then -1 else ((Dm.1 31 i &&& 2047) >>> (8 &&& 31)) &&& 3) Dm := by
  refine zs_X7_firstExit_28 ((zd_X7_firstExit_28 _ Dm.1 Dm.2 _).trans ?_)
  rw [ev_firstRoute_28 (Dm.1, Dm.2) hi]
  simp only [Option.bind_some, ev_exitOf]
  split <;> rfl
theorem ev_flip_28 (a : Int32) : zv_ev (dp + 1) 72 [.ref 28, .int a] zS0 Dm = some ((0, 0, 0), (zv_w Dm.1 28 3 (Dm.1 28 3 ^^^ ((1 : Int32) <<< (a &&& 31))), Dm.2)) := zs_X7_flip_28 (zd_X7_flip_28 _ Dm.1 Dm.2 a)
theorem ev_distance_16 {i j : Nat} (hi : i < 5) (hj : j < 5) : zv_ev (dp + 1) 55 [.ref 16, .int (nI i), .int (nI j)] zS0 Dm = zo_i (Dm.1 22 (5 * i + j)) Dm := by
  refine zs_X6_distance_16 ((zd_X6_distance_16 _ Dm.1 Dm.2 _ _).trans ?_)
  rw [zx_pair hi hj, if_neg (nI_pos (by omega)), if_neg (zi_ge 25 25 rfl (by omega) (by decide)), zi_in (by omega) (by decide), nI_clamp (by omega)]
  rfl
theorem ev_distance_27 {i j : Nat} (hi : i < 5) (hj : j < 5) : zv_ev (dp + 1) 55 [.ref 27, .int (nI i), .int (nI j)] zS0 Dm = zo_i (Dm.1 33 (5 * i + j)) Dm := by
  refine zs_X6_distance_27 ((zd_X6_distance_27 _ Dm.1 Dm.2 _ _).trans ?_)
  rw [zx_pair hi hj, if_neg (nI_pos (by omega)), if_neg (zi_ge 25 25 rfl (by omega) (by decide)), zi_in (by omega) (by decide), nI_clamp (by omega)]
  rfl
/-! the reference's -/
theorem ev_in (a b c : Int64) : zv_ev (dp + 1) 129 [.long a, .long b, .long c] zS0 Dm = zo_i (if b ≤ a ∧ a ≤ c then 1 else 0) Dm := by
  refine zs_X9_in ((zd_X9_in _ Dm.1 Dm.2 a b c).trans ?_)
  simp only [lg_cmp_lt, lg_cmp_gt]
  by_cases h1 : a < b
  · rw [if_pos h1, if_neg (fun q => Int64.not_le.mpr h1 q.1)]
  · rw [if_neg h1]
    by_cases h2 : c < a
    · rw [if_pos h2, if_neg (fun q => Int64.not_le.mpr h2 q.2)]
    · rw [if_neg h2, if_pos ⟨Int64.not_lt.mp h1, Int64.not_lt.mp h2⟩]
theorem ev_has (a b : Int32) : zv_ev (dp + 1) 130 [.int a, .int b] zS0 Dm = zo_i (if ((a >>> (b &&& 31)) &&& 1) = 1 then 1 else 0) Dm := by
  refine zs_X9_has ((zd_X9_has _ Dm.1 Dm.2 a b).trans ?_)
  split <;> rfl
theorem ev_pair (a b c : Int32) : zv_ev (dp + 1) 137 [.int a, .int b, .int c] zS0 Dm = zo_i ((a + ((5 : Int32) * b)) + c) Dm := zs_X9_pair (zd_X9_pair _ Dm.1 Dm.2 a b c)
theorem ev_at (a b : Int32) : zv_ev (dp + 1) 156 [.int a, .int b] zS0 Dm = zo_i (((71 : Int32) + ((6 : Int32) * a)) + ((3 : Int32) * b)) Dm := zs_X9_at (zd_X9_at _ Dm.1 Dm.2 a b)
theorem ev_mexitOf_119 {e w : Nat} (he : e < 4) (hw : w < 4) : zv_ev (dp + 1) 154 [.ref 119, .int (nI e), .int (nI w)] zS0 Dm = zo_i (Dm.1 119 (55 + 4 * e + w)) Dm := by
  refine zs_X9_exitOf_p119 ((zd_X9_exitOf_p119 _ Dm.1 Dm.2 _ _).trans ?_)
  rw [show ((55 : Int32) + ((4 : Int32) * nI e)) + nI w = nI (55 + 4 * e + w) by rw [show (4 : Int32) = nI 4 from rfl, show (55 : Int32) = nI 55 from rfl, pk_mul, nI_add, nI_add], zi_in (by omega) (by decide), nI_clamp (by omega)]
  rfl
theorem ev_mexitOf_120 {e w : Nat} (he : e < 4) (hw : w < 4) : zv_ev (dp + 1) 154 [.ref 120, .int (nI e), .int (nI w)] zS0 Dm = zo_i (Dm.1 120 (55 + 4 * e + w)) Dm := by
  refine zs_X9_exitOf_p120 ((zd_X9_exitOf_p120 _ Dm.1 Dm.2 _ _).trans ?_)
  rw [show ((55 : Int32) + ((4 : Int32) * nI e)) + nI w = nI (55 + 4 * e + w) by rw [show (4 : Int32) = nI 4 from rfl, show (55 : Int32) = nI 55 from rfl, pk_mul, nI_add, nI_add], zi_in (by omega) (by decide), nI_clamp (by omega)]
  rfl
theorem ev_mexitOf_121 {e w : Nat} (he : e < 4) (hw : w < 4) : zv_ev (dp + 1) 154 [.ref 121, .int (nI e), .int (nI w)] zS0 Dm = zo_i (Dm.1 121 (55 + 4 * e + w)) Dm := by
  refine zs_X9_exitOf_p121 ((zd_X9_exitOf_p121 _ Dm.1 Dm.2 _ _).trans ?_)
  rw [show ((55 : Int32) + ((4 : Int32) * nI e)) + nI w = nI (55 + 4 * e + w) by rw [show (4 : Int32) = nI 4 from rfl, show (55 : Int32) = nI 55 from rfl, pk_mul, nI_add, nI_add], zi_in (by omega) (by decide), nI_clamp (by omega)]
  rfl
theorem zx_64 (a b : Int32) : a.toInt64 ≤ b.toInt64 ↔ a ≤ b := by
  rw [Int64.le_iff_toInt_le, Int32.le_iff_toInt_le, Int32.toInt_toInt64, Int32.toInt_toInt64]
theorem zx_in {n : Nat} (a : Int32) (h5 : n ≤ 5) : (if (0 : Int64) ≤ a.toInt64 ∧ a.toInt64 ≤ (nI n - 1).toInt64 then (1 : Int32) else 0) = bif zv_in a n then 1 else 0 := by
  have e : ((0 : Int64) ≤ a.toInt64 ∧ a.toInt64 ≤ (nI n - 1).toInt64) ↔ (0 ≤ a ∧ a ≤ nI n - 1) := and_congr (zx_64 0 a) (zx_64 a (nI n - 1))
  cases hb : zv_in a n with
  | true =>
    obtain ⟨j, hj, rfl⟩ := zi_of hb
    obtain ⟨k, rfl⟩ : ∃ k, n = k + 1 := ⟨n - 1, by omega⟩
    rw [if_pos (e.mpr ⟨nI_pos' (by omega), by rw [nI_pred]; exact nI_le (by omega) (by omega)⟩)]
    rfl
  | false =>
    rw [if_neg (fun q => ?_)]
    · rfl
    · obtain ⟨q1, q2⟩ := e.mp q
      rcases zi_no (by omega) hb with h | h
      · exact absurd h (Int32.not_lt.mpr q1)
      · match n, h5, h, q2 with
        | 0, _, h, q2 => exact absurd (Int32.le_trans q1 q2) (by decide)
        | k + 1, _, h, q2 =>
          rw [nI_pred] at q2
          exact nI_ge (a := k) (b := k + 1) (by omega) (by omega) (Int32.le_trans h q2)
theorem ev_noRouter {n : Nat} (a : Int32) (hn : Dm.1 119 0 = nI n) (h5 : n ≤ 5) : zv_ev (dp + 2) 135 [.ref 116, .int a] zS0 Dm = zo_i (bif zv_in a n then 0 else 1) Dm := by
  refine zs_X9_noRouter ((zd_X9_noRouter _ Dm.1 Dm.2 a).trans ?_)
  rw [hn, ev_in (dp := dp) (Dm.1, Dm.2), zx_in a h5]
  cases zv_in a n <;> rfl
theorem ev_noExit {n : Nat} (a : Int32) (hn : Dm.1 119 1 = nI n) (h5 : n ≤ 5) : zv_ev (dp + 2) 136 [.ref 116, .int a] zS0 Dm = zo_i (bif zv_in a n then 0 else 1) Dm := by
  refine zs_X9_noExit ((zd_X9_noExit _ Dm.1 Dm.2 a).trans ?_)
  rw [hn, ev_in (dp := dp) (Dm.1, Dm.2), zx_in a h5]
  cases zv_in a n <;> rfl
end EV
