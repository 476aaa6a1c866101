/-! the class's reader: a whole text -/
section RLEV
variable {F : Nat} {b : Nat → Nat} {n : Nat}
/-- behind a fault: what is still written doesn't matter -/
theorem q_rend {m : jMe} {l : List Int32} {p : Nat} {x : Int32} (hB : jzB b n m) (hD : jzD p m) (hK : jzK l m) : ∃ m' l', (jgd (jK m 36 = 35) <| jb (c_X3_emit F m 36 x (0 : Int32)) fun t => some t) = some m' ∧ jzF m m' ∧ jzD p m' ∧ jzK l' m' := by
  obtain ⟨m', l', c1, c2, c3, -⟩ := q_remit (F := F) (x := x) (w := 0) hB.1 hK
  exact ⟨m', l', by rw [jgd_t hB.1.1, c1, jb_some], jzFe_F c2, jzD_e c2 hD, c3⟩
/-- a step, a part, and what is written then -/
theorem q_rpre (hF : 1000 < F) {g : jMe → Option jMe} {sub : jS0 → jzR} {x : Int32} (hI : jzI F b n g sub) (hJ : jzJ F b n g) (hM : jzM n sub) {m : jMe} {s : jS0} {l : List Int32} (hB : jzB b n m) (hC : jzC s m) (hK : jzK l m) (hW : jzW n s) (hl : l.length ≤ s.2.2.1) (h1 : s.1 ≠ 1) : ∃ m', (jb (c_X3_step F m 36) fun t5 => jgd (jK t5 36 = 35) <| jb (g t5) fun t8 => jgd (jK t8 36 = 35) <| jb (c_X3_emit F t8 36 x (0 : Int32)) fun t11 => some t11) = some m' ∧ jzQ l m m' (jzbd (jzs b n s.2.2.2) fun s1 => jzbd (sub s1) fun r => .inr (r.1, r.2 ++ [x])) := by
  have hlt := hW.2.2.1 h1
  have hw2 := hW.2.1
  have hn160 := hB.2.2.1
  obtain ⟨m1, a1, a2, a3⟩ := q_rstep hF hB hC.2.2.1 hw2 hC.2.2.2.2
  have hB1 := jzB_of (jzFs_F a2) hB
  have hK1 := jzK_of a2 hK
  rw [a1, jb_some, jgd_t hB1.1.1]
  cases hs : jzs b n s.2.2.2 with
  | inl p =>
    rw [hs] at a3
    obtain ⟨m2, l2, b1, b2, b3, b4⟩ := hJ m1 p l hB1 a3 hK1
    obtain ⟨m3, l3, c1, c2, c3, c4⟩ := q_rend (F := F) (x := x) (jzB_of b2 hB1) b3 b4
    rw [b1, jb_some, c1]
    exact ⟨m3, rfl, ((jzFs_F a2).trans b2).trans c2, l3, c4, c3⟩
  | inr s1 =>
    rw [hs] at a3
    obtain ⟨w1, w2⟩ := jzs_W hw2 hs
    obtain ⟨m2, b1, b2, l2, b3, b4⟩ := hI m1 s1 l hB1 a3 hK1 w1 (by omega)
    have hB2 := jzB_of b2 hB1
    rw [b1, jb_some, jzbd_r]
    cases hr : sub s1 with
    | inl p =>
      rw [hr] at b4
      obtain ⟨m3, l3, c1, c2, c3, c4⟩ := q_rend (F := F) (x := x) hB2 b4 b3
      rw [c1]
      exact ⟨m3, rfl, ((jzFs_F a2).trans b2).trans c2, l3, c4, c3⟩
    | inr r =>
      rw [hr] at b4
      obtain ⟨b4, b5⟩ := b4
      obtain ⟨w3, w4⟩ := hM s1 w1 r hr
      have hl2 : l2.length = l.length + r.2.length := by rw [b5, List.length_append]
      have hw5 := w3.1
      obtain ⟨m3, l3, c1, c2, c3, c4⟩ := q_remit (F := F) (x := x) (w := 0) hB2.1 b3
      have c4 := c4 (by omega)
      rw [jadd_0] at c4
      rw [jgd_t hB2.1.1, c1, jb_some]
      refine ⟨m3, rfl, ((jzFs_F a2).trans b2).trans (jzFe_F c2), l3, c3, jzC_e c2 b4, ?_⟩
      rw [c4, b5]
      simp
theorem q_rfault {m : jMe} {s : jS0} {l : List Int32} (hB : jzB b n m) (hC : jzC s m) (hK : jzK l m) (hW : jzW n s) : ∃ m', c_X3_fail F m 36 = some m' ∧ jzQ l m m' (.inl s.2.2.1) := by
  have := hW.1
  have := hB.2.2.1
  obtain ⟨m', y1, y2, y3⟩ := q_rfail (F := F) hB.1 (p := s.2.2.1) (by omega) (Or.inl ⟨hC.2.2.2.2, hC.2.1⟩)
  exact ⟨m', y1, jzFs_F y2, l, jzK_of y2 hK, y3⟩
theorem q_rfault_d {m : jMe} {p : Nat} {l : List Int32} (hB : jzB b n m) (hD : jzD p m) (hK : jzK l m) : ∃ m' l', c_X3_fail F m 36 = some m' ∧ jzF m m' ∧ jzD p m' ∧ jzK l' m' := by
  obtain ⟨m', y1, y2, y3⟩ := q_rfail (F := F) hB.1 (p := p) hD.2.2 (Or.inr hD.2.1)
  exact ⟨m', l, y1, jzFs_F y2, y3, jzK_of y2 hK⟩
theorem q_rd0 {G : Nat → jMe → Nat → Int32 → Option jMe} {y : Int32} (hJ : jzJ F b n (fun m => G 3 m 36 y)) : jzJ F b n (fun m => c_X3_readDenied_b F G m 36 y) := by
  intro m p l hB hD hK
  obtain ⟨m', l', a1, a2⟩ := hJ m p l hB hD hK
  have a1 : G 3 m 36 y = some m' := a1
  refine ⟨m', l', ?_, a2⟩
  show c_X3_readDenied_b F G m 36 y = _
  unfold c_X3_readDenied_b
  rw [jgd_t hB.1.1, hD.1, if_neg (by decide), a1, jb_some]
theorem q_rdeny (hF : 1000 < F) {G : Nat → jMe → Nat → Int32 → Option jMe} {op : Nat} (hop : op ≤ 5) {sub sub2 : jS0 → jzR} (hI : jzI F b n (fun m => G 3 m 36 (Int32.ofNat op)) sub) (h2 : op < 5 → jzI F b n (fun m => G 2 m 36 (Int32.ofNat (op + 1))) sub2 ∧ jzJ F b n (fun m => G 2 m 36 (Int32.ofNat (op + 1))) ∧ jzM n sub2) : jzI F b n (fun m => c_X3_readDenied_b F G m 36 (Int32.ofNat op)) (fun s => if s.1 = 7 then (if op < 5 then jzbd (jzs b n s.2.2.2) fun s1 => jzbd (sub2 s1) fun r => .inr (r.1, r.2 ++ [3]) else .inl s.2.2.1) else sub s) := by
  intro m s l hB hC hK hW hl
  show ∃ m', c_X3_readDenied_b F G m 36 (Int32.ofNat op) = some m' ∧ jzQ l m m' (if s.1 = 7 then (if op < 5 then jzbd (jzs b n s.2.2.2) fun s1 => jzbd (sub2 s1) fun r => .inr (r.1, r.2 ++ [3]) else .inl s.2.2.1) else sub s)
  unfold c_X3_readDenied_b
  have h7 : (Int32.ofNat s.1 = 7) ↔ s.1 = 7 := ji_tk (k := 7) hW.2.2.2.2.1 (by omega)
  rw [jgd_t hB.1.1, hC.1]
  by_cases e : s.1 = 7
  · rw [if_pos (h7.mpr e), if_pos e]
    by_cases q : op < 5
    · obtain ⟨i1, i2, i3⟩ := h2 q
      rw [if_pos (show Int32.ofNat op < 5 from ji_ltp (b := 5) (by omega) (by omega) q), if_pos q, jl_1, ji_add]
      exact q_rpre hF i1 i2 i3 hB hC hK hW hl (by omega)
    · rw [if_neg (show ¬ Int32.ofNat op < 5 from ji_ltn (b := 5) (by omega) (by omega) q), if_neg q]
      obtain ⟨m', y1, y2⟩ := q_rfault (F := F) hB hC hK hW
      exact ⟨m', by rw [y1, jb_some], y2⟩
  · rw [if_neg (fun h => e (h7.mp h)), if_neg e]
    obtain ⟨m', y1, y2⟩ := hI m s l hB hC hK hW hl
    have y1 : G 3 m 36 (Int32.ofNat op) = some m' := y1
    exact ⟨m', by rw [y1, jb_some], y2⟩
theorem q_rcomp (hF : 1000 < F) {G : Nat → jMe → Nat → Int32 → Option jMe} {y : Int32} {sub : jS0 → jzR} (hI : jzI F b n (fun m => G 4 m 36 y) sub) (hJ : jzJ F b n (fun m => G 4 m 36 y)) (hM : jzM n sub) : jzI F b n (fun m => c_X3_readCompared_b F G m 36 y) (fun s => jzbd (sub s) fun r => if r.1.1 = 60 ∨ r.1.1 = 61 then jzbd (jzs b n r.1.2.2.2) fun s1 => jzbd (sub s1) fun r2 => .inr (r2.1, r.2 ++ (r2.2 ++ [if r.1.1 = 60 then 8 else 9])) else .inr r) ∧ jzJ F b n (fun m => c_X3_readCompared_b F G m 36 y) := by
  constructor
  · intro m s l hB hC hK hW hl
    show ∃ m', c_X3_readCompared_b F G m 36 y = some m' ∧ jzQ l m m' (jzbd (sub s) fun r => if r.1.1 = 60 ∨ r.1.1 = 61 then jzbd (jzs b n r.1.2.2.2) fun s1 => jzbd (sub s1) fun r2 => .inr (r2.1, r.2 ++ (r2.2 ++ [if r.1.1 = 60 then 8 else 9])) else .inr r)
    unfold c_X3_readCompared_b c_X3_readCompared_j23 c_X3_readCompared_j39
    obtain ⟨m1, a1, a2, l1, a3, a4⟩ := hI m s l hB hC hK hW hl
    have a1 : G 4 m 36 y = some m1 := a1
    have hB1 := jzB_of a2 hB
    rw [jgd_t hB.1.1, a1, jb_some]
    simp only [jgd_t hB1.1.1]
    cases hr : sub s with
    | inl p =>
      rw [hr] at a4
      rw [a4.1, if_neg (by decide), if_neg (by decide)]
      exact ⟨m1, rfl, a2, l1, a3, a4⟩
    | inr r =>
      rw [hr] at a4
      obtain ⟨w1, w2⟩ := hM s hW r hr
      obtain ⟨a4, a5⟩ := a4
      have h60 : (Int32.ofNat r.1.1 = 60) ↔ r.1.1 = 60 := ji_tk (k := 60) w1.2.2.2.2.1 (by omega)
      have h61 : (Int32.ofNat r.1.1 = 61) ↔ r.1.1 = 61 := ji_tk (k := 61) w1.2.2.2.2.1 (by omega)
      rw [a4.1, jzbd_r]
      have hl1 : l1.length ≤ r.1.2.2.1 := by rw [a5, List.length_append]; omega
      have hgo : ∀ x : Int32, r.1.1 = 60 ∨ r.1.1 = 61 → x = (if r.1.1 = 60 then 8 else 9) → ∃ m', (jb (c_X3_step F m1 36) fun t10 => jgd (jK t10 36 = 35) <| jb (G 4 t10 36 y) fun t13 => jgd (jK t13 36 = 35) <| jb (c_X3_emit F t13 36 x (0 : Int32)) fun t16 => some t16) = some m' ∧ jzQ l m m' (jzbd (jzs b n r.1.2.2.2) fun s1 => jzbd (sub s1) fun r2 => .inr (r2.1, r.2 ++ (r2.2 ++ [if r.1.1 = 60 then 8 else 9]))) := by
        intro x hor hx
        obtain ⟨m2, b1, b2, l2, b3, b4⟩ := q_rpre (x := x) hF hI hJ hM hB1 a4 a3 w1 hl1 (by omega)
        refine ⟨m2, b1, a2.trans b2, l2, b3, ?_⟩
        rw [← hx]
        cases hs : jzs b n r.1.2.2.2 with
        | inl p =>
          rw [hs] at b4
          exact b4
        | inr s1 =>
          rw [hs, jzbd_r] at b4
          rw [jzbd_r]
          cases hr2 : sub s1 with
          | inl p =>
            rw [hr2] at b4
            exact b4
          | inr r2 =>
            rw [hr2, jzbd_r] at b4
            rw [jzbd_r]
            refine ⟨b4.1, ?_⟩
            rw [b4.2, a5, List.append_assoc]
      by_cases e : r.1.1 = 60
      · rw [if_pos (h60.mpr e), if_pos (h60.mpr e), if_pos (show r.1.1 = 60 ∨ r.1.1 = 61 from Or.inl e)]
        exact hgo 8 (Or.inl e) (by rw [if_pos e])
      · rw [if_neg (fun h => e (h60.mp h))]
        by_cases e2 : r.1.1 = 61
        · rw [if_pos (h61.mpr e2), if_neg (fun h => e (h60.mp h)), if_pos (show r.1.1 = 60 ∨ r.1.1 = 61 from Or.inr e2)]
          exact hgo 9 (Or.inr e2) (by rw [if_neg e])
        · rw [if_neg (fun h => e2 (h61.mp h)), if_neg (show ¬ (r.1.1 = 60 ∨ r.1.1 = 61) by omega)]
          exact ⟨m1, rfl, a2, l1, a3, a4, a5⟩
  · intro m p l hB hD hK
    obtain ⟨m1, l1, a1, a2, a3, a4⟩ := hJ m p l hB hD hK
    have a1 : G 4 m 36 y = some m1 := a1
    have hB1 := jzB_of a2 hB
    refine ⟨m1, l1, ?_, a2, a3, a4⟩
    show c_X3_readCompared_b F G m 36 y = some m1
    unfold c_X3_readCompared_b
    rw [jgd_t hB.1.1, a1, jb_some, jgd_t hB1.1.1, a3.1, if_neg (by decide), if_neg (by decide)]
theorem jshl_w : ∀ w, w < 10000 → jshl (Int32.ofNat w) (4 : Int32) = Int32.ofNat (16 * w) := by
  intro w hw
  have h1 : (jshl (Int32.ofNat w) (4 : Int32)).toUInt32.toNat = (Int32.ofNat (16 * w)).toUInt32.toNat := by
    rw [jtn_of (by omega)]
    show (jshl (Int32.ofNat w) (4 : Int32)).toBitVec.toNat = 16 * w
    unfold jshl
    rw [Int32.toBitVec_shiftLeft, show (((4 : Int32) &&& 31).toBitVec.smod 32) = 4#32 from by decide, BitVec.shiftLeft_eq', BitVec.toNat_shiftLeft]
    show (w % 2 ^ 32) <<< 4 % 2 ^ 32 = 16 * w
    rw [Nat.mod_eq_of_lt (show w < 2 ^ 32 by omega), Nat.shiftLeft_eq, Nat.mod_eq_of_lt (by omega)]
    omega
  exact jtn_inj h1
theorem q_rone (hF : 1000 < F) {G : Nat → jMe → Nat → Int32 → Option jMe} {op : Nat} (hop : op ≤ 5) {sub6 sub0 : jS0 → jzR} (h6 : op < 5 → jzI F b n (fun m => G 6 m 36 (Int32.ofNat (op + 1))) sub6 ∧ jzJ F b n (fun m => G 6 m 36 (Int32.ofNat (op + 1))) ∧ jzM n sub6) (h0 : op < 5 → jzI F b n (fun m => G 0 m 36 (Int32.ofNat (op + 1))) sub0 ∧ jzJ F b n (fun m => G 0 m 36 (Int32.ofNat (op + 1))) ∧ jzM n sub0) : jzI F b n (fun m => c_X3_readOne_b F G m 36 (Int32.ofNat op)) (fun s => if s.1 = 2 ∨ s.1 = 3 then jzbd (jzs b n s.2.2.2) fun s1 => .inr (s1, [Int32.ofNat (s.1 - 2 + 16 * s.2.1)])
    else if s.1 = 45 then (if op < 5 then jzbd (jzs b n s.2.2.2) fun s1 => jzbd (sub6 s1) fun r => .inr (r.1, r.2 ++ [2]) else .inl s.2.2.1)
    else if s.1 = 40 then (if op < 5 then jzbd (jzs b n s.2.2.2) fun s1 => jzbd (sub0 s1) fun r => if r.1.1 = 41 then jzbd (jzs b n r.1.2.2.2) fun s2 => .inr (s2, r.2) else .inl r.1.2.2.1 else .inl s.2.2.1)
    else .inl s.2.2.1) ∧ jzJ F b n (fun m => c_X3_readOne_b F G m 36 (Int32.ofNat op)) := by
  constructor
  · intro m s l hB hC hK hW hl
    show ∃ m', c_X3_readOne_b F G m 36 (Int32.ofNat op) = some m' ∧ jzQ l m m' (if s.1 = 2 ∨ s.1 = 3 then jzbd (jzs b n s.2.2.2) fun s1 => .inr (s1, [Int32.ofNat (s.1 - 2 + 16 * s.2.1)])
      else if s.1 = 45 then (if op < 5 then jzbd (jzs b n s.2.2.2) fun s1 => jzbd (sub6 s1) fun r => .inr (r.1, r.2 ++ [2]) else .inl s.2.2.1)
      else if s.1 = 40 then (if op < 5 then jzbd (jzs b n s.2.2.2) fun s1 => jzbd (sub0 s1) fun r => if r.1.1 = 41 then jzbd (jzs b n r.1.2.2.2) fun s2 => .inr (s2, r.2) else .inl r.1.2.2.1 else .inl s.2.2.1)
      else .inl s.2.2.1)
    unfold c_X3_readOne_b c_X3_readOne_j16 c_X3_readOne_j62 c_X3_readOne_j67 c_X3_readOne_j30
    simp only [jgd_t hB.1.1]
    have hn160 := hB.2.2.1
    have t2 : (Int32.ofNat s.1 = 2) ↔ s.1 = 2 := ji_tk (k := 2) hW.2.2.2.2.1 (by omega)
    have t3 : (Int32.ofNat s.1 = 3) ↔ s.1 = 3 := ji_tk (k := 3) hW.2.2.2.2.1 (by omega)
    have t45 : (Int32.ofNat s.1 = 45) ↔ s.1 = 45 := ji_tk (k := 45) hW.2.2.2.2.1 (by omega)
    have t40 : (Int32.ofNat s.1 = 40) ↔ s.1 = 40 := ji_tk (k := 40) hW.2.2.2.2.1 (by omega)
    have h5 : Int32.ofNat op < 5 ↔ op < 5 := ji_lt (b := 5) (by omega) (by omega)
    have hfl : ∃ m', (jb (c_X3_fail F m 36) fun t38 => some t38) = some m' ∧ jzQ l m m' (.inl s.2.2.1) := by
      obtain ⟨m', y1, y2⟩ := q_rfault (F := F) hB hC hK hW
      exact ⟨m', by rw [y1, jb_some], y2⟩
    have hgo : ∀ o : Nat, o = s.1 - 2 → s.1 = 2 ∨ s.1 = 3 → ∃ m', (jb (c_X3_emit F m 36 (Int32.ofNat o) (jI m 36 7)) fun t8 => jgd (jK t8 36 = 35) <| jb (c_X3_step F t8 36) fun t11 => some t11) = some m' ∧ jzQ l m m' (jzbd (jzs b n s.2.2.2) fun s1 => .inr (s1, [Int32.ofNat (s.1 - 2 + 16 * s.2.1)])) := by
      intro o ho h23
      have hlt := hW.2.2.1 (by omega)
      have hw2 := hW.2.1
      have hw6 := hW.2.2.2.2.2
      obtain ⟨m1, l1, c1, c2, c3, c4⟩ := q_remit (F := F) (x := Int32.ofNat o) (w := jI m 36 7) hB.1 hK
      have c4 := c4 (by omega)
      rw [hC.2.2.2.1 h23, jshl_w _ hw6, ji_add, ho] at c4
      have hB1 := jzB_of (jzFe_F c2) hB
      have hC1 := jzC_e c2 hC
      obtain ⟨m2, a1, a2, a3⟩ := q_rstep hF hB1 hC1.2.2.1 hw2 hC1.2.2.2.2
      rw [c1, jb_some, jgd_t hB1.1.1, a1, jb_some]
      refine ⟨m2, rfl, (jzFe_F c2).trans (jzFs_F a2), l1, jzK_of a2 c3, ?_⟩
      cases hs : jzs b n s.2.2.2 with
      | inl p =>
        rw [hs] at a3
        exact a3
      | inr s1 =>
        rw [hs] at a3
        exact ⟨a3, c4⟩
    rw [hC.1]
    by_cases e2 : s.1 = 2
    · rw [if_pos (t2.mpr e2), if_pos (t2.mpr e2), if_pos (show s.1 = 2 ∨ s.1 = 3 from Or.inl e2)]
      exact hgo 0 (by omega) (Or.inl e2)
    · rw [if_neg (fun h => e2 (t2.mp h)), if_neg (fun h => e2 (t2.mp h))]
      by_cases e3 : s.1 = 3
      · rw [if_pos (t3.mpr e3), if_pos (show s.1 = 2 ∨ s.1 = 3 from Or.inr e3)]
        exact hgo 1 (by omega) (Or.inr e3)
      · rw [if_neg (fun h => e3 (t3.mp h)), if_neg (show ¬ (s.1 = 2 ∨ s.1 = 3) by omega)]
        by_cases e45 : s.1 = 45
        · rw [if_pos (t45.mpr e45), if_pos e45]
          by_cases q : op < 5
          · obtain ⟨i1, i2, i3⟩ := h6 q
            rw [if_pos (h5.mpr q), if_pos (t45.mpr e45), if_pos q, jl_1, ji_add]
            exact q_rpre hF i1 i2 i3 hB hC hK hW hl (by omega)
          · rw [if_neg (fun h => q (h5.mp h)), if_neg q]
            exact hfl
        · rw [if_neg (fun h => e45 (t45.mp h)), if_neg e45]
          by_cases e40 : s.1 = 40
          · rw [if_pos (t40.mpr e40), if_pos e40]
            by_cases q : op < 5
            · obtain ⟨i1, i2, i3⟩ := h0 q
              rw [if_pos (h5.mpr q), if_neg (fun h => e45 (t45.mp h)), if_pos q, jl_1, ji_add]
              have hlt := hW.2.2.1 (by omega)
              have hw2 := hW.2.1
              obtain ⟨m1, a1, a2, a3⟩ := q_rstep hF hB hC.2.2.1 hw2 hC.2.2.2.2
              have hB1 := jzB_of (jzFs_F a2) hB
              have hK1 := jzK_of a2 hK
              rw [a1, jb_some, jgd_t hB1.1.1]
              have hdm : ∀ (m2 : jMe) (l2 : List Int32) (p : Nat), jzF m m2 → jzB b n m2 → jzD p m2 → jzK l2 m2 → ∃ m', (jgd (jK m2 36 = 35) <| if jI m2 36 6 = (41 : Int32) then jb (c_X3_step F m2 36) fun t27 => some t27 else jb (c_X3_fail F m2 36) fun t25 => some t25) = some m' ∧ jzQ l m m' (.inl p) := by
                intro m2 l2 p g1 g2 g3 g4
                obtain ⟨m3, l3, c1, c2, c3, c4⟩ := q_rfault_d (F := F) g2 g3 g4
                refine ⟨m3, ?_, g1.trans c2, l3, c4, c3⟩
                rw [jgd_t g2.1.1, g3.1, if_neg (by decide), c1, jb_some]
              cases hs : jzs b n s.2.2.2 with
              | inl p =>
                rw [hs] at a3
                obtain ⟨m2, l2, b1, b2, b3, b4⟩ := i2 m1 p l hB1 a3 hK1
                have b1 : G 0 m1 36 (Int32.ofNat (op + 1)) = some m2 := b1
                rw [b1, jb_some]
                exact hdm m2 l2 p ((jzFs_F a2).trans b2) (jzB_of b2 hB1) b3 b4
              | inr s1 =>
                rw [hs] at a3
                obtain ⟨w1, w2⟩ := jzs_W hw2 hs
                obtain ⟨m2, b1, b2, l2, b3, b4⟩ := i1 m1 s1 l hB1 a3 hK1 w1 (by omega)
                have b1 : G 0 m1 36 (Int32.ofNat (op + 1)) = some m2 := b1
                have hB2 := jzB_of b2 hB1
                rw [b1, jb_some, jzbd_r]
                cases hr : sub0 s1 with
                | inl p =>
                  rw [hr] at b4
                  exact hdm m2 l2 p ((jzFs_F a2).trans b2) hB2 b4 b3
                | inr r =>
                  rw [hr] at b4
                  obtain ⟨b4, b5⟩ := b4
                  obtain ⟨w3, w4⟩ := i3 s1 w1 r hr
                  have t41 : (Int32.ofNat r.1.1 = 41) ↔ r.1.1 = 41 := ji_tk (k := 41) w3.2.2.2.2.1 (by omega)
                  rw [jzbd_r, jgd_t hB2.1.1, b4.1]
                  by_cases e41 : r.1.1 = 41
                  · rw [if_pos (t41.mpr e41), if_pos e41]
                    obtain ⟨m3, c1, c2, c3⟩ := q_rstep hF hB2 b4.2.2.1 w3.2.1 b4.2.2.2.2
                    rw [c1, jb_some]
                    refine ⟨m3, rfl, ((jzFs_F a2).trans b2).trans (jzFs_F c2), l2, jzK_of c2 b3, ?_⟩
                    cases hs2 : jzs b n r.1.2.2.2 with
                    | inl p =>
                      rw [hs2] at c3
                      exact c3
                    | inr s2 =>
                      rw [hs2] at c3
                      exact ⟨c3, b5⟩
                  · rw [if_neg (fun h => e41 (t41.mp h)), if_neg e41]
                    obtain ⟨m3, c1, c2, l3, c3, c4⟩ := q_rfault (F := F) hB2 b4 b3 w3
                    rw [c1, jb_some]
                    exact ⟨m3, rfl, ((jzFs_F a2).trans b2).trans c2, l3, c3, c4⟩
            · rw [if_neg (fun h => q (h5.mp h)), if_neg q]
              exact hfl
          · rw [if_neg (fun h => e40 (t40.mp h)), if_neg e40]
            exact hfl
  · intro m p l hB hD hK
    obtain ⟨m1, l1, a1, a2⟩ := q_rfault_d (F := F) hB hD hK
    refine ⟨m1, l1, ?_, a2⟩
    show c_X3_readOne_b F G m 36 (Int32.ofNat op) = some m1
    unfold c_X3_readOne_b c_X3_readOne_j67
    rw [jgd_t hB.1.1, hD.1, if_neg (by decide), if_neg (by decide), if_neg (by decide), if_neg (by decide), jgd_t hB.1.1, a1, jb_some]
theorem q_rlev (hF : 1000 < F) : ∀ (k lv op : Nat), lv ≤ 6 → op ≤ 5 → 7 * (5 - op) + (7 - lv) ≤ k → jzI F b n (fun m => c_X3_readEither_s F k lv m 36 (Int32.ofNat op)) (jzp (jzs b n) k lv op) ∧ jzJ F b n (fun m => c_X3_readEither_s F k lv m 36 (Int32.ofNat op)) := by
  intro k
  induction k with
  | zero => intro lv op h1 h2 h3; omega
  | succ k ih =>
    intro lv op h1 h2 h3
    have hM := fun lv op => jzp_M (n := n) (st := jzs b n) jzs_Ms k lv op
    rcases (by omega : lv = 0 ∨ lv = 1 ∨ lv = 2 ∨ lv = 3 ∨ lv = 4 ∨ lv = 5 ∨ lv = 6) with rfl | rfl | rfl | rfl | rfl | rfl | rfl
    · obtain ⟨i1, i2⟩ := ih 1 op (by omega) h2 (by omega)
      exact q_rbin hF (q_l_either (G := fun q m x0 x1 => c_X3_readEither_s F k q m x0 x1)) i1 i2 (hM 1 op)
    · obtain ⟨i1, i2⟩ := ih 2 op (by omega) h2 (by omega)
      exact q_rbin hF (q_l_both (G := fun q m x0 x1 => c_X3_readEither_s F k q m x0 x1)) i1 i2 (hM 2 op)
    · obtain ⟨i1, i2⟩ := ih 3 op (by omega) h2 (by omega)
      refine ⟨q_rdeny (G := fun q m x0 x1 => c_X3_readEither_s F k q m x0 x1) hF h2 i1 (fun q => ?_), q_rd0 (G := fun q m x0 x1 => c_X3_readEither_s F k q m x0 x1) i2⟩
      obtain ⟨j1, j2⟩ := ih 2 (op + 1) (by omega) (by omega) (by omega)
      exact ⟨j1, j2, hM 2 (op + 1)⟩
    · obtain ⟨i1, i2⟩ := ih 4 op (by omega) h2 (by omega)
      exact q_rcomp (G := fun q m x0 x1 => c_X3_readEither_s F k q m x0 x1) hF i1 i2 (hM 4 op)
    · obtain ⟨i1, i2⟩ := ih 5 op (by omega) h2 (by omega)
      exact q_rbin hF (q_l_sum (G := fun q m x0 x1 => c_X3_readEither_s F k q m x0 x1)) i1 i2 (hM 5 op)
    · obtain ⟨i1, i2⟩ := ih 6 op (by omega) h2 (by omega)
      exact q_rbin hF (q_l_term (G := fun q m x0 x1 => c_X3_readEither_s F k q m x0 x1)) i1 i2 (hM 6 op)
    · refine q_rone (G := fun q m x0 x1 => c_X3_readEither_s F k q m x0 x1) hF h2 (fun q => ?_) (fun q => ?_)
      · obtain ⟨j1, j2⟩ := ih 6 (op + 1) (by omega) (by omega) (by omega)
        exact ⟨j1, j2, hM 6 (op + 1)⟩
      · obtain ⟨j1, j2⟩ := ih 0 (op + 1) (by omega) (by omega) (by omega)
        exact ⟨j1, j2, hM 0 (op + 1)⟩
theorem q_rexpect (hF : 1000 < F) {m : jMe} {w : Nat} {l : List Int32} (hw : 0 < w ∧ w < 256) (hB : jzB b n m) (hK : jzK l m) (x : Nat ⊕ jS0) (hU : jzU m x) (hW : ∀ s, x = .inr s → jzW n s) : ∃ m', c_X3_expect F m 36 (Int32.ofNat w) = some m' ∧ jzFs m m' ∧ jzU m' (jzbd x (jzx (jzs b n) w)) ∧ (∀ s, jzbd x (jzx (jzs b n) w) = .inr s → jzW n s ∧ ∃ s0, x = .inr s0 ∧ s0.2.2.1 ≤ s.2.2.1) := by
  have hn160 := hB.2.2.1
  unfold c_X3_expect
  rw [jgd_t hB.1.1]
  cases x with
  | inl p =>
    have hU : jzD p m := hU
    obtain ⟨m', y1, y2, y3⟩ := q_rfail (F := F) hB.1 (p := p) hU.2.2 (Or.inr hU.2.1)
    rw [hU.1, if_neg (show ¬ (0 : Int32) = Int32.ofNat w from ji_eqn (a := 0) (by omega) (by omega) (by omega)), y1, jb_some]
    exact ⟨m', rfl, y2, y3, fun s h => by cases h⟩
  | inr s =>
    have hU : jzC s m := hU
    have hW := hW s rfl
    have hs1 := hW.1
    rw [hU.1, jzbd_r]
    unfold jzx
    have e1 : Int32.ofNat s.1 = Int32.ofNat w ↔ s.1 = w := ji_tk hW.2.2.2.2.1 hw.2
    by_cases e : s.1 = w
    · rw [if_pos (e1.mpr e), if_pos e]
      by_cases q : w = 1
      · rw [if_pos (show Int32.ofNat s.1 = 1 by rw [e, q]; rfl), if_pos q]
        exact ⟨m, rfl, jfx.rfl, hU, fun s' h => by cases h; exact ⟨hW, s, rfl, Nat.le_refl _⟩⟩
      · rw [if_neg (show ¬ Int32.ofNat s.1 = 1 from ji_eqn (b := 1) (by omega) (by omega) (by omega)), if_neg q]
        obtain ⟨m', a1, a2, a3⟩ := q_rstep hF hB hU.2.2.1 hW.2.1 hU.2.2.2.2
        rw [a1, jb_some]
        have hlt := hW.2.2.1 (by omega)
        refine ⟨m', rfl, a2, a3, fun s' h => ?_⟩
        obtain ⟨w1, w2⟩ := jzs_W hW.2.1 h
        exact ⟨w1, s, rfl, by omega⟩
    · rw [if_neg (fun h => e (e1.mp h)), if_neg e]
      obtain ⟨m', y1, y2, y3⟩ := q_rfail (F := F) hB.1 (p := s.2.2.1) (by omega) (Or.inl ⟨hU.2.2.2.2, hU.2.1⟩)
      rw [y1, jb_some]
      exact ⟨m', rfl, y2, y3, fun s' h => by cases h⟩
/-- a text is read: its fault, or its steps -/
theorem q_rread (hF : 1000 < F) {m : jMe} (hT : jzT m) (hn : jI m 36 2 = Int32.ofNat n) (hn160 : n ≤ 160) (hb : ∀ i, i < n → jI m 37 i = Int32.ofNat (b i) ∧ b i < 256) : ∃ m', c_X3_read F m 36 = some (match jzrd b n with | .inl p => Int32.ofNat p | .inr _ => -1, m') ∧ jfx (fun a _ => a = 36 ∨ a = 38) m m' ∧ jI m' 36 2 = 0 ∧ (∀ p, jzrd b n = .inl p → p ≤ 160) ∧ (∀ l, jzrd b n = .inr l → jI m' 36 3 = Int32.ofNat l.length ∧ l.length ≤ 160 ∧ ∀ i, i < l.length → jI m' 38 i = l.getD i 0) := by
  have hB : jzB b n m := ⟨hT, hn, hn160, hb⟩
  unfold c_X3_read
  generalize hm0 : jsI (jsI (jsI m 36 4 (0 : Int32)) 36 3 (0 : Int32)) 36 8 (-1 : Int32) = m0
  have f0 : jzF m m0 := by
    rw [← hm0]
    exact ((jfx_I (S := fun a i => (a = 36 ∧ i ≠ 2) ∨ a = 38) (Or.inl ⟨rfl, by omega⟩)).trans (jfx_I (Or.inl ⟨rfl, by omega⟩))).trans (jfx_I (Or.inl ⟨rfl, by omega⟩))
  have hB0 := jzB_of f0 hB
  have g4 : jI m0 36 4 = Int32.ofNat 0 := by rw [← hm0, jsI_no (by omega), jsI_no (by omega), jsI_y]; rfl
  have g3 : jI m0 36 3 = 0 := by rw [← hm0, jsI_no (by omega), jsI_y]
  have g8 : jI m0 36 8 = -1 := by rw [← hm0, jsI_y]
  have hK0 : jzK [] m0 := ⟨g3, by decide, fun i hi => by cases hi⟩
  obtain ⟨m1, a1, a2, a3⟩ := q_rstep hF hB0 g4 (Nat.zero_le _) g8
  have hB1 := jzB_of (jzFs_F a2) hB0
  have hK1 := jzK_of a2 hK0
  have hW1 : ∀ s, jzs b n 0 = .inr s → jzW n s := fun s h => (jzs_W (Nat.zero_le _) h).1
  obtain ⟨m2, b1, b2, b3, b4⟩ := q_rexpect (w := 4) hF (by omega) hB1 hK1 _ a3 hW1
  have hB2 := jzB_of (jzFs_F b2) hB1
  have hK2 := jzK_of b2 hK1
  obtain ⟨i1, i2⟩ := q_rlev (F := F) (b := b) (n := n) hF 64 0 0 (by omega) (by omega) (by omega)
  have hM := jzp_M (n := n) (st := jzs b n) jzs_Ms 64 0 0
  have hmid : ∃ m3 l3, c_X3_readEither_s F 64 0 m2 36 (0 : Int32) = some m3 ∧ jzF m2 m3 ∧ jzK l3 m3 ∧ (match jzbd (jzbd (jzs b n 0) (jzx (jzs b n) 4)) (jzp (jzs b n) 64 0 0) with | .inl p => jzD p m3 | .inr r => jzC r.1 m3 ∧ jzW n r.1 ∧ l3 = r.2) := by
    cases hx : jzbd (jzs b n 0) (jzx (jzs b n) 4) with
    | inl p =>
      rw [hx] at b3
      obtain ⟨m3, l3, c1, c2, c3, c4⟩ := i2 m2 p [] hB2 b3 hK2
      exact ⟨m3, l3, c1, c2, c4, c3⟩
    | inr s =>
      rw [hx] at b3 b4
      obtain ⟨w1, -⟩ := b4 s rfl
      obtain ⟨m3, c1, c2, l3, c3, c4⟩ := i1 m2 s [] hB2 b3 hK2 w1 (Nat.zero_le _)
      refine ⟨m3, l3, c1, c2, c3, ?_⟩
      rw [jzbd_r]
      cases hr : jzp (jzs b n) 64 0 0 s with
      | inl p =>
        rw [hr] at c4
        exact c4
      | inr r =>
        rw [hr] at c4
        exact ⟨c4.1, (hM s w1 r hr).1, c4.2⟩
  obtain ⟨m3, l3, c1, c2, c3, c4⟩ := hmid
  have hB3 := jzB_of c2 hB2
  have hrd : jzrd b n = jzbd (jzbd (jzbd (jzs b n 0) (jzx (jzs b n) 4)) (jzp (jzs b n) 64 0 0)) fun r => jzbd (jzbd (jzbd (.inr r.1) (jzx (jzs b n) 59)) (jzx (jzs b n) 1)) fun _ => .inr r.2 := by
    unfold jzrd
    cases jzs b n 0 with
    | inl p => rfl
    | inr s =>
      rw [jzbd_r, jzbd_r]
      cases jzx (jzs b n) 4 s with
      | inl p => rfl
      | inr s1 =>
        rw [jzbd_r, jzbd_r]
        cases jzp (jzs b n) 64 0 0 s1 with
        | inl p => rfl
        | inr r =>
          rw [jzbd_r, jzbd_r, jzbd_r]
          cases jzx (jzs b n) 59 r.1 with
          | inl p => rfl
          | inr s2 => rfl
  have hy : ∃ x : Nat ⊕ jS0, jzU m3 x ∧ (∀ s, x = .inr s → jzW n s) ∧ ((∃ p, x = .inl p ∧ jzrd b n = .inl p) ∨ ∃ r : jS0 × List Int32, x = .inr r.1 ∧ l3 = r.2 ∧ jzrd b n = jzbd (jzbd (jzbd (.inr r.1) (jzx (jzs b n) 59)) (jzx (jzs b n) 1)) fun _ => .inr r.2) := by
    cases hz : jzbd (jzbd (jzs b n 0) (jzx (jzs b n) 4)) (jzp (jzs b n) 64 0 0) with
    | inl p =>
      rw [hz] at c4 hrd
      exact ⟨.inl p, c4, fun s h => (by cases h), Or.inl ⟨p, rfl, hrd⟩⟩
    | inr r =>
      rw [hz] at c4 hrd
      exact ⟨.inr r.1, c4.1, fun s h => (by cases h; exact c4.2.1), Or.inr ⟨r, rfl, c4.2.2, hrd⟩⟩
  obtain ⟨x, x1, x2, x3⟩ := hy
  obtain ⟨m4, d1, d2, d3, d4⟩ := q_rexpect (w := 59) hF (by omega) hB3 c3 x x1 x2
  have hB4 := jzB_of (jzFs_F d2) hB3
  have hK4 := jzK_of d2 c3
  obtain ⟨m5, e1, e2, e3, e4⟩ := q_rexpect (w := 1) hF (by omega) hB4 hK4 _ d3 (fun s h => (d4 s h).1)
  have hB5 := jzB_of (jzFs_F e2) hB4
  have hK5 := jzK_of e2 hK4
  refine ⟨jsI m5 36 2 0, ?_, ?_, ?_, ?_, ?_⟩
  · rw [jgd_t hT.1, a1, jb_some, jgd_t hB1.1.1, show (4 : Int32) = Int32.ofNat 4 from rfl, b1, jb_some, jgd_t hB2.1.1, c1, jb_some, jgd_t hB3.1.1, show (59 : Int32) = Int32.ofNat 59 from rfl, d1, jb_some, jgd_t hB4.1.1, show (1 : Int32) = Int32.ofNat 1 from rfl, e1, jb_some, jgd_t hB5.1.1, jsI_no (by omega)]
    rcases x3 with ⟨p, rfl, h2⟩ | ⟨r, rfl, h2, h3⟩
    · rw [h2]
      have e3 : jzD p m5 := e3
      rw [e3.2.1]
    · rw [h3]
      cases hx : jzbd (jzbd (.inr r.1) (jzx (jzs b n) 59)) (jzx (jzs b n) 1) with
      | inl p =>
        rw [hx] at e3
        have e3 : jzD p m5 := e3
        rw [e3.2.1]
        rfl
      | inr s =>
        rw [hx] at e3
        have e3 : jzC s m5 := e3
        rw [e3.2.2.2.2]
        rfl
  · have h1 : jzF m m5 := (((((f0.trans (jzFs_F a2)).trans (jzFs_F b2)).trans c2).trans (jzFs_F d2)).trans (jzFs_F e2))
    exact (h1.weak (fun a i h => by omega)).trans (jfx_I (Or.inl rfl))
  · rw [jsI_y]
  · intro p hp
    rcases x3 with ⟨p', rfl, h2⟩ | ⟨r, rfl, h2, h3⟩
    · rw [h2] at hp
      cases hp
      have e3 : jzD p m5 := e3
      exact e3.2.2
    · rw [h3] at hp
      cases hx : jzbd (jzbd (.inr r.1) (jzx (jzs b n) 59)) (jzx (jzs b n) 1) with
      | inl p' =>
        rw [hx] at e3 hp
        cases hp
        have e3 : jzD p m5 := e3
        exact e3.2.2
      | inr s =>
        rw [hx] at hp
        cases hp
  · intro l hl
    rcases x3 with ⟨p', rfl, h2⟩ | ⟨r, rfl, h2, h3⟩
    · rw [h2] at hl
      cases hl
    · rw [h3] at hl
      cases hx : jzbd (jzbd (.inr r.1) (jzx (jzs b n) 59)) (jzx (jzs b n) 1) with
      | inl p' =>
        rw [hx] at hl
        cases hl
      | inr s =>
        rw [hx] at hl
        cases hl
        rw [← h2]
        refine ⟨?_, hK5.2.1, fun i hi => ?_⟩
        · rw [jsI_no (by omega)]
          exact hK5.1
        · rw [jsI_no (by omega)]
          exact hK5.2.2 i hi
end RLEV
