/-! the class's reader: steps are written down -/
/-- the steps written so far -/
def jzK (l : List Int32) (m : jMe) : Prop := jI m 36 3 = Int32.ofNat l.length ∧ l.length ≤ 160 ∧ ∀ i, i < l.length → jI m 38 i = l.getD i 0
theorem jzK_of {m m' : jMe} {l : List Int32} (h : jzFs m m') (k : jzK l m) : jzK l m' := by
  refine ⟨by rw [h.I (by omega)]; exact k.1, k.2.1, fun i hi => ?_⟩
  rw [h.I (by omega)]
  exact k.2.2 i hi
theorem jgetD_l {α : Type} {l r : List α} {i : Nat} {d : α} (h : i < l.length) : (l ++ r).getD i d = l.getD i d := by
  rw [List.getD_eq_getElem?_getD, List.getD_eq_getElem?_getD, List.getElem?_append_left h]
theorem jgetD_e {α : Type} {l : List α} {x d : α} : (l ++ [x]).getD l.length d = x := by
  rw [List.getD_eq_getElem?_getD, List.getElem?_append_right (Nat.le_refl _), Nat.sub_self]
  rfl
abbrev jzFe (m m' : jMe) : Prop := jfx (fun a i => (a = 36 ∧ i = 3) ∨ a = 38) m m'
theorem jzFe_F {m m' : jMe} (h : jzFe m m') : jzF m m' := h.weak (fun a i h => by omega)
theorem jzC_e {m m' : jMe} {s : jS0} (h : jzFe m m') (k : jzC s m) : jzC s m' := by
  obtain ⟨k1, k2, k3, k4, k5⟩ := k
  exact ⟨by rw [h.I (by omega)]; exact k1, by rw [h.I (by omega)]; exact k2, by rw [h.I (by omega)]; exact k3, fun q => by rw [h.I (by omega)]; exact k4 q, by rw [h.I (by omega)]; exact k5⟩
theorem jzD_e {m m' : jMe} {p : Nat} (h : jzFe m m') (k : jzD p m) : jzD p m' :=
  ⟨by rw [h.I (by omega)]; exact k.1, by rw [h.I (by omega)]; exact k.2.1, k.2.2⟩
/-- what is written, and where the reader stands, behind a part of a text -/
def jzQ (l : List Int32) (m m' : jMe) (r : jzR) : Prop := jzF m m' ∧ ∃ l', jzK l' m' ∧ match r with
  | .inl p => jzD p m'
  | .inr q => jzC q.1 m' ∧ l' = l ++ q.2
def jzI (F : Nat) (b : Nat → Nat) (n : Nat) (g : jMe → Option jMe) (h : jS0 → jzR) : Prop := ∀ m s l, jzB b n m → jzC s m → jzK l m → jzW n s → l.length ≤ s.2.2.1 → ∃ m', g m = some m' ∧ jzQ l m m' (h s)
def jzJ (F : Nat) (b : Nat → Nat) (n : Nat) (g : jMe → Option jMe) : Prop := ∀ m p l, jzB b n m → jzD p m → jzK l m → ∃ m' l', g m = some m' ∧ jzF m m' ∧ jzD p m' ∧ jzK l' m'
section RREAD
variable {F : Nat} {b : Nat → Nat} {n : Nat}
theorem q_remit {m : jMe} {l : List Int32} {x w : Int32} (hT : jzT m) (hK : jzK l m) : ∃ m' l', c_X3_emit F m 36 x w = some m' ∧ jzFe m m' ∧ jzK l' m' ∧ (l.length < 160 → l' = l ++ [x + jshl w 4]) := by
  obtain ⟨h1, h2, h3⟩ := hK
  unfold c_X3_emit
  rw [jgd_t hT.1, h1]
  by_cases q : 160 ≤ l.length
  · rw [if_pos (show (160 : Int32) ≤ Int32.ofNat l.length from ji_lep (a := 160) (by omega) (by omega) q)]
    exact ⟨m, l, rfl, jfx.rfl, ⟨h1, h2, h3⟩, fun h => by omega⟩
  · rw [if_neg (show ¬ (160 : Int32) ≤ Int32.ofNat l.length from ji_len (a := 160) (by omega) (by omega) q), hT.2.2.1, jgd_t hT.2.2.2.2.2.1, hT.2.2.2.2.2.2.1, jgd_t (ji_int (by omega) (by omega)), ji_n (by omega)]
    refine ⟨_, l ++ [x + jshl w 4], rfl, (jfx_I (S := fun a i => (a = 36 ∧ i = 3) ∨ a = 38) (Or.inr rfl)).trans (jfx_I (Or.inl ⟨rfl, rfl⟩)), ⟨?_, ?_, fun i hi => ?_⟩, fun _ => rfl⟩
    · rw [jsI_y, jsI_no (by omega), h1, jl_1, ji_add, List.length_append, List.length_singleton]
    · rw [List.length_append, List.length_singleton]
      omega
    · rw [List.length_append, List.length_singleton] at hi
      rw [jsI_no (by omega), jsI_g]
      by_cases e : i = l.length
      · subst e
        rw [if_pos ⟨rfl, rfl⟩, jgetD_e]
      · rw [if_neg (fun h => e h.2), jgetD_l (by omega)]
        exact h3 i (by omega)
theorem jshl_0 : jshl (0 : Int32) (4 : Int32) = 0 := by decide +kernel
theorem jadd_0 (x : Int32) : x + jshl (0 : Int32) (4 : Int32) = x := by
  rw [jshl_0]
  exact Int32.add_zero x
/-- of a loop over parts, at a turn -/
def jzL1 (F : Nat) (lf : Nat → jMe → Int32 → Option jMe) (g : jMe → Option jMe) (lv : Nat) : Prop := ∀ (f : Nat) (m : jMe) (u tk : Nat), u ≤ 160 → jzT m → jI m 36 6 = Int32.ofNat tk → tk < 256 → lf (f + 1) m (Int32.ofNat u) = if 160 ≤ u then some m else match jzop lv tk with
  | none => some m
  | some o => jb (c_X3_step F m 36) fun t8 => jgd (jK t8 36 = 35) <| jb (g t8) fun t11 => jgd (jK t11 36 = 35) <| jb (c_X3_emit F t11 36 (Int32.ofNat o) (0 : Int32)) fun t14 => lf f t14 (Int32.ofNat (u + 1))
theorem jzop_0 {lv : Nat} : jzop lv 0 = none := by
  unfold jzop
  repeat' split
  all_goals first | rfl | (exfalso; omega)
theorem q_rloop_d {lf : Nat → jMe → Int32 → Option jMe} {g : jMe → Option jMe} {lv : Nat} (hL : jzL1 F lf g lv) {m : jMe} {p u f : Nat} (hu : u ≤ 160) (hf : 0 < f) (hB : jzB b n m) (hD : jzD p m) : lf f m (Int32.ofNat u) = some m := by
  obtain ⟨f, rfl⟩ := jsucc hf
  rw [hL f m u 0 hu hB.1 hD.1 (by omega), jzop_0]
  by_cases q : 160 ≤ u
  · rw [if_pos q]
  · rw [if_neg q]
theorem q_rloop (hF : 1000 < F) {lf : Nat → jMe → Int32 → Option jMe} {g : jMe → Option jMe} {sub : jS0 → jzR} {lv : Nat} (hL : jzL1 F lf g lv) (hI : jzI F b n g sub) (hJ : jzJ F b n g) (hM : jzM n sub) : ∀ (t u f : Nat) (m : jMe) (s : jS0) (l : List Int32), u + t = 160 → t < f → jzB b n m → jzC s m → jzK l m → jzW n s → l.length ≤ s.2.2.1 → ∃ m', lf f m (Int32.ofNat u) = some m' ∧ jzQ l m m' (jzl (jzs b n) sub lv t s) := by
  intro t
  induction t with
  | zero =>
    intro u f m s l h1 h2 hB hC hK hW hl
    obtain ⟨f, rfl⟩ := jsucc h2
    refine ⟨m, ?_, jfx.rfl, l, hK, hC, (List.append_nil l).symm⟩
    rw [hL f m u s.1 (by omega) hB.1 hC.1 hW.2.2.2.2.1, if_pos (by omega)]
  | succ t ih =>
    intro u f m s l h1 h2 hB hC hK hW hl
    obtain ⟨f, rfl⟩ := jsucc h2
    have hn160 := hB.2.2.1
    rw [hL f m u s.1 (by omega) hB.1 hC.1 hW.2.2.2.2.1, if_neg (by omega)]
    unfold jzl
    cases ho : jzop lv s.1 with
    | none => exact ⟨m, rfl, jfx.rfl, l, hK, hC, (List.append_nil l).symm⟩
    | some o =>
      have hne := (jzop_1 ho).1
      have hlt := hW.2.2.1 hne
      have hw2 := hW.2.1
      obtain ⟨m1, a1, a2, a3⟩ := q_rstep hF hB hC.2.2.1 hw2 hC.2.2.2.2
      have hB1 := jzB_of (jzFs_F a2) hB
      have hK1 := jzK_of a2 hK
      dsimp only
      rw [a1, jb_some, jgd_t hB1.1.1]
      have hend : ∀ (m2 : jMe) (l2 : List Int32) (p : Nat), jzF m m2 → jzB b n m2 → jzD p m2 → jzK l2 m2 → ∃ m', (jgd (jK m2 36 = 35) <| jb (c_X3_emit F m2 36 (Int32.ofNat o) (0 : Int32)) fun t14 => lf f t14 (Int32.ofNat (u + 1))) = some m' ∧ jzQ l m m' (.inl p) := by
        intro m2 l2 p g1 g2 g3 g4
        obtain ⟨m3, l3, c1, c2, c3, -⟩ := q_remit (F := F) (x := Int32.ofNat o) (w := 0) g2.1 g4
        refine ⟨m3, ?_, g1.trans (jzFe_F c2), l3, c3, jzD_e c2 g3⟩
        rw [jgd_t g2.1.1, c1, jb_some, q_rloop_d hL (by omega) (by omega) (jzB_of (jzFe_F c2) g2) (jzD_e c2 g3)]
      cases hs : jzs b n s.2.2.2 with
      | inl p =>
        rw [hs] at a3
        obtain ⟨m2, l2, b1, b2, b3, b4⟩ := hJ m1 p l hB1 a3 hK1
        rw [b1, jb_some]
        exact hend m2 l2 p ((jzFs_F a2).trans b2) (jzB_of b2 hB1) b3 b4
      | inr s1 =>
        rw [hs] at a3
        obtain ⟨w1, w2⟩ := jzs_W hw2 hs
        obtain ⟨m2, b1, b2, l2, b3, b4⟩ := hI m1 s1 l hB1 a3 hK1 w1 (by omega)
        rw [b1, jb_some, jzbd_r]
        have hB2 := jzB_of b2 hB1
        cases hr : sub s1 with
        | inl p =>
          rw [hr] at b4
          exact hend m2 l2 p ((jzFs_F a2).trans b2) hB2 b4 b3
        | inr r =>
          rw [hr] at b4
          obtain ⟨b4, b5⟩ := b4
          obtain ⟨w3, w4⟩ := hM s1 w1 r hr
          have hl2 : l2.length = l.length + r.2.length := by rw [b5, List.length_append]
          have hw5 := w3.1
          obtain ⟨m3, l3, c1, c2, c3, c4⟩ := q_remit (F := F) (x := Int32.ofNat o) (w := 0) hB2.1 b3
          have c4 := c4 (by omega)
          rw [jadd_0] at c4
          have hl3 : l3.length = l2.length + 1 := by rw [c4, List.length_append, List.length_singleton]
          obtain ⟨m4, d1, d2, l4, d3, d4⟩ := ih (u + 1) f m3 r.1 l3 (by omega) (by omega) (jzB_of (jzFe_F c2) hB2) (jzC_e c2 b4) c3 w3 (by omega)
          refine ⟨m4, ?_, (((jzFs_F a2).trans b2).trans (jzFe_F c2)).trans d2, l4, d3, ?_⟩
          · rw [jgd_t hB2.1.1, c1, jb_some, d1]
          · rw [jzbd_r]
            cases hx : jzl (jzs b n) sub lv t r.1 with
            | inl p =>
              rw [hx] at d4
              exact d4
            | inr r2 =>
              rw [hx] at d4
              refine ⟨d4.1, ?_⟩
              rw [d4.2, c4, b5]
              simp
/-- a part, and a loop behind it -/
theorem q_rbin (hF : 1000 < F) {lf : Nat → jMe → Int32 → Option jMe} {g : jMe → Option jMe} {sub : jS0 → jzR} {lv : Nat} (hL : jzL1 F lf g lv) (hI : jzI F b n g sub) (hJ : jzJ F b n g) (hM : jzM n sub) : jzI F b n (fun m => jgd (jK m 36 = 35) <| jb (g m) fun t3 => jb (lf F t3 (0 : Int32)) fun e16 => some e16) (fun s => jzbd (sub s) fun r => jzbd (jzl (jzs b n) sub lv 160 r.1) fun r2 => .inr (r2.1, r.2 ++ r2.2)) ∧ jzJ F b n (fun m => jgd (jK m 36 = 35) <| jb (g m) fun t3 => jb (lf F t3 (0 : Int32)) fun e16 => some e16) := by
  constructor
  · intro m s l hB hC hK hW hl
    obtain ⟨m1, a1, a2, l1, a3, a4⟩ := hI m s l hB hC hK hW hl
    have hB1 := jzB_of a2 hB
    show ∃ m', (jgd (jK m 36 = 35) <| jb (g m) fun t3 => jb (lf F t3 (0 : Int32)) fun e16 => some e16) = some m' ∧ jzQ l m m' (jzbd (sub s) fun r => jzbd (jzl (jzs b n) sub lv 160 r.1) fun r2 => .inr (r2.1, r.2 ++ r2.2))
    rw [jgd_t hB.1.1, a1, jb_some, jl_0]
    cases hr : sub s with
    | inl p =>
      rw [hr] at a4
      rw [q_rloop_d hL (by omega) (by omega) hB1 a4, jb_some]
      exact ⟨m1, rfl, a2, l1, a3, a4⟩
    | inr r =>
      rw [hr] at a4
      obtain ⟨w1, w2⟩ := hM s hW r hr
      obtain ⟨m2, b1, b2, l2, b3, b4⟩ := q_rloop hF hL hI hJ hM 160 0 F m1 r.1 l1 (by omega) (by omega) hB1 a4.1 a3 w1 (by rw [a4.2, List.length_append]; omega)
      rw [b1, jb_some, jzbd_r]
      refine ⟨m2, rfl, a2.trans b2, l2, b3, ?_⟩
      cases hx : jzl (jzs b n) sub lv 160 r.1 with
      | inl p =>
        rw [hx] at b4
        exact b4
      | inr r2 =>
        rw [hx] at b4
        refine ⟨b4.1, ?_⟩
        rw [b4.2, a4.2, List.append_assoc]
  · intro m p l hB hD hK
    obtain ⟨m1, l1, a1, a2, a3, a4⟩ := hJ m p l hB hD hK
    have hB1 := jzB_of a2 hB
    refine ⟨m1, l1, ?_, a2, a3, a4⟩
    show (jgd (jK m 36 = 35) <| jb (g m) fun t3 => jb (lf F t3 (0 : Int32)) fun e16 => some e16) = some m1
    rw [jgd_t hB.1.1, a1, jb_some, jl_0, q_rloop_d hL (by omega) (by omega) hB1 a3, jb_some]
theorem ji_tk {x k : Nat} (hx : x < 256) (hk : k < 256) : Int32.ofNat x = Int32.ofNat k ↔ x = k := ji_eq (by omega) (by omega)
theorem jzop_i0 {tk : Nat} : jzop 0 tk = if tk = 5 then some 11 else none := Eq.trans (Eq.refl _) (Eq.refl _)
theorem jzop_i1 {tk : Nat} : jzop 1 tk = if tk = 6 then some 10 else none := Eq.trans (Eq.refl _) (Eq.refl _)
theorem jzop_i4 {tk : Nat} : jzop 4 tk = if tk = 43 then some 4 else if tk = 45 then some 5 else none := Eq.trans (Eq.refl _) (Eq.refl _)
theorem jzop_i5 {tk : Nat} : jzop 5 tk = if tk = 42 then some 6 else if tk = 37 then some 7 else none := Eq.trans (Eq.refl _) (Eq.refl _)
theorem q_l_either {G : Nat → jMe → Nat → Int32 → Option jMe} {y : Int32} : jzL1 F (fun f m u => c_X3_readEither_l7 F G f m 36 y u) (fun m => G 1 m 36 y) 0 := by
  intro f m u tk hu hT ht h256
  show c_X3_readEither_l7_b F G _ m 36 y (Int32.ofNat u) = _
  unfold c_X3_readEither_l7_b
  have h5 : (Int32.ofNat tk = 5) ↔ tk = 5 := ji_tk (k := 5) h256 (by omega)
  by_cases q : 160 ≤ u
  · rw [if_pos (show (160 : Int32) ≤ Int32.ofNat u from ji_lep (a := 160) (by omega) (by omega) q), if_pos q]
  · rw [if_neg (show ¬ (160 : Int32) ≤ Int32.ofNat u from ji_len (a := 160) (by omega) (by omega) q), if_neg q, jgd_t hT.1, ht, jl_1, ji_add]
    rw [jzop_i0]
    by_cases e : tk = 5
    · rw [if_pos (h5.mpr e), if_pos e]
      rfl
    · rw [if_neg (fun h => e (h5.mp h)), if_neg e]
theorem q_l_both {G : Nat → jMe → Nat → Int32 → Option jMe} {y : Int32} : jzL1 F (fun f m u => c_X3_readBoth_l7 F G f m 36 y u) (fun m => G 2 m 36 y) 1 := by
  intro f m u tk hu hT ht h256
  show c_X3_readBoth_l7_b F G _ m 36 y (Int32.ofNat u) = _
  unfold c_X3_readBoth_l7_b
  have h5 : (Int32.ofNat tk = 6) ↔ tk = 6 := ji_tk (k := 6) h256 (by omega)
  by_cases q : 160 ≤ u
  · rw [if_pos (show (160 : Int32) ≤ Int32.ofNat u from ji_lep (a := 160) (by omega) (by omega) q), if_pos q]
  · rw [if_neg (show ¬ (160 : Int32) ≤ Int32.ofNat u from ji_len (a := 160) (by omega) (by omega) q), if_neg q, jgd_t hT.1, ht, jl_1, ji_add]
    rw [jzop_i1]
    by_cases e : tk = 6
    · rw [if_pos (h5.mpr e), if_pos e]
      rfl
    · rw [if_neg (fun h => e (h5.mp h)), if_neg e]
theorem q_l_sum {G : Nat → jMe → Nat → Int32 → Option jMe} {y : Int32} : jzL1 F (fun f m u => c_X3_readSum_l7 F G f m 36 y u) (fun m => G 5 m 36 y) 4 := by
  intro f m u tk hu hT ht h256
  show c_X3_readSum_l7_b F G _ m 36 y (Int32.ofNat u) = _
  unfold c_X3_readSum_l7_b c_X3_readSum_j32_l7 c_X3_readSum_j46_l7
  have h5 : (Int32.ofNat tk = 43) ↔ tk = 43 := ji_tk (k := 43) h256 (by omega)
  have h6 : (Int32.ofNat tk = 45) ↔ tk = 45 := ji_tk (k := 45) h256 (by omega)
  by_cases q : 160 ≤ u
  · rw [if_pos (show (160 : Int32) ≤ Int32.ofNat u from ji_lep (a := 160) (by omega) (by omega) q), if_pos q]
  · rw [if_neg (show ¬ (160 : Int32) ≤ Int32.ofNat u from ji_len (a := 160) (by omega) (by omega) q), if_neg q]
    simp only [jgd_t hT.1]
    rw [ht, jl_1, ji_add]
    rw [jzop_i4]
    by_cases e : tk = 43
    · rw [if_pos (h5.mpr e), if_pos (h5.mpr e), if_pos e]
      rfl
    · rw [if_neg (fun h => e (h5.mp h)), if_neg (fun h => e (h5.mp h)), if_neg e]
      by_cases e2 : tk = 45
      · rw [if_pos (h6.mpr e2), if_pos e2]
        rfl
      · rw [if_neg (fun h => e2 (h6.mp h)), if_neg e2]
theorem q_l_term {G : Nat → jMe → Nat → Int32 → Option jMe} {y : Int32} : jzL1 F (fun f m u => c_X3_readTerm_l7 F G f m 36 y u) (fun m => G 6 m 36 y) 5 := by
  intro f m u tk hu hT ht h256
  show c_X3_readTerm_l7_b F G _ m 36 y (Int32.ofNat u) = _
  unfold c_X3_readTerm_l7_b c_X3_readTerm_j32_l7 c_X3_readTerm_j48_l7
  have h5 : (Int32.ofNat tk = 42) ↔ tk = 42 := ji_tk (k := 42) h256 (by omega)
  have h6 : (Int32.ofNat tk = 37) ↔ tk = 37 := ji_tk (k := 37) h256 (by omega)
  by_cases q : 160 ≤ u
  · rw [if_pos (show (160 : Int32) ≤ Int32.ofNat u from ji_lep (a := 160) (by omega) (by omega) q), if_pos q]
  · rw [if_neg (show ¬ (160 : Int32) ≤ Int32.ofNat u from ji_len (a := 160) (by omega) (by omega) q), if_neg q]
    simp only [jgd_t hT.1]
    rw [ht, jl_1, ji_add]
    rw [jzop_i5]
    by_cases e : tk = 42
    · rw [if_pos (h5.mpr e), if_pos (h5.mpr e), if_pos e]
      rfl
    · rw [if_neg (fun h => e (h5.mp h)), if_neg (fun h => e (h5.mp h)), if_neg e]
      by_cases e2 : tk = 37
      · rw [if_pos (h6.mpr e2), if_pos e2]
        rfl
      · rw [if_neg (fun h => e2 (h6.mp h)), if_neg e2]
end RREAD
