/-! the class's reader: a whole text -/
section RLEV
variable {F : Nat} {b : Nat → Nat} {n : Nat}
/-- behind a fault: what is still written doesn't matter -/
theorem q_rend {m : jMe} {l : List Int32} {p : Nat} {x : Int32} (hB : jzB b n m) (hD : jzD p m) (hK : jzK l m) : ∃ m' l', (jgd (jK m 36 = 35) <| jb (c_X3_emit F m 36 x (0 : Int32)) fun t => some t) = some m' ∧ jzF m m' ∧ jzD p m' ∧ jzK l' m' := by
  obtain ⟨m', l', c1, c2, c3, -⟩ := q_remit (F := F) (x := x) (w := 0) hB.1 hK
  exact ⟨m', l', by rw [jgd_t hB.1.1, c1, jb_some], jzFe_F c2, jzD_e c2 hD, c3⟩
/-- a step, a part, and what is written then -/
theorem q_rpre (hF : 1000 < F) {g : jMe → Option jMe} {sub : jS0 → jzR} {x : Int32} (hI : jzI F b n g sub) (hJ : jzJ F b n g) (hM : jzM n sub) {m : jMe} {s : jS0} {l : List Int32} (hB : jzB b n m) (hC : jzC s m) (hK : jzK l m) (hW : jzW n s) (hl : l.length ≤ s.2.2.1) (h1 : s.1 ≠ 1) : ∃ m', (jb (c_X3_step F m 36) fun t5 => jgd (jK t5 36 = 35) <| jb (g t5) fun t8 => jgd (jK t8 36 = 35) <| jb (c_X3_emit F t8 36 x (0 : Int32)) fun t11 => some t11) = some m' ∧ jzQ l m m' (jzbd (jzs b n s.2.2.2) fun s1 => jzbd (sub s1) fun r => .inr (r.1, r.2 ++ [x])) := by
  have hlt := hW.2.2.1 h1
  have hw2 := hW.2.1
  have hn160 := hB.2.2.1
  obtain ⟨m1, a1, a2, a3⟩ := q_rstep hF hB hC.2.2.1 hw2 hC.2.2.2.2
  have hB1 := jzB_of (jzFs_F a2) hB
  have hK1 := jzK_of a2 hK
  rw [a1, jb_some, jgd_t hB1.1.1]
  cases hs : jzs b n s.2.2.2 with
  | inl p =>
    rw [hs] at a3
    obtain ⟨m2, l2, b1, b2, b3, b4⟩ := hJ m1 p l hB1 a3 hK1
    obtain ⟨m3, l3, c1, c2, c3, c4⟩ := q_rend (F := F) (x := x) (jzB_of b2 hB1) b3 b4
    rw [b1, jb_some, c1]
    exact ⟨m3, rfl, ((jzFs_F a2).trans b2).trans c2, l3, c4, c3⟩
  | inr s1 =>
    rw [hs] at a3
    obtain ⟨w1, w2⟩ := jzs_W hw2 hs
    obtain ⟨m2, b1, b2, l2, b3, b4⟩ := hI m1 s1 l hB1 a3 hK1 w1 (by omega)
    have hB2 := jzB_of b2 hB1
    rw [b1, jb_some, jzbd_r]
    cases hr : sub s1 with
    | inl p =>
      rw [hr] at b4
      obtain ⟨m3, l3, c1, c2, c3, c4⟩ := q_rend (F := F) (x := x) hB2 b4 b3
      rw [c1]
      exact ⟨m3, rfl, ((jzFs_F a2).trans b2).trans c2, l3, c4, c3⟩
    | inr r =>
      rw [hr] at b4
      obtain ⟨b4, b5⟩ := b4
      obtain ⟨w3, w4⟩ := hM s1 w1 r hr
      have hl2 : l2.length = l.length + r.2.length := by rw [b5, List.length_append]
      have hw5 := w3.1
      obtain ⟨m3, l3, c1, c2, c3, c4⟩ := q_remit (F := F) (x := x) (w := 0) hB2.1 b3
      have c4 := c4 (by omega)
      rw [jadd_0] at c4
      rw [jgd_t hB2.1.1, c1, jb_some]
      refine ⟨m3, rfl, ((jzFs_F a2).trans b2).trans (jzFe_F c2), l3, c3, jzC_e c2 b4, ?_⟩
      rw [c4, b5]
      simp
theorem q_rfault {m : jMe} {s : jS0} {l : List Int32} (hB : jzB b n m) (hC : jzC s m) (hK : jzK l m) (hW : jzW n s) : ∃ m', c_X3_fail F m 36 = some m' ∧ jzQ l m m' (.inl s.2.2.1) := by
  have := hW.1
  have := hB.2.2.1
  obtain ⟨m', y1, y2, y3⟩ := q_rfail (F := F) hB.1 (p := s.2.2.1) (by omega) (Or.inl ⟨hC.2.2.2.2, hC.2.1⟩)
  exact ⟨m', y1, jzFs_F y2, l, jzK_of y2 hK, y3⟩
theorem q_rfault_d {m : jMe} {p : Nat} {l : List Int32} (hB : jzB b n m) (hD : jzD p m) (hK : jzK l m) : ∃ m' l', c_X3_fail F m 36 = some m' ∧ jzF m m' ∧ jzD p m' ∧ jzK l' m' := by
  obtain ⟨m', y1, y2, y3⟩ := q_rfail (F := F) hB.1 (p := p) hD.2.2 (Or.inr hD.2.1)
  exact ⟨m', l, y1, jzFs_F y2, y3, jzK_of y2 hK⟩
/-- fuel enough: more of it tells the same -/
theorem jzp_f {st : Nat → Nat ⊕ jS0} : ∀ (k k2 lv op : Nat), lv ≤ 6 → op ≤ 5 → 7 * (5 - op) + (7 - lv) ≤ k → 7 * (5 - op) + (7 - lv) ≤ k2 → jzp st k lv op = jzp st k2 lv op := by
  intro k
  induction k with
  | zero => intro k2 lv op h1 h2 h3 h4; omega
  | succ k ih =>
    intro k2 lv op h1 h2 h3 h4
    obtain ⟨k2, rfl⟩ : ∃ g, k2 = g + 1 := ⟨k2 - 1, by omega⟩
    funext s
    rw [jzp, jzp]
    by_cases q : lv = 0 ∨ lv = 1 ∨ lv = 4 ∨ lv = 5
    · rw [if_pos q, if_pos q, ih k2 (lv + 1) op (by omega) h2 (by omega) (by omega)]
    rw [if_neg q, if_neg q]
    by_cases q2 : lv = 2
    · subst q2
      rw [if_pos rfl, if_pos rfl, ih k2 3 op (by omega) h2 (by omega) (by omega)]
      by_cases g : op < 5
      · rw [ih k2 2 (op + 1) (by omega) (by omega) (by omega) (by omega)]
      · rw [if_neg g, if_neg g]
    rw [if_neg q2, if_neg q2]
    by_cases q3 : lv = 3
    · subst q3
      rw [if_pos rfl, if_pos rfl, ih k2 4 op (by omega) h2 (by omega) (by omega)]
    rw [if_neg q3, if_neg q3]
    have e : lv = 6 := by omega
    subst e
    by_cases g : op < 5
    · rw [ih k2 6 (op + 1) (by omega) (by omega) (by omega) (by omega), ih k2 0 (op + 1) (by omega) (by omega) (by omega) (by omega)]
    · rw [if_neg g, if_neg g, if_neg g, if_neg g]
/-- what stands from a token on, fuel enough -/
def jzP (b : Nat → Nat) (n lv op : Nat) : jS0 → jzR := jzp (jzs b n) 64 lv op
/-- a number, a name, ( .. -/
def jzPl (b : Nat → Nat) (n op : Nat) : jS0 → jzR := fun s =>
  if s.1 = 2 ∨ s.1 = 3 then jzbd (jzs b n s.2.2.2) fun s1 => .inr (s1, [Int32.ofNat (s.1 - 2 + 16 * s.2.1)])
  else if s.1 = 40 then (if op < 5 then jzbd (jzs b n s.2.2.2) fun s1 => jzbd (jzP b n 0 (op + 1) s1) fun r => jzbd (jzx (jzs b n) 41 r.1) fun s2 => .inr (s2, r.2) else .inl s.2.2.1)
  else .inl s.2.2.1
def jzQq (b : Nat → Nat) (n lv op : Nat) : jS0 → jzR := if lv = 7 then jzPl b n op else jzP b n lv op
theorem jzP_u {b : Nat → Nat} {n lv op : Nat} (h1 : lv ≤ 6) (h2 : op ≤ 5) : jzP b n lv op = jzp (jzs b n) 63 lv op := jzp_f 64 63 lv op h1 h2 (by omega) (by omega)
theorem jzP_b {b : Nat → Nat} {n lv op : Nat} (h1 : lv = 0 ∨ lv = 1 ∨ lv = 4 ∨ lv = 5) (h2 : op ≤ 5) : jzP b n lv op = fun s => jzbd (jzP b n (lv + 1) op s) fun r => jzbd (jzl (jzs b n) (jzP b n (lv + 1) op) lv 160 r.1) fun r2 => .inr (r2.1, r.2 ++ r2.2) := by
  funext s
  rw [jzP_u (lv := lv + 1) (by omega) h2]
  show jzp (jzs b n) (63 + 1) lv op s = _
  rw [jzp, if_pos h1]
theorem jzP_2 {b : Nat → Nat} {n op : Nat} {s : jS0} (h2 : op ≤ 5) : jzP b n 2 op s = if s.1 = 7 then (if op < 5 then jzbd (jzs b n s.2.2.2) fun s1 => jzbd (jzP b n 2 (op + 1) s1) fun r => .inr (r.1, r.2 ++ [3]) else .inl s.2.2.1) else jzP b n 3 op s := by
  rw [jzP_u (lv := 3) (by omega) h2]
  show jzp (jzs b n) (63 + 1) 2 op s = _
  rw [jzp, if_neg (by decide), if_pos rfl]
  by_cases g : op < 5
  · rw [jzP_u (lv := 2) (op := op + 1) (by omega) (by omega)]
  · rw [if_neg g, if_neg g]
theorem jzP_3 {b : Nat → Nat} {n op : Nat} (h2 : op ≤ 5) : jzP b n 3 op = fun s => jzbd (jzP b n 4 op s) fun r => if r.1.1 = 60 ∨ r.1.1 = 61 then jzbd (jzs b n r.1.2.2.2) fun s1 => jzbd (jzP b n 4 op s1) fun r2 => .inr (r2.1, r.2 ++ (r2.2 ++ [if r.1.1 = 60 then 8 else 9])) else .inr r := by
  funext s
  rw [jzP_u (lv := 4) (by omega) h2]
  show jzp (jzs b n) (63 + 1) 3 op s = _
  rw [jzp, if_neg (by decide), if_neg (by decide), if_pos rfl]
theorem jzP_6 {b : Nat → Nat} {n op : Nat} {s : jS0} (h2 : op ≤ 5) : jzP b n 6 op s = if s.1 = 45 then (if op < 5 then jzbd (jzs b n s.2.2.2) fun s1 => jzbd (jzP b n 6 (op + 1) s1) fun r => .inr (r.1, r.2 ++ [2]) else .inl s.2.2.1) else jzPl b n op s := by
  have e : jzP b n 6 op s = jzp (jzs b n) (63 + 1) 6 op s := rfl
  unfold jzPl
  rw [e, jzp, if_neg (by decide), if_neg (by decide), if_neg (by decide)]
  by_cases h23 : s.1 = 2 ∨ s.1 = 3
  · rw [if_pos h23, if_neg (show ¬ s.1 = 45 by omega), if_pos h23]
  rw [if_neg h23, if_neg h23]
  by_cases h45 : s.1 = 45
  · rw [if_pos h45, if_pos h45]
    by_cases g : op < 5
    · rw [jzP_u (lv := 6) (op := op + 1) (by omega) (by omega)]
    · rw [if_neg g, if_neg g]
  rw [if_neg h45, if_neg h45]
  by_cases h40 : s.1 = 40
  · rw [if_pos h40, if_pos h40]
    by_cases g : op < 5
    · rw [if_pos g, if_pos g, jzP_u (lv := 0) (op := op + 1) (by omega) (by omega)]
      congr 1
      funext s1
      congr 1
      funext r
      unfold jzx
      by_cases h41 : r.1.1 = 41
      · rw [if_pos h41, if_pos h41, if_neg (by decide)]
      · rw [if_neg h41, if_neg h41, jzbd_l]
    · rw [if_neg g, if_neg g]
  rw [if_neg h40, if_neg h40]
/-- at a not, and at a - ahead of which no more is free, nothing else fits -/
theorem jzP_7 {b : Nat → Nat} {n : Nat} {s : jS0} (h : s.1 = 7) : jzP b n 3 5 s = .inl s.2.2.1 := by
  have e6 : jzP b n 6 5 s = .inl s.2.2.1 := by
    rw [jzP_6 (by omega), if_neg (by omega)]
    unfold jzPl
    rw [if_neg (by omega), if_neg (by omega)]
  have e5 : jzP b n 5 5 s = .inl s.2.2.1 := by
    rw [jzP_b (lv := 5) (by omega) (by omega)]
    show jzbd (jzP b n 6 5 s) _ = _
    rw [e6, jzbd_l]
  have e4 : jzP b n 4 5 s = .inl s.2.2.1 := by
    rw [jzP_b (lv := 4) (by omega) (by omega)]
    show jzbd (jzP b n 5 5 s) _ = _
    rw [e5, jzbd_l]
  rw [jzP_3 (by omega)]
  show jzbd (jzP b n 4 5 s) _ = _
  rw [e4, jzbd_l]
theorem jzPl_45 {b : Nat → Nat} {n : Nat} {s : jS0} (h : s.1 = 45) : jzPl b n 5 s = .inl s.2.2.1 := by
  unfold jzPl
  rw [if_neg (by omega), if_neg (by omega)]
/-- a token again and again: how often, and what stands behind -/
def jzo (st : Nat → Nat ⊕ jS0) (tok : Nat) : Nat → jS0 → Nat ⊕ (jS0 × Nat)
  | 0, s => .inr (s, 0)
  | t + 1, s => if s.1 = tok then jzbd (st s.2.2.2) fun s1 => jzbd (jzo st tok t s1) fun z => .inr (z.1, z.2 + 1) else .inr (s, 0)
theorem jzo_e {st : Nat → Nat ⊕ jS0} {tok : Nat} {x : Int32} {A B : Nat → jS0 → jzR} (hA : ∀ op s, op ≤ 5 → A op s = if s.1 = tok then (if op < 5 then jzbd (st s.2.2.2) fun s1 => jzbd (A (op + 1) s1) fun r => .inr (r.1, r.2 ++ [x]) else .inl s.2.2.1) else B op s) (hB : ∀ s : jS0, s.1 = tok → B 5 s = .inl s.2.2.1) : ∀ (t op : Nat) (s : jS0), op + t = 5 → A op s = jzbd (jzo st tok t s) fun z => jzbd (B (op + z.2) z.1) fun r => .inr (r.1, r.2 ++ List.replicate z.2 x) := by
  have hid : ∀ y : jzR, jzbd y (fun r => .inr (r.1, r.2 ++ List.replicate 0 x)) = y := by
    intro y
    cases y with
    | inl p => rfl
    | inr r => rw [jzbd_r, List.replicate_zero, List.append_nil]
  intro t
  induction t with
  | zero =>
    intro op s h
    have e : op = 5 := by omega
    subst e
    have e2 : jzbd (jzo st tok 0 s) (fun z => jzbd (B (5 + z.2) z.1) fun r => .inr (r.1, r.2 ++ List.replicate z.2 x)) = B 5 s := by
      rw [jzo, jzbd_r]
      exact hid (B 5 s)
    rw [e2, hA 5 s (by omega)]
    by_cases g : s.1 = tok
    · rw [if_pos g, if_neg (by decide), hB s g]
    · rw [if_neg g]
  | succ t ih =>
    intro op s h
    rw [hA op s (by omega), jzo]
    by_cases g : s.1 = tok
    · rw [if_pos g, if_pos g, if_pos (by omega)]
      cases st s.2.2.2 with
      | inl p => rfl
      | inr s1 =>
        rw [jzbd_r, jzbd_r, ih (op + 1) s1 (by omega)]
        cases jzo st tok t s1 with
        | inl p => rfl
        | inr z =>
          rw [jzbd_r, jzbd_r, jzbd_r]
          dsimp only
          rw [show op + 1 + z.2 = op + (z.2 + 1) by omega]
          cases B (op + (z.2 + 1)) z.1 with
          | inl p => rfl
          | inr r =>
            rw [jzbd_r, jzbd_r, jzbd_r]
            dsimp only
            rw [List.replicate_succ', List.append_assoc]
    · rw [if_neg g, if_neg g, jzbd_r]
      exact (hid (B op s)).symm
/-- of such a loop, at a turn -/
def jzN1 (F : Nat) (lf : Nat → jMe → Int32 → Option (jMe × Nat × Int32 × Int32)) (tok op : Nat) : Prop := ∀ (f : Nat) (m : jMe) (u tk : Nat), op + u ≤ 5 → jzT m → jI m 36 6 = Int32.ofNat tk → tk < 256 → lf (f + 1) m (Int32.ofNat u) = if tk = tok then (if 5 ≤ op + u then some (m, 36, Int32.ofNat op, Int32.ofNat u) else jb (c_X3_step F m 36) fun t5 => lf f t5 (Int32.ofNat (u + 1))) else some (m, 36, Int32.ofNat op, Int32.ofNat u)
theorem q_rn_d {lf : Nat → jMe → Int32 → Option (jMe × Nat × Int32 × Int32)} {tok op u f p : Nat} (hL : jzN1 F lf tok op) (h0 : tok ≠ 0) (hu : op + u ≤ 5) (hf : 0 < f) {m : jMe} (hB : jzB b n m) (hD : jzD p m) : lf f m (Int32.ofNat u) = some (m, 36, Int32.ofNat op, Int32.ofNat u) := by
  obtain ⟨f, rfl⟩ := jsucc hf
  rw [hL f m u 0 hu hB.1 hD.1 (by omega), if_neg (fun h => h0 h.symm)]
theorem q_rn (hF : 1000 < F) {lf : Nat → jMe → Int32 → Option (jMe × Nat × Int32 × Int32)} {tok op : Nat} (hL : jzN1 F lf tok op) (h0 : tok ≠ 0) (ht1 : tok ≠ 1) : ∀ (t u f : Nat) (m : jMe) (s : jS0), op + u + t = 5 → t < f → jzB b n m → jzC s m → jzW n s → ∃ m' u', lf f m (Int32.ofNat u) = some (m', 36, Int32.ofNat op, Int32.ofNat u') ∧ jzFs m m' ∧ op + u' ≤ 5 ∧ match jzo (jzs b n) tok t s with
    | .inl p => jzD p m'
    | .inr z => jzC z.1 m' ∧ u' = u + z.2 ∧ jzW n z.1 ∧ s.2.2.1 + z.2 ≤ z.1.2.2.1 := by
  intro t
  induction t with
  | zero =>
    intro u f m s h1 h2 hB hC hW
    obtain ⟨f, rfl⟩ := jsucc h2
    refine ⟨m, u, ?_, jfx.rfl, by omega, hC, rfl, hW, Nat.le_refl _⟩
    rw [hL f m u s.1 (by omega) hB.1 hC.1 hW.2.2.2.2.1]
    by_cases g : s.1 = tok
    · rw [if_pos g, if_pos (by omega)]
    · rw [if_neg g]
  | succ t ih =>
    intro u f m s h1 h2 hB hC hW
    obtain ⟨f, rfl⟩ := jsucc h2
    rw [hL f m u s.1 (by omega) hB.1 hC.1 hW.2.2.2.2.1, jzo]
    by_cases g : s.1 = tok
    · have hlt := hW.2.2.1 (by omega)
      have hw2 := hW.2.1
      rw [if_pos g, if_neg (by omega), if_pos g]
      obtain ⟨m1, a1, a2, a3⟩ := q_rstep hF hB hC.2.2.1 hw2 hC.2.2.2.2
      have hB1 := jzB_of (jzFs_F a2) hB
      rw [a1, jb_some]
      cases hs : jzs b n s.2.2.2 with
      | inl p =>
        rw [hs] at a3
        exact ⟨m1, u + 1, q_rn_d hL h0 (by omega) (by omega) hB1 a3, a2, by omega, a3⟩
      | inr s1 =>
        rw [hs] at a3
        obtain ⟨w1, w2⟩ := jzs_W hw2 hs
        obtain ⟨m2, u2, b1, b2, b3, b4⟩ := ih (u + 1) f m1 s1 (by omega) (by omega) hB1 a3 w1
        refine ⟨m2, u2, b1, a2.trans b2, b3, ?_⟩
        rw [jzbd_r]
        cases hz : jzo (jzs b n) tok t s1 with
        | inl p =>
          rw [hz] at b4
          exact b4
        | inr z =>
          rw [hz] at b4
          obtain ⟨c1, c2, c3, c4⟩ := b4
          exact ⟨c1, by show u2 = u + (z.2 + 1); omega, c3, by show s.2.2.1 + (z.2 + 1) ≤ z.1.2.2.1; omega⟩
    · rw [if_neg g, if_neg g]
      exact ⟨m, u, rfl, jfx.rfl, by omega, hC, rfl, hW, Nat.le_refl _⟩
/-- a step again and again -/
theorem q_remits_l2 {x : Int32} {w : Nat} (hw : w ≤ 160) : ∀ (t i f : Nat) (m : jMe) (l : List Int32), i + t = w → t < f → jzB b n m → jzK l m → ∃ m' l', c_X3_emitAll_l2 F f m 36 x (Int32.ofNat w) (Int32.ofNat i) = some m' ∧ jzFe m m' ∧ jzK l' m' ∧ (l.length + t ≤ 160 → l' = l ++ List.replicate t x) := by
  intro t
  induction t with
  | zero =>
    intro i f m l h1 h2 hB hK
    obtain ⟨f, rfl⟩ := jsucc h2
    refine ⟨m, l, ?_, jfx.rfl, hK, fun _ => (List.append_nil l).symm⟩
    show c_X3_emitAll_l2_b F _ m 36 x _ _ = _
    unfold c_X3_emitAll_l2_b
    rw [if_pos (ji_lep (by omega) (by omega) (by omega))]
  | succ t ih =>
    intro i f m l h1 h2 hB hK
    obtain ⟨f, rfl⟩ := jsucc h2
    obtain ⟨m1, l1, c1, c2, c3, c4⟩ := q_remit (F := F) (x := x) (w := 0) hB.1 hK
    obtain ⟨m2, l2, d1, d2, d3, d4⟩ := ih (i + 1) f m1 l1 (by omega) (by omega) (jzB_of (jzFe_F c2) hB) c3
    refine ⟨m2, l2, ?_, c2.trans d2, d3, fun h => ?_⟩
    · show c_X3_emitAll_l2_b F _ m 36 x _ _ = _
      unfold c_X3_emitAll_l2_b
      rw [if_neg (ji_len (by omega) (by omega) (by omega)), jgd_t hB.1.1, c1, jb_some, show Int32.ofNat i + 1 = Int32.ofNat (i + 1) from ji_add i 1]
      exact d1
    · have c4 := c4 (by omega)
      rw [jadd_0] at c4
      rw [d4 (by rw [c4, List.length_append, List.length_singleton]; omega), c4, List.append_assoc]
      rfl
theorem q_remits (hF : 1000 < F) {x : Int32} {w : Nat} (hw : w ≤ 160) {m : jMe} {l : List Int32} (hB : jzB b n m) (hK : jzK l m) : ∃ m' l', c_X3_emitAll F m 36 x (Int32.ofNat w) = some m' ∧ jzFe m m' ∧ jzK l' m' ∧ (l.length + w ≤ 160 → l' = l ++ List.replicate w x) := by
  obtain ⟨m', l', a1, a2⟩ := q_remits_l2 (F := F) (x := x) hw w 0 F m l (by omega) (by omega) hB hK
  refine ⟨m', l', ?_, a2⟩
  unfold c_X3_emitAll
  rw [show (0 : Int32) = Int32.ofNat 0 from rfl, a1, jb_some]
/-- a token again and again, what stands behind, and as many steps -/
theorem q_rnots (hF : 1000 < F) {lf : Nat → jMe → Int32 → Option (jMe × Nat × Int32 × Int32)} {tok op : Nat} {x : Int32} (hop : op ≤ 5) (hL : jzN1 F lf tok op) (h0 : tok ≠ 0) (ht1 : tok ≠ 1) {G : jMe → Nat → Int32 → Option jMe} {sub : Nat → jS0 → jzR} (hG : ∀ o, op ≤ o → o ≤ 5 → jzI F b n (fun m => G m 36 (Int32.ofNat o)) (sub o) ∧ jzJ F b n (fun m => G m 36 (Int32.ofNat o)) ∧ jzM n (sub o)) {g : jMe → Option jMe} (hg : ∀ m, g m = jb (lf F m (0 : Int32)) fun e7 => jgd (jK e7.1 e7.2.1 = 35) <| jb (G e7.1 e7.2.1 (e7.2.2.1 + e7.2.2.2)) fun t11 => jgd (jK t11 e7.2.1 = 35) <| jb (c_X3_emitAll F t11 e7.2.1 x e7.2.2.2) fun t14 => some t14) : jzI F b n g (fun s => jzbd (jzo (jzs b n) tok (5 - op) s) fun z => jzbd (sub (op + z.2) z.1) fun r => .inr (r.1, r.2 ++ List.replicate z.2 x)) ∧ jzJ F b n g := by
  constructor
  · intro m s l hB hC hK hW hl
    have hn160 := hB.2.2.1
    obtain ⟨m1, u, a1, a2, a3, a4⟩ := q_rn (b := b) (n := n) hF hL h0 ht1 (5 - op) 0 F m s (by omega) (by omega) hB hC hW
    have hB1 := jzB_of (jzFs_F a2) hB
    have hK1 := jzK_of a2 hK
    obtain ⟨i1, i2, i3⟩ := hG (op + u) (by omega) a3
    show ∃ m', g m = some m' ∧ jzQ l m m' (jzbd (jzo (jzs b n) tok (5 - op) s) fun z => jzbd (sub (op + z.2) z.1) fun r => .inr (r.1, r.2 ++ List.replicate z.2 x))
    rw [hg, show (0 : Int32) = Int32.ofNat 0 from rfl, a1, jb_some]
    dsimp only
    rw [jgd_t hB1.1.1, ji_add]
    have hend : ∀ (m2 : jMe) (l2 : List Int32) (p : Nat), jzF m m2 → jzB b n m2 → jzD p m2 → jzK l2 m2 → ∃ m', (jgd (jK m2 36 = 35) <| jb (c_X3_emitAll F m2 36 x (Int32.ofNat u)) fun t14 => some t14) = some m' ∧ jzQ l m m' (.inl p) := by
      intro m2 l2 p g1 g2 g3 g4
      obtain ⟨m3, l3, c1, c2, c3, -⟩ := q_remits (F := F) (x := x) (w := u) hF (by omega) g2 g4
      refine ⟨m3, ?_, g1.trans (jzFe_F c2), l3, c3, jzD_e c2 g3⟩
      rw [jgd_t g2.1.1, c1, jb_some]
    cases hz : jzo (jzs b n) tok (5 - op) s with
    | inl p =>
      rw [hz] at a4
      obtain ⟨m2, l2, b1, b2, b3, b4⟩ := i2 m1 p l hB1 a4 hK1
      have b1 : G m1 36 (Int32.ofNat (op + u)) = some m2 := b1
      rw [b1, jb_some]
      exact hend m2 l2 p ((jzFs_F a2).trans b2) (jzB_of b2 hB1) b3 b4
    | inr z =>
      rw [hz] at a4
      obtain ⟨c1, c2, c3, c4⟩ := a4
      have c2 : u = z.2 := by omega
      subst c2
      obtain ⟨m2, b1, b2, l2, b3, b4⟩ := i1 m1 z.1 l hB1 c1 hK1 c3 (by omega)
      have b1 : G m1 36 (Int32.ofNat (op + z.2)) = some m2 := b1
      have hB2 := jzB_of b2 hB1
      rw [b1, jb_some, jzbd_r]
      cases hr : sub (op + z.2) z.1 with
      | inl p =>
        rw [hr] at b4
        exact hend m2 l2 p ((jzFs_F a2).trans b2) hB2 b4 b3
      | inr r =>
        rw [hr] at b4
        obtain ⟨b4, b5⟩ := b4
        obtain ⟨w3, w4⟩ := i3 z.1 c3 r hr
        have hl2 : l2.length = l.length + r.2.length := by rw [b5, List.length_append]
        have hw5 := w3.1
        obtain ⟨m3, l3, d1, d2, d3, d4⟩ := q_remits (F := F) (x := x) (w := z.2) hF (by omega) hB2 b3
        have d4 := d4 (by omega)
        rw [jgd_t hB2.1.1, d1, jb_some, jzbd_r]
        refine ⟨m3, rfl, ((jzFs_F a2).trans b2).trans (jzFe_F d2), l3, d3, jzC_e d2 b4, ?_⟩
        rw [d4, b5, List.append_assoc]
  · intro m p l hB hD hK
    obtain ⟨i1, i2, i3⟩ := hG op (Nat.le_refl _) hop
    obtain ⟨m2, l2, b1, b2, b3, b4⟩ := i2 m p l hB hD hK
    have b1 : G m 36 (Int32.ofNat op) = some m2 := b1
    have hB2 := jzB_of b2 hB
    obtain ⟨m3, l3, d1, d2, d3, -⟩ := q_remits (F := F) (x := x) (w := 0) hF (by omega) hB2 b4
    refine ⟨m3, l3, ?_, b2.trans (jzFe_F d2), jzD_e d2 b3, d3⟩
    rw [hg, show (0 : Int32) = Int32.ofNat 0 from rfl, q_rn_d (b := b) (n := n) hL h0 (by omega) (by omega) hB hD, jb_some]
    show (jgd (jK m 36 = 35) <| jb (G m 36 (Int32.ofNat op + Int32.ofNat 0)) fun t11 => jgd (jK t11 36 = 35) <| jb (c_X3_emitAll F t11 36 x (Int32.ofNat 0)) fun t14 => some t14) = some m3
    rw [jgd_t hB.1.1, ji_add, Nat.add_zero, b1, jb_some, jgd_t hB2.1.1, d1, jb_some]
theorem q_n_denied {G : Nat → jMe → Nat → Int32 → Option jMe} {op : Nat} : jzN1 F (fun f m u => c_X3_readDenied_l2 F G f m 36 (Int32.ofNat op) u) 7 op := by
  intro f m u tk hu hT ht h256
  show c_X3_readDenied_l2_b F G _ m 36 (Int32.ofNat op) (Int32.ofNat u) = _
  unfold c_X3_readDenied_l2_b
  have h7 : (Int32.ofNat tk = 7) ↔ tk = 7 := ji_tk (k := 7) h256 (by omega)
  rw [jgd_t hT.1, ht, ji_add, show Int32.ofNat u + 1 = Int32.ofNat (u + 1) from ji_add u 1]
  by_cases e : tk = 7
  · rw [if_pos (h7.mpr e), if_pos e]
    by_cases q : 5 ≤ op + u
    · rw [if_pos (show (5 : Int32) ≤ Int32.ofNat (op + u) from ji_lep (a := 5) (by omega) (by omega) q), if_pos q]
    · rw [if_neg (show ¬ (5 : Int32) ≤ Int32.ofNat (op + u) from ji_len (a := 5) (by omega) (by omega) q), if_neg q]
  · rw [if_neg (fun h => e (h7.mp h)), if_neg e]
theorem q_n_one {G : Nat → jMe → Nat → Int32 → Option jMe} {op : Nat} : jzN1 F (fun f m u => c_X3_readOne_l2 F G f m 36 (Int32.ofNat op) u) 45 op := by
  intro f m u tk hu hT ht h256
  show c_X3_readOne_l2_b F G _ m 36 (Int32.ofNat op) (Int32.ofNat u) = _
  unfold c_X3_readOne_l2_b
  have h7 : (Int32.ofNat tk = 45) ↔ tk = 45 := ji_tk (k := 45) h256 (by omega)
  rw [jgd_t hT.1, ht, ji_add, show Int32.ofNat u + 1 = Int32.ofNat (u + 1) from ji_add u 1]
  by_cases e : tk = 45
  · rw [if_pos (h7.mpr e), if_pos e]
    by_cases q : 5 ≤ op + u
    · rw [if_pos (show (5 : Int32) ≤ Int32.ofNat (op + u) from ji_lep (a := 5) (by omega) (by omega) q), if_pos q]
    · rw [if_neg (show ¬ (5 : Int32) ≤ Int32.ofNat (op + u) from ji_len (a := 5) (by omega) (by omega) q), if_neg q]
  · rw [if_neg (fun h => e (h7.mp h)), if_neg e]
theorem q_rexpect (hF : 1000 < F) {m : jMe} {w : Nat} {l : List Int32} (hw : 0 < w ∧ w < 256) (hB : jzB b n m) (hK : jzK l m) (x : Nat ⊕ jS0) (hU : jzU m x) (hW : ∀ s, x = .inr s → jzW n s) : ∃ m', c_X3_expect F m 36 (Int32.ofNat w) = some m' ∧ jzFs m m' ∧ jzU m' (jzbd x (jzx (jzs b n) w)) ∧ (∀ s, jzbd x (jzx (jzs b n) w) = .inr s → jzW n s ∧ ∃ s0, x = .inr s0 ∧ s0.2.2.1 ≤ s.2.2.1) := by
  have hn160 := hB.2.2.1
  unfold c_X3_expect
  rw [jgd_t hB.1.1]
  cases x with
  | inl p =>
    have hU : jzD p m := hU
    obtain ⟨m', y1, y2, y3⟩ := q_rfail (F := F) hB.1 (p := p) hU.2.2 (Or.inr hU.2.1)
    rw [hU.1, if_neg (show ¬ (0 : Int32) = Int32.ofNat w from ji_eqn (a := 0) (by omega) (by omega) (by omega)), y1, jb_some]
    exact ⟨m', rfl, y2, y3, fun s h => by cases h⟩
  | inr s =>
    have hU : jzC s m := hU
    have hW := hW s rfl
    have hs1 := hW.1
    rw [hU.1, jzbd_r]
    unfold jzx
    have e1 : Int32.ofNat s.1 = Int32.ofNat w ↔ s.1 = w := ji_tk hW.2.2.2.2.1 hw.2
    by_cases e : s.1 = w
    · rw [if_pos (e1.mpr e), if_pos e]
      by_cases q : w = 1
      · rw [if_pos (show Int32.ofNat s.1 = 1 by rw [e, q]; rfl), if_pos q]
        exact ⟨m, rfl, jfx.rfl, hU, fun s' h => by cases h; exact ⟨hW, s, rfl, Nat.le_refl _⟩⟩
      · rw [if_neg (show ¬ Int32.ofNat s.1 = 1 from ji_eqn (b := 1) (by omega) (by omega) (by omega)), if_neg q]
        obtain ⟨m', a1, a2, a3⟩ := q_rstep hF hB hU.2.2.1 hW.2.1 hU.2.2.2.2
        rw [a1, jb_some]
        have hlt := hW.2.2.1 (by omega)
        refine ⟨m', rfl, a2, a3, fun s' h => ?_⟩
        obtain ⟨w1, w2⟩ := jzs_W hW.2.1 h
        exact ⟨w1, s, rfl, by omega⟩
    · rw [if_neg (fun h => e (e1.mp h)), if_neg e]
      obtain ⟨m', y1, y2, y3⟩ := q_rfail (F := F) hB.1 (p := s.2.2.1) (by omega) (Or.inl ⟨hU.2.2.2.2, hU.2.1⟩)
      rw [y1, jb_some]
      exact ⟨m', rfl, y2, y3, fun s' h => by cases h⟩
theorem q_rcomp (hF : 1000 < F) {G : Nat → jMe → Nat → Int32 → Option jMe} {y : Int32} {sub : jS0 → jzR} (hI : jzI F b n (fun m => G 4 m 36 y) sub) (hJ : jzJ F b n (fun m => G 4 m 36 y)) (hM : jzM n sub) : jzI F b n (fun m => c_X3_readCompared_b F G m 36 y) (fun s => jzbd (sub s) fun r => if r.1.1 = 60 ∨ r.1.1 = 61 then jzbd (jzs b n r.1.2.2.2) fun s1 => jzbd (sub s1) fun r2 => .inr (r2.1, r.2 ++ (r2.2 ++ [if r.1.1 = 60 then 8 else 9])) else .inr r) ∧ jzJ F b n (fun m => c_X3_readCompared_b F G m 36 y) := by
  constructor
  · intro m s l hB hC hK hW hl
    show ∃ m', c_X3_readCompared_b F G m 36 y = some m' ∧ jzQ l m m' (jzbd (sub s) fun r => if r.1.1 = 60 ∨ r.1.1 = 61 then jzbd (jzs b n r.1.2.2.2) fun s1 => jzbd (sub s1) fun r2 => .inr (r2.1, r.2 ++ (r2.2 ++ [if r.1.1 = 60 then 8 else 9])) else .inr r)
    unfold c_X3_readCompared_b c_X3_readCompared_j23 c_X3_readCompared_j39
    obtain ⟨m1, a1, a2, l1, a3, a4⟩ := hI m s l hB hC hK hW hl
    have a1 : G 4 m 36 y = some m1 := a1
    have hB1 := jzB_of a2 hB
    rw [jgd_t hB.1.1, a1, jb_some]
    simp only [jgd_t hB1.1.1]
    cases hr : sub s with
    | inl p =>
      rw [hr] at a4
      rw [a4.1, if_neg (by decide), if_neg (by decide)]
      exact ⟨m1, rfl, a2, l1, a3, a4⟩
    | inr r =>
      rw [hr] at a4
      obtain ⟨w1, w2⟩ := hM s hW r hr
      obtain ⟨a4, a5⟩ := a4
      have h60 : (Int32.ofNat r.1.1 = 60) ↔ r.1.1 = 60 := ji_tk (k := 60) w1.2.2.2.2.1 (by omega)
      have h61 : (Int32.ofNat r.1.1 = 61) ↔ r.1.1 = 61 := ji_tk (k := 61) w1.2.2.2.2.1 (by omega)
      rw [a4.1, jzbd_r]
      have hl1 : l1.length ≤ r.1.2.2.1 := by rw [a5, List.length_append]; omega
      have hgo : ∀ x : Int32, r.1.1 = 60 ∨ r.1.1 = 61 → x = (if r.1.1 = 60 then 8 else 9) → ∃ m', (jb (c_X3_step F m1 36) fun t10 => jgd (jK t10 36 = 35) <| jb (G 4 t10 36 y) fun t13 => jgd (jK t13 36 = 35) <| jb (c_X3_emit F t13 36 x (0 : Int32)) fun t16 => some t16) = some m' ∧ jzQ l m m' (jzbd (jzs b n r.1.2.2.2) fun s1 => jzbd (sub s1) fun r2 => .inr (r2.1, r.2 ++ (r2.2 ++ [if r.1.1 = 60 then 8 else 9]))) := by
        intro x hor hx
        obtain ⟨m2, b1, b2, l2, b3, b4⟩ := q_rpre (x := x) hF hI hJ hM hB1 a4 a3 w1 hl1 (by omega)
        refine ⟨m2, b1, a2.trans b2, l2, b3, ?_⟩
        rw [← hx]
        cases hs : jzs b n r.1.2.2.2 with
        | inl p =>
          rw [hs] at b4
          exact b4
        | inr s1 =>
          rw [hs, jzbd_r] at b4
          rw [jzbd_r]
          cases hr2 : sub s1 with
          | inl p =>
            rw [hr2] at b4
            exact b4
          | inr r2 =>
            rw [hr2, jzbd_r] at b4
            rw [jzbd_r]
            refine ⟨b4.1, ?_⟩
            rw [b4.2, a5, List.append_assoc]
      by_cases e : r.1.1 = 60
      · rw [if_pos (h60.mpr e), if_pos (h60.mpr e), if_pos (show r.1.1 = 60 ∨ r.1.1 = 61 from Or.inl e)]
        exact hgo 8 (Or.inl e) (by rw [if_pos e])
      · rw [if_neg (fun h => e (h60.mp h))]
        by_cases e2 : r.1.1 = 61
        · rw [if_pos (h61.mpr e2), if_neg (fun h => e (h60.mp h)), if_pos (show r.1.1 = 60 ∨ r.1.1 = 61 from Or.inr e2)]
          exact hgo 9 (Or.inr e2) (by rw [if_neg e])
        · rw [if_neg (fun h => e2 (h61.mp h)), if_neg (show ¬ (r.1.1 = 60 ∨ r.1.1 = 61) by omega)]
          exact ⟨m1, rfl, a2, l1, a3, a4, a5⟩
  · intro m p l hB hD hK
    obtain ⟨m1, l1, a1, a2, a3, a4⟩ := hJ m p l hB hD hK
    have a1 : G 4 m 36 y = some m1 := a1
    have hB1 := jzB_of a2 hB
    refine ⟨m1, l1, ?_, a2, a3, a4⟩
    show c_X3_readCompared_b F G m 36 y = some m1
    unfold c_X3_readCompared_b
    rw [jgd_t hB.1.1, a1, jb_some, jgd_t hB1.1.1, a3.1, if_neg (by decide), if_neg (by decide)]
theorem jshl_w : ∀ w, w < 10000 → jshl (Int32.ofNat w) (4 : Int32) = Int32.ofNat (16 * w) := by
  intro w hw
  have h1 : (jshl (Int32.ofNat w) (4 : Int32)).toUInt32.toNat = (Int32.ofNat (16 * w)).toUInt32.toNat := by
    rw [jtn_of (by omega)]
    show (jshl (Int32.ofNat w) (4 : Int32)).toBitVec.toNat = 16 * w
    unfold jshl
    rw [Int32.toBitVec_shiftLeft, show (((4 : Int32) &&& 31).toBitVec.smod 32) = 4#32 from by decide, BitVec.shiftLeft_eq', BitVec.toNat_shiftLeft]
    show (w % 2 ^ 32) <<< 4 % 2 ^ 32 = 16 * w
    rw [Nat.mod_eq_of_lt (show w < 2 ^ 32 by omega), Nat.shiftLeft_eq, Nat.mod_eq_of_lt (by omega)]
    omega
  exact jtn_inj h1
theorem q_rplain (hF : 1000 < F) {G : Nat → jMe → Nat → Int32 → Option jMe} {op : Nat} (hop : op ≤ 5) (h0 : op < 5 → jzI F b n (fun m => G 0 m 36 (Int32.ofNat (op + 1))) (jzP b n 0 (op + 1)) ∧ jzJ F b n (fun m => G 0 m 36 (Int32.ofNat (op + 1))) ∧ jzM n (jzP b n 0 (op + 1))) : jzI F b n (fun m => c_X3_readPlain_b F G m 36 (Int32.ofNat op)) (jzPl b n op) ∧ jzJ F b n (fun m => c_X3_readPlain_b F G m 36 (Int32.ofNat op)) := by
  constructor
  · intro m s l hB hC hK hW hl
    show ∃ m', c_X3_readPlain_b F G m 36 (Int32.ofNat op) = some m' ∧ jzQ l m m' (jzPl b n op s)
    unfold c_X3_readPlain_b c_X3_readPlain_j16 c_X3_readPlain_j78 c_X3_readPlain_j30 jzPl
    simp only [jgd_t hB.1.1]
    have hn160 := hB.2.2.1
    have t2 : (Int32.ofNat s.1 = 2) ↔ s.1 = 2 := ji_tk (k := 2) hW.2.2.2.2.1 (by omega)
    have t3 : (Int32.ofNat s.1 = 3) ↔ s.1 = 3 := ji_tk (k := 3) hW.2.2.2.2.1 (by omega)
    have t40 : (Int32.ofNat s.1 = 40) ↔ s.1 = 40 := ji_tk (k := 40) hW.2.2.2.2.1 (by omega)
    have hfl : ∃ m', (jb (c_X3_fail F m 36) fun t16 => some t16) = some m' ∧ jzQ l m m' (.inl s.2.2.1) := by
      obtain ⟨m', y1, y2⟩ := q_rfault (F := F) hB hC hK hW
      exact ⟨m', by rw [y1, jb_some], y2⟩
    have hgo : ∀ o : Nat, o = s.1 - 2 → s.1 = 2 ∨ s.1 = 3 → ∃ m', (jb (c_X3_emit F m 36 (Int32.ofNat o) (jI m 36 7)) fun t8 => jgd (jK t8 36 = 35) <| jb (c_X3_step F t8 36) fun t11 => some t11) = some m' ∧ jzQ l m m' (jzbd (jzs b n s.2.2.2) fun s1 => .inr (s1, [Int32.ofNat (s.1 - 2 + 16 * s.2.1)])) := by
      intro o ho h23
      have hlt := hW.2.2.1 (by omega)
      have hw2 := hW.2.1
      have hw6 := hW.2.2.2.2.2
      obtain ⟨m1, l1, c1, c2, c3, c4⟩ := q_remit (F := F) (x := Int32.ofNat o) (w := jI m 36 7) hB.1 hK
      have c4 := c4 (by omega)
      rw [hC.2.2.2.1 h23, jshl_w _ hw6, ji_add, ho] at c4
      have hB1 := jzB_of (jzFe_F c2) hB
      have hC1 := jzC_e c2 hC
      obtain ⟨m2, a1, a2, a3⟩ := q_rstep hF hB1 hC1.2.2.1 hw2 hC1.2.2.2.2
      rw [c1, jb_some, jgd_t hB1.1.1, a1, jb_some]
      refine ⟨m2, rfl, (jzFe_F c2).trans (jzFs_F a2), l1, jzK_of a2 c3, ?_⟩
      cases hs : jzs b n s.2.2.2 with
      | inl p =>
        rw [hs] at a3
        exact a3
      | inr s1 =>
        rw [hs] at a3
        exact ⟨a3, c4⟩
    rw [hC.1]
    by_cases e2 : s.1 = 2
    · rw [if_pos (t2.mpr e2), if_pos (t2.mpr e2), if_pos (show s.1 = 2 ∨ s.1 = 3 from Or.inl e2)]
      exact hgo 0 (by omega) (Or.inl e2)
    · rw [if_neg (fun h => e2 (t2.mp h)), if_neg (fun h => e2 (t2.mp h))]
      by_cases e3 : s.1 = 3
      · rw [if_pos (t3.mpr e3), if_pos (show s.1 = 2 ∨ s.1 = 3 from Or.inr e3)]
        exact hgo 1 (by omega) (Or.inr e3)
      · rw [if_neg (fun h => e3 (t3.mp h)), if_neg (show ¬ (s.1 = 2 ∨ s.1 = 3) by omega)]
        by_cases e40 : s.1 = 40
        · rw [if_pos (t40.mpr e40), if_pos e40]
          by_cases q : op < 5
          · obtain ⟨i1, i2, i3⟩ := h0 q
            rw [if_neg (show ¬ (5 : Int32) ≤ Int32.ofNat op from ji_len (a := 5) (by omega) (by omega) (by omega)), if_pos q, show Int32.ofNat op + 1 = Int32.ofNat (op + 1) from ji_add op 1]
            have hlt := hW.2.2.1 (by omega)
            have hw2 := hW.2.1
            obtain ⟨m1, a1, a2, a3⟩ := q_rstep hF hB hC.2.2.1 hw2 hC.2.2.2.2
            have hB1 := jzB_of (jzFs_F a2) hB
            have hK1 := jzK_of a2 hK
            rw [a1, jb_some, jgd_t hB1.1.1]
            have hex : ∀ (m2 : jMe) (l2 : List Int32) (y : Nat ⊕ jS0) (c : List Int32), jzF m m2 → jzB b n m2 → jzU m2 y → jzK l2 m2 → (∀ s, y = .inr s → jzW n s ∧ l2 = l ++ c) → ∃ m', (jgd (jK m2 36 = 35) <| jb (c_X3_expect F m2 36 (41 : Int32)) fun t25 => some t25) = some m' ∧ jzQ l m m' (jzbd (jzbd y (jzx (jzs b n) 41)) fun s2 => .inr (s2, c)) := by
              intro m2 l2 y c g1 g2 g3 g4 g5
              obtain ⟨m3, c1, c2, c3, c4⟩ := q_rexpect (w := 41) hF (by omega) g2 g4 y g3 (fun s h => (g5 s h).1)
              have c1 : c_X3_expect F m2 36 (41 : Int32) = some m3 := c1
              refine ⟨m3, by rw [jgd_t g2.1.1, c1, jb_some], g1.trans (jzFs_F c2), l2, jzK_of c2 g4, ?_⟩
              cases hy : jzbd y (jzx (jzs b n) 41) with
              | inl p =>
                rw [hy] at c3
                exact c3
              | inr s2 =>
                rw [hy] at c3 c4
                obtain ⟨-, s0, d1, -⟩ := c4 s2 rfl
                exact ⟨c3, (g5 s0 d1).2⟩
            cases hs : jzs b n s.2.2.2 with
            | inl p =>
              rw [hs] at a3
              obtain ⟨m2, l2, b1, b2, b3, b4⟩ := i2 m1 p l hB1 a3 hK1
              have b1 : G 0 m1 36 (Int32.ofNat (op + 1)) = some m2 := b1
              rw [b1, jb_some]
              exact hex m2 l2 (.inl p) [] ((jzFs_F a2).trans b2) (jzB_of b2 hB1) b3 b4 (fun s h => by cases h)
            | inr s1 =>
              rw [hs] at a3
              obtain ⟨w1, w2⟩ := jzs_W hw2 hs
              obtain ⟨m2, b1, b2, l2, b3, b4⟩ := i1 m1 s1 l hB1 a3 hK1 w1 (by omega)
              have b1 : G 0 m1 36 (Int32.ofNat (op + 1)) = some m2 := b1
              have hB2 := jzB_of b2 hB1
              rw [b1, jb_some, jzbd_r]
              cases hr : jzP b n 0 (op + 1) s1 with
              | inl p =>
                rw [hr] at b4
                exact hex m2 l2 (.inl p) [] ((jzFs_F a2).trans b2) hB2 b4 b3 (fun s h => by cases h)
              | inr r =>
                rw [hr] at b4
                obtain ⟨b4, b5⟩ := b4
                obtain ⟨w3, w4⟩ := i3 s1 w1 r hr
                rw [jzbd_r]
                exact hex m2 l2 (.inr r.1) r.2 ((jzFs_F a2).trans b2) hB2 b4 b3 (fun s h => by cases h; exact ⟨w3, b5⟩)
          · rw [if_pos (show (5 : Int32) ≤ Int32.ofNat op from ji_lep (a := 5) (by omega) (by omega) (by omega)), if_neg q]
            exact hfl
        · rw [if_neg (fun h => e40 (t40.mp h)), if_neg e40]
          exact hfl
  · intro m p l hB hD hK
    obtain ⟨m1, l1, a1, a2⟩ := q_rfault_d (F := F) hB hD hK
    refine ⟨m1, l1, ?_, a2⟩
    show c_X3_readPlain_b F G m 36 (Int32.ofNat op) = some m1
    unfold c_X3_readPlain_b c_X3_readPlain_j78
    rw [jgd_t hB.1.1, hD.1, if_neg (by decide), if_neg (by decide), if_neg (by decide), jgd_t hB.1.1, a1, jb_some]
theorem jzPl_M {op : Nat} : jzM n (jzPl b n op) := by
  have hP := jzp_M (n := n) (st := jzs b n) jzs_Ms 64 0 (op + 1)
  intro s hw r h
  unfold jzPl at h
  split at h
  · rename_i h23
    obtain ⟨s1, e1, h⟩ := jzbd_some h
    cases h
    obtain ⟨a1, a2⟩ := jzs_W hw.2.1 e1
    have := hw.2.2.1 (by omega)
    exact ⟨a1, by show s.2.2.1 + 1 ≤ s1.2.2.1; omega⟩
  split at h
  · rename_i h40
    split at h
    · obtain ⟨s1, e1, h⟩ := jzbd_some h
      obtain ⟨r1, e2, h⟩ := jzbd_some h
      obtain ⟨s2, e3, h⟩ := jzbd_some h
      cases h
      obtain ⟨a1, a2⟩ := jzs_W hw.2.1 e1
      obtain ⟨b1, b2⟩ := hP s1 a1 r1 e2
      have := hw.2.2.1 (by omega)
      unfold jzx at e3
      split at e3
      · rename_i q41
        rw [if_neg (by decide)] at e3
        obtain ⟨c1, c2⟩ := jzs_W b1.2.1 e3
        have := b1.2.2.1 (by omega)
        exact ⟨c1, by show s.2.2.1 + r1.2.length ≤ s2.2.2.1; omega⟩
      · cases e3
    · cases h
  · cases h
theorem jzQq_M {lv op : Nat} : jzM n (jzQq b n lv op) := by
  unfold jzQq
  split
  · exact jzPl_M
  · exact jzp_M (n := n) (st := jzs b n) jzs_Ms 64 lv op
theorem jzQq_n {lv op : Nat} (h : lv ≠ 7) : jzQq b n lv op = jzP b n lv op := if_neg h
theorem q_rlev (hF : 1000 < F) : ∀ (k lv op : Nat), lv ≤ 7 → op ≤ 5 → 8 * (5 - op) + (8 - lv) ≤ k → jzI F b n (fun m => c_X3_readEither_s F k lv m 36 (Int32.ofNat op)) (jzQq b n lv op) ∧ jzJ F b n (fun m => c_X3_readEither_s F k lv m 36 (Int32.ofNat op)) := by
  intro k
  induction k with
  | zero => intro lv op h1 h2 h3; omega
  | succ k ih =>
    intro lv op h1 h2 h3
    have hM := fun lv op => jzQq_M (n := n) (b := b) (lv := lv) (op := op)
    rcases (by omega : lv = 0 ∨ lv = 1 ∨ lv = 2 ∨ lv = 3 ∨ lv = 4 ∨ lv = 5 ∨ lv = 6 ∨ lv = 7) with rfl | rfl | rfl | rfl | rfl | rfl | rfl | rfl
    · obtain ⟨i1, i2⟩ := ih 1 op (by omega) h2 (by omega)
      have hM := hM 1 op
      rw [jzQq_n (by decide)] at i1 hM
      rw [jzQq_n (by decide), jzP_b (by omega) h2]
      exact q_rbin hF (q_l_either (G := fun q m x0 x1 => c_X3_readEither_s F k q m x0 x1)) i1 i2 hM
    · obtain ⟨i1, i2⟩ := ih 2 op (by omega) h2 (by omega)
      have hM := hM 2 op
      rw [jzQq_n (by decide)] at i1 hM
      rw [jzQq_n (by decide), jzP_b (by omega) h2]
      exact q_rbin hF (q_l_both (G := fun q m x0 x1 => c_X3_readEither_s F k q m x0 x1)) i1 i2 hM
    · have e : jzQq b n 2 op = fun s => jzbd (jzo (jzs b n) 7 (5 - op) s) fun z => jzbd (jzQq b n 3 (op + z.2) z.1) fun r => .inr (r.1, r.2 ++ List.replicate z.2 3) := by
        funext s
        rw [jzQq_n (by decide)]
        simp only [show ∀ o, jzQq b n 3 o = jzP b n 3 o from fun o => jzQq_n (by decide)]
        exact jzo_e (A := fun o s => jzP b n 2 o s) (B := fun o s => jzP b n 3 o s) (fun o s ho => jzP_2 ho) (fun s h => jzP_7 h) (5 - op) op s (by omega)
      rw [e]
      exact q_rnots (x := 3) (sub := fun o => jzQq b n 3 o) (G := fun m x0 x1 => c_X3_readEither_s F k 3 m x0 x1) hF h2 (q_n_denied (G := fun q m x0 x1 => c_X3_readEither_s F k q m x0 x1)) (by decide) (by decide) (fun o g1 g2 => by
        obtain ⟨j1, j2⟩ := ih 3 o (by omega) g2 (by omega)
        exact ⟨j1, j2, hM 3 o⟩) (fun m => rfl)
    · obtain ⟨i1, i2⟩ := ih 4 op (by omega) h2 (by omega)
      have hM := hM 4 op
      rw [jzQq_n (by decide)] at i1 hM
      rw [jzQq_n (by decide), jzP_3 h2]
      exact q_rcomp (G := fun q m x0 x1 => c_X3_readEither_s F k q m x0 x1) hF i1 i2 hM
    · obtain ⟨i1, i2⟩ := ih 5 op (by omega) h2 (by omega)
      have hM := hM 5 op
      rw [jzQq_n (by decide)] at i1 hM
      rw [jzQq_n (by decide), jzP_b (by omega) h2]
      exact q_rbin hF (q_l_sum (G := fun q m x0 x1 => c_X3_readEither_s F k q m x0 x1)) i1 i2 hM
    · obtain ⟨i1, i2⟩ := ih 6 op (by omega) h2 (by omega)
      have hM := hM 6 op
      rw [jzQq_n (by decide)] at i1 hM
      rw [jzQq_n (by decide), jzP_b (by omega) h2]
      exact q_rbin hF (q_l_term (G := fun q m x0 x1 => c_X3_readEither_s F k q m x0 x1)) i1 i2 hM
    · have e : jzQq b n 6 op = fun s => jzbd (jzo (jzs b n) 45 (5 - op) s) fun z => jzbd (jzQq b n 7 (op + z.2) z.1) fun r => .inr (r.1, r.2 ++ List.replicate z.2 2) := by
        funext s
        rw [jzQq_n (by decide)]
        exact jzo_e (A := fun o s => jzP b n 6 o s) (B := fun o s => jzPl b n o s) (fun o s ho => jzP_6 ho) (fun s h => jzPl_45 h) (5 - op) op s (by omega)
      rw [e]
      exact q_rnots (x := 2) (sub := fun o => jzQq b n 7 o) (G := fun m x0 x1 => c_X3_readEither_s F k 7 m x0 x1) hF h2 (q_n_one (G := fun q m x0 x1 => c_X3_readEither_s F k q m x0 x1)) (by decide) (by decide) (fun o g1 g2 => by
        obtain ⟨j1, j2⟩ := ih 7 o (by omega) g2 (by omega)
        exact ⟨j1, j2, hM 7 o⟩) (fun m => rfl)
    · exact q_rplain (G := fun q m x0 x1 => c_X3_readEither_s F k q m x0 x1) hF h2 (fun q => by
        obtain ⟨j1, j2⟩ := ih 0 (op + 1) (by omega) (by omega) (by omega)
        have hM := hM 0 (op + 1)
        rw [jzQq_n (by decide)] at j1 hM
        exact ⟨j1, j2, hM⟩)
/-- a text is read: its fault, or its steps -/
theorem q_rread (hF : 1000 < F) {m : jMe} (hT : jzT m) (hn : jI m 36 2 = Int32.ofNat n) (hn160 : n ≤ 160) (hb : ∀ i, i < n → jI m 37 i = Int32.ofNat (b i) ∧ b i < 256) : ∃ m', c_X3_read F m 36 = some (match jzrd b n with | .inl p => Int32.ofNat p | .inr _ => -1, m') ∧ jfx (fun a _ => a = 36 ∨ a = 38) m m' ∧ jI m' 36 2 = 0 ∧ (∀ p, jzrd b n = .inl p → p ≤ 160) ∧ (∀ l, jzrd b n = .inr l → jI m' 36 3 = Int32.ofNat l.length ∧ l.length ≤ 160 ∧ ∀ i, i < l.length → jI m' 38 i = l.getD i 0) := by
  have hB : jzB b n m := ⟨hT, hn, hn160, hb⟩
  unfold c_X3_read
  generalize hm0 : jsI (jsI (jsI m 36 4 (0 : Int32)) 36 3 (0 : Int32)) 36 8 (-1 : Int32) = m0
  have f0 : jzF m m0 := by
    rw [← hm0]
    exact ((jfx_I (S := fun a i => (a = 36 ∧ i ≠ 2) ∨ a = 38) (Or.inl ⟨rfl, by omega⟩)).trans (jfx_I (Or.inl ⟨rfl, by omega⟩))).trans (jfx_I (Or.inl ⟨rfl, by omega⟩))
  have hB0 := jzB_of f0 hB
  have g4 : jI m0 36 4 = Int32.ofNat 0 := by rw [← hm0, jsI_no (by omega), jsI_no (by omega), jsI_y]; rfl
  have g3 : jI m0 36 3 = 0 := by rw [← hm0, jsI_no (by omega), jsI_y]
  have g8 : jI m0 36 8 = -1 := by rw [← hm0, jsI_y]
  have hK0 : jzK [] m0 := ⟨g3, by decide, fun i hi => by cases hi⟩
  obtain ⟨m1, a1, a2, a3⟩ := q_rstep hF hB0 g4 (Nat.zero_le _) g8
  have hB1 := jzB_of (jzFs_F a2) hB0
  have hK1 := jzK_of a2 hK0
  have hW1 : ∀ s, jzs b n 0 = .inr s → jzW n s := fun s h => (jzs_W (Nat.zero_le _) h).1
  obtain ⟨m2, b1, b2, b3, b4⟩ := q_rexpect (w := 4) hF (by omega) hB1 hK1 _ a3 hW1
  have hB2 := jzB_of (jzFs_F b2) hB1
  have hK2 := jzK_of b2 hK1
  obtain ⟨i1, i2⟩ := q_rlev (F := F) (b := b) (n := n) hF 64 0 0 (by omega) (by omega) (by omega)
  have i1 : jzI F b n (fun m => c_X3_readEither_s F 64 0 m 36 (Int32.ofNat 0)) (jzp (jzs b n) 64 0 0) := i1
  have hM := jzp_M (n := n) (st := jzs b n) jzs_Ms 64 0 0
  have hmid : ∃ m3 l3, c_X3_readEither_s F 64 0 m2 36 (0 : Int32) = some m3 ∧ jzF m2 m3 ∧ jzK l3 m3 ∧ (match jzbd (jzbd (jzs b n 0) (jzx (jzs b n) 4)) (jzp (jzs b n) 64 0 0) with | .inl p => jzD p m3 | .inr r => jzC r.1 m3 ∧ jzW n r.1 ∧ l3 = r.2) := by
    cases hx : jzbd (jzs b n 0) (jzx (jzs b n) 4) with
    | inl p =>
      rw [hx] at b3
      obtain ⟨m3, l3, c1, c2, c3, c4⟩ := i2 m2 p [] hB2 b3 hK2
      exact ⟨m3, l3, c1, c2, c4, c3⟩
    | inr s =>
      rw [hx] at b3 b4
      obtain ⟨w1, -⟩ := b4 s rfl
      obtain ⟨m3, c1, c2, l3, c3, c4⟩ := i1 m2 s [] hB2 b3 hK2 w1 (Nat.zero_le _)
      refine ⟨m3, l3, c1, c2, c3, ?_⟩
      rw [jzbd_r]
      cases hr : jzp (jzs b n) 64 0 0 s with
      | inl p =>
        rw [hr] at c4
        exact c4
      | inr r =>
        rw [hr] at c4
        exact ⟨c4.1, (hM s w1 r hr).1, c4.2⟩
  obtain ⟨m3, l3, c1, c2, c3, c4⟩ := hmid
  have hB3 := jzB_of c2 hB2
  have hrd : jzrd b n = jzbd (jzbd (jzbd (jzs b n 0) (jzx (jzs b n) 4)) (jzp (jzs b n) 64 0 0)) fun r => jzbd (jzbd (jzbd (.inr r.1) (jzx (jzs b n) 59)) (jzx (jzs b n) 1)) fun _ => .inr r.2 := by
    unfold jzrd
    cases jzs b n 0 with
    | inl p => rfl
    | inr s =>
      rw [jzbd_r, jzbd_r]
      cases jzx (jzs b n) 4 s with
      | inl p => rfl
      | inr s1 =>
        rw [jzbd_r, jzbd_r]
        cases jzp (jzs b n) 64 0 0 s1 with
        | inl p => rfl
        | inr r =>
          rw [jzbd_r, jzbd_r, jzbd_r]
          cases jzx (jzs b n) 59 r.1 with
          | inl p => rfl
          | inr s2 => rfl
  have hy : ∃ x : Nat ⊕ jS0, jzU m3 x ∧ (∀ s, x = .inr s → jzW n s) ∧ ((∃ p, x = .inl p ∧ jzrd b n = .inl p) ∨ ∃ r : jS0 × List Int32, x = .inr r.1 ∧ l3 = r.2 ∧ jzrd b n = jzbd (jzbd (jzbd (.inr r.1) (jzx (jzs b n) 59)) (jzx (jzs b n) 1)) fun _ => .inr r.2) := by
    cases hz : jzbd (jzbd (jzs b n 0) (jzx (jzs b n) 4)) (jzp (jzs b n) 64 0 0) with
    | inl p =>
      rw [hz] at c4 hrd
      exact ⟨.inl p, c4, fun s h => (by cases h), Or.inl ⟨p, rfl, hrd⟩⟩
    | inr r =>
      rw [hz] at c4 hrd
      exact ⟨.inr r.1, c4.1, fun s h => (by cases h; exact c4.2.1), Or.inr ⟨r, rfl, c4.2.2, hrd⟩⟩
  obtain ⟨x, x1, x2, x3⟩ := hy
  obtain ⟨m4, d1, d2, d3, d4⟩ := q_rexpect (w := 59) hF (by omega) hB3 c3 x x1 x2
  have hB4 := jzB_of (jzFs_F d2) hB3
  have hK4 := jzK_of d2 c3
  obtain ⟨m5, e1, e2, e3, e4⟩ := q_rexpect (w := 1) hF (by omega) hB4 hK4 _ d3 (fun s h => (d4 s h).1)
  have hB5 := jzB_of (jzFs_F e2) hB4
  have hK5 := jzK_of e2 hK4
  refine ⟨jsI m5 36 2 0, ?_, ?_, ?_, ?_, ?_⟩
  · rw [jgd_t hT.1, a1, jb_some, jgd_t hB1.1.1, show (4 : Int32) = Int32.ofNat 4 from rfl, b1, jb_some, jgd_t hB2.1.1, c1, jb_some, jgd_t hB3.1.1, show (59 : Int32) = Int32.ofNat 59 from rfl, d1, jb_some, jgd_t hB4.1.1, show (1 : Int32) = Int32.ofNat 1 from rfl, e1, jb_some, jgd_t hB5.1.1, jsI_no (by omega)]
    rcases x3 with ⟨p, rfl, h2⟩ | ⟨r, rfl, h2, h3⟩
    · rw [h2]
      have e3 : jzD p m5 := e3
      rw [e3.2.1]
    · rw [h3]
      cases hx : jzbd (jzbd (.inr r.1) (jzx (jzs b n) 59)) (jzx (jzs b n) 1) with
      | inl p =>
        rw [hx] at e3
        have e3 : jzD p m5 := e3
        rw [e3.2.1]
        rfl
      | inr s =>
        rw [hx] at e3
        have e3 : jzC s m5 := e3
        rw [e3.2.2.2.2]
        rfl
  · have h1 : jzF m m5 := (((((f0.trans (jzFs_F a2)).trans (jzFs_F b2)).trans c2).trans (jzFs_F d2)).trans (jzFs_F e2))
    exact (h1.weak (fun a i h => by omega)).trans (jfx_I (Or.inl rfl))
  · rw [jsI_y]
  · intro p hp
    rcases x3 with ⟨p', rfl, h2⟩ | ⟨r, rfl, h2, h3⟩
    · rw [h2] at hp
      cases hp
      have e3 : jzD p m5 := e3
      exact e3.2.2
    · rw [h3] at hp
      cases hx : jzbd (jzbd (.inr r.1) (jzx (jzs b n) 59)) (jzx (jzs b n) 1) with
      | inl p' =>
        rw [hx] at e3 hp
        cases hp
        have e3 : jzD p m5 := e3
        exact e3.2.2
      | inr s =>
        rw [hx] at hp
        cases hp
  · intro l hl
    rcases x3 with ⟨p', rfl, h2⟩ | ⟨r, rfl, h2, h3⟩
    · rw [h2] at hl
      cases hl
    · rw [h3] at hl
      cases hx : jzbd (jzbd (.inr r.1) (jzx (jzs b n) 59)) (jzx (jzs b n) 1) with
      | inl p' =>
        rw [hx] at hl
        cases hl
      | inr s =>
        rw [hx] at hl
        cases hl
        rw [← h2]
        refine ⟨?_, hK5.2.1, fun i hi => ?_⟩
        · rw [jsI_no (by omega)]
          exact hK5.1
        · rw [jsI_no (by omega)]
          exact hK5.2.2 i hi
end RLEV
