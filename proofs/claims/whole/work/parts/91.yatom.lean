/-! the reference's reader: ones, what is denied or compared -/
section YATOM
variable {F t : Nat} {b : Nat → Nat} {n r k : Nat} {f : Nat → Int32} {cp : Int32}
theorem jzV_mono' {e : Int32 → Int32} {c : List Int32} {h h' : Nat} {v : Int32} (q : jzV e c h v) (hh : h ≤ h') : jzV e c h' v := q.mono hh
theorem y_atom (hF : 1000 < F) {G : Nat → jMe → Nat → Option (Int32 × jMe)} {op H H6 H0 : Nat} (hop : op ≤ 5) (hH : 1 ≤ H) {sub6 sub0 : jS0 → jzR} (h6 : op < 5 → jyI F t b n r k f cp (fun m => G 0 m 101) sub6 (op + 1) H6 ∧ jyJ F t b n r k f cp (fun m => G 0 m 101) (op + 1) ∧ H6 ≤ H) (h0 : op < 5 → jyI F t b n r k f cp (fun m => G 5 m 101) sub0 (op + 1) H0 ∧ jyJ F t b n r k f cp (fun m => G 5 m 101) (op + 1) ∧ jzM n sub0 ∧ H0 ≤ H) : jyI F t b n r k f cp (fun m => c_X10_atom_b F G m 101) (fun s => if s.1 = 2 ∨ s.1 = 3 then jzbd (jzs b n s.2.2.2) fun s1 => .inr (s1, [Int32.ofNat (s.1 - 2 + 16 * s.2.1)])
    else if s.1 = 45 then (if op < 5 then jzbd (jzs b n s.2.2.2) fun s1 => jzbd (sub6 s1) fun r => .inr (r.1, r.2 ++ [2]) else .inl s.2.2.1)
    else if s.1 = 40 then (if op < 5 then jzbd (jzs b n s.2.2.2) fun s1 => jzbd (sub0 s1) fun r => if r.1.1 = 41 then jzbd (jzs b n r.1.2.2.2) fun s2 => .inr (s2, r.2) else .inl r.1.2.2.1 else .inl s.2.2.1)
    else .inl s.2.2.1) op H := by
  intro m s hB hE hC h23 hW
  show ∃ v m', c_X10_atom_b F G m 101 = some (v, m') ∧ jyF m m' ∧ jI m' 101 23 = Int32.ofNat op ∧ match (if s.1 = 2 ∨ s.1 = 3 then jzbd (jzs b n s.2.2.2) fun s1 => .inr (s1, [Int32.ofNat (s.1 - 2 + 16 * s.2.1)])
    else if s.1 = 45 then (if op < 5 then jzbd (jzs b n s.2.2.2) fun s1 => jzbd (sub6 s1) fun r => .inr (r.1, r.2 ++ [2]) else .inl s.2.2.1)
    else if s.1 = 40 then (if op < 5 then jzbd (jzs b n s.2.2.2) fun s1 => jzbd (sub0 s1) fun r => if r.1.1 = 41 then jzbd (jzs b n r.1.2.2.2) fun s2 => .inr (s2, r.2) else .inl r.1.2.2.1 else .inl s.2.2.1)
    else .inl s.2.2.1 : jzR) with
    | .inl p => jyD b n p m'
    | .inr q => jyC b q.1 m' ∧ jzV (jenv r k f cp) q.2 H v
  have hn160 := hB.2.2.2.2.1
  have hpn := hW.1
  have s45 : c_X10_isSign F m 101 (45 : Int32) = some (jbi (decide (s.1 = 45))) := y_isSignC (x := 45) hB hC hW (by omega) (by omega)
  have s40 : c_X10_isSign F m 101 (40 : Int32) = some (jbi (decide (s.1 = 40))) := y_isSignC (x := 40) hB hC hW (by omega) (by omega)
  have hopen := y_opens (F := F) hF hop hB hC hW h23
  have h24 := hC.1
  unfold c_X10_atom_b c_X10_atom_j123 c_X10_atom_j157 c_X10_atom_j71
  rw [s45, s40]
  simp only [jgd_t hB.1.1, jb_some, if_pos h24]
  have hdec : ∀ x, Int32.ofNat x - 1 = Int32.ofNat (x - 1) ∨ x = 0 := fun x => by
    rcases Nat.eq_zero_or_pos x with h | h
    · exact Or.inr h
    · exact Or.inl (ji_sub1 h)
  by_cases e45 : s.1 = 45
  · rw [decide_eq_true e45, if_neg (show ¬ jbi true = 0 by decide), if_neg (show ¬ (s.1 = 2 ∨ s.1 = 3) by omega), if_pos e45]
    by_cases q : op < 5
    · rw [if_pos q] at hopen
      rw [if_pos q]
      obtain ⟨i1, i2, i3⟩ := h6 q
      obtain ⟨m1, a1, a2, a3, a4⟩ := hopen
      have hB1 := jyB_of a2 hB
      have hE1 := jyE_of a2 hE
      rw [a1, jb_some, if_neg (show ¬ (1 : Int32) = 0 by decide), jgd_t hB1.1.1]
      have hfin : ∀ (w : Int32) (m2 : jMe), G 0 m1 101 = some (w, m2) → jyF m1 m2 → jI m2 101 23 = Int32.ofNat (op + 1) → (jb (G 0 m1 101) fun t45 => jgd (jK t45.2 101 = 42) <| some (-t45.1, jsI t45.2 101 23 (jI t45.2 101 23 - 1))) = some (-w, jsI m2 101 23 (Int32.ofNat op)) ∧ jyF m (jsI m2 101 23 (Int32.ofNat op)) ∧ jI (jsI m2 101 23 (Int32.ofNat op)) 101 23 = Int32.ofNat op := by
        intro w m2 g1 g2 g3
        have hB2 := jyB_of g2 hB1
        refine ⟨?_, (a2.trans g2).trans (jfx_I ⟨rfl, by omega⟩), jsI_y⟩
        rw [g1, jb_some, jgd_t hB2.1.1, g3, ji_sub1 (by omega)]
        rfl
      cases hs : jzs b n s.2.2.2 with
      | inl p =>
        rw [hs] at a4
        obtain ⟨w, m2, b1, b2, b3, b4⟩ := i2 m1 p hB1 hE1 a4 a3
        obtain ⟨c1, c2, c3⟩ := hfin w m2 b1 b2 b3
        exact ⟨_, _, c1, c2, c3, jyD_23 b4⟩
      | inr s1 =>
        rw [hs] at a4
        obtain ⟨w1, -⟩ := jzs_W hW.2.1 hs
        obtain ⟨w, m2, b1, b2, b3, b4⟩ := i1 m1 s1 hB1 hE1 a4 a3 w1
        obtain ⟨c1, c2, c3⟩ := hfin w m2 b1 b2 b3
        refine ⟨_, _, c1, c2, c3, ?_⟩
        rw [jzbd_r]
        cases hr : sub6 s1 with
        | inl p =>
          rw [hr] at b4
          exact jyD_23 b4
        | inr q1 =>
          rw [hr] at b4
          exact ⟨jyC_23 b4.1, (jzV_neg b4.2).mono i3⟩
    · rw [if_neg q] at hopen
      rw [if_neg q]
      obtain ⟨m1, a1, a2, a3, a4⟩ := hopen
      rw [a1, jb_some, if_pos rfl]
      exact ⟨_, _, rfl, a2, a3, a4⟩
  · rw [decide_eq_false e45, if_pos (show jbi false = 0 from rfl)]
    by_cases e40 : s.1 = 40
    · rw [decide_eq_true e40, if_neg (show ¬ jbi true = 0 by decide), if_neg (show ¬ (s.1 = 2 ∨ s.1 = 3) by omega), if_neg e45, if_pos e40]
      by_cases q : op < 5
      · rw [if_pos q] at hopen
        rw [if_pos q]
        obtain ⟨i1, i2, i3, i4⟩ := h0 q
        obtain ⟨m1, a1, a2, a3, a4⟩ := hopen
        have hB1 := jyB_of a2 hB
        have hE1 := jyE_of a2 hE
        rw [a1, jb_some, if_neg (show ¬ (1 : Int32) = 0 by decide), jgd_t hB1.1.1]
        have hbad : ∀ (w : Int32) (m2 m3 : jMe) (p : Nat), G 5 m1 101 = some (w, m2) → jyF m1 m2 → c_X10_isSign F m2 101 (41 : Int32) = some 0 → c_X10_fail F m2 101 = some m3 → jyF m2 m3 → jI m3 101 23 = Int32.ofNat (op + 1) → jI m3 101 24 = 1 → jyD b n p m3 → ∃ v m', (jb (G 5 m1 101) fun t29 => jgd (jK t29.2 101 = 42) <| jb (c_X10_isSign F t29.2 101 (41 : Int32)) fun t32 => if t32 = 0 then jb (c_X10_fail F t29.2 101) fun t39 => jgd (jK t39 101 = 42) <| if jI (jsI t39 101 23 (jI t39 101 23 - 1)) 101 24 = 0 then jb (c_X10_next F (jsI t39 101 23 (jI t39 101 23 - 1)) 101) fun t37 => some (t29.1, t37) else some (t29.1, jsI t39 101 23 (jI t39 101 23 - 1)) else jgd (jK t29.2 101 = 42) <| if jI (jsI t29.2 101 23 (jI t29.2 101 23 - 1)) 101 24 = 0 then jb (c_X10_next F (jsI t29.2 101 23 (jI t29.2 101 23 - 1)) 101) fun t37 => some (t29.1, t37) else some (t29.1, jsI t29.2 101 23 (jI t29.2 101 23 - 1))) = some (v, m') ∧ jyF m m' ∧ jI m' 101 23 = Int32.ofNat op ∧ jyD b n p m' := by
          intro w m2 m3 p g1 g2 g3 g4 g5 g6 g7 g8
          have hB2 := jyB_of g2 hB1
          have hB3 := jyB_of g5 hB2
          refine ⟨w, jsI m3 101 23 (Int32.ofNat op), ?_, ((a2.trans g2).trans g5).trans (jfx_I ⟨rfl, by omega⟩), jsI_y, jyD_23 g8⟩
          rw [g1, jb_some]
          dsimp only
          rw [jgd_t hB2.1.1, g3, jb_some, if_pos rfl, g4, jb_some, jgd_t hB3.1.1, jsI_no (by omega), g7, if_neg (by decide), g6, ji_sub1 (by omega)]
          rfl
        cases hs : jzs b n s.2.2.2 with
        | inl p =>
          rw [hs] at a4
          obtain ⟨w, m2, b1, b2, b3, b4⟩ := i2 m1 p hB1 hE1 a4 a3
          have hB2 := jyB_of b2 hB1
          obtain ⟨m3, c1, c2, c3, c4, c5⟩ := y_failD (F := F) hB2 b4
          exact hbad w m2 m3 p b1 b2 (y_isSignD hB2 b4) c1 c2 (by rw [c3, b3]) c5 c4
        | inr s1 =>
          rw [hs] at a4
          obtain ⟨w1, -⟩ := jzs_W hW.2.1 hs
          obtain ⟨w, m2, b1, b2, b3, b4⟩ := i1 m1 s1 hB1 hE1 a4 a3 w1
          have hB2 := jyB_of b2 hB1
          rw [jzbd_r]
          cases hr : sub0 s1 with
          | inl p =>
            rw [hr] at b4
            obtain ⟨m3, c1, c2, c3, c4, c5⟩ := y_failD (F := F) hB2 b4
            exact hbad w m2 m3 p b1 b2 (y_isSignD hB2 b4) c1 c2 (by rw [c3, b3]) c5 c4
          | inr q1 =>
            rw [hr] at b4
            obtain ⟨b4, b5⟩ := b4
            obtain ⟨w3, w4⟩ := i3 s1 w1 q1 hr
            have w5 := w3.1
            have s41 : c_X10_isSign F m2 101 (41 : Int32) = some (jbi (decide (q1.1.1 = 41))) := y_isSignC (x := 41) hB2 b4 w3 (by omega) (by omega)
            rw [jzbd_r]
            by_cases e41 : q1.1.1 = 41
            · rw [if_pos e41]
              have f3 : jyF m2 (jsI m2 101 23 (Int32.ofNat op)) := jfx_I ⟨rfl, by omega⟩
              have hC3 := jyC_23 (x := Int32.ofNat op) b4
              obtain ⟨m4, d1, d2, d3⟩ := y_next (F := F) hF (jyB_of f3 hB2) hC3.2.2.1 w3.2.1 hC3.1
              refine ⟨w, m4, ?_, ((a2.trans b2).trans f3).trans (jyFs_F d2), by rw [d2.I (by omega), jsI_y], ?_⟩
              · have b1 : G 5 m1 101 = some (w, m2) := b1
                rw [b1, jb_some]
                dsimp only
                rw [jgd_t hB2.1.1, s41, jb_some, decide_eq_true e41, if_neg (show ¬ jbi true = 0 by decide), jgd_t hB2.1.1, jsI_no (by omega), b4.1, if_pos rfl, b3, ji_sub1 (by omega)]
                show (jb (c_X10_next F (jsI m2 101 23 (Int32.ofNat op)) 101) fun t37 => some (w, t37)) = _
                rw [d1, jb_some]
              · cases hs2 : jzs b n q1.1.2.2.2 with
                | inl p =>
                  rw [hs2] at d3
                  exact d3
                | inr s2 =>
                  rw [hs2] at d3
                  exact ⟨d3, b5.mono i4⟩
            · rw [if_neg e41]
              obtain ⟨m3, c1, c2, c3, c4⟩ := y_fail (F := F) hB2.1 (p := q1.1.2.2.1) (by omega) (Or.inl ⟨b4.1, b4.2.1⟩)
              exact hbad w m2 m3 _ b1 b2 (by rw [s41, decide_eq_false e41]; rfl) c1 (c2.weak (fun a i h => by omega)) (by rw [c2.I (by omega), b3]) c3 ⟨by omega, Or.inl ⟨c3, c4⟩⟩
      · rw [if_neg q] at hopen
        rw [if_neg q]
        obtain ⟨m1, a1, a2, a3, a4⟩ := hopen
        rw [a1, jb_some, if_pos rfl]
        exact ⟨_, _, rfl, a2, a3, a4⟩
    · rw [decide_eq_false e40, if_pos (show jbi false = 0 from rfl)]
      have hnx : ∃ m', c_X10_next F m 101 = some m' ∧ jyF m m' ∧ jI m' 101 23 = Int32.ofNat op ∧ jyU b n m' (jzs b n s.2.2.2) := by
        obtain ⟨m', d1, d2, d3⟩ := y_next (F := F) hF hB hC.2.2.1 hW.2.1 hC.1
        exact ⟨m', d1, jyFs_F d2, by rw [d2.I (by omega), h23], d3⟩
      by_cases e2 : s.1 = 2
      · obtain ⟨d1, d2⟩ := hC.2.2.2.2.2.1 e2
        obtain ⟨m', x1, x2, x3, x4⟩ := hnx
        rw [if_pos d1, if_pos (show s.1 = 2 ∨ s.1 = 3 from Or.inl e2), x1, jb_some, d2]
        refine ⟨_, m', rfl, x2, x3, ?_⟩
        cases hs : jzs b n s.2.2.2 with
        | inl p =>
          rw [hs] at x4
          exact x4
        | inr s1 =>
          rw [hs] at x4
          refine ⟨x4, ?_⟩
          rw [e2, Int64.toInt32_ofNat']
          exact (jzV_num hW.2.2.2.2.2).mono hH
      · have h20 : ¬ jI m 101 20 = 2 := by
          have := hC.2.2.2.1
          rcases (by omega : s.1 = 1 ∨ (3 ≤ s.1 ∧ s.1 ≤ 7) ∨ 8 ≤ s.1) with e | e | e
          · rw [hC.2.2.2.2.1 e]; decide
          · rw [(hC.2.2.2.2.2.2.1 e.1 e.2).1]; decide
          · rw [(hC.2.2.2.2.2.2.2 e).1]; decide
        rw [if_neg h20]
        by_cases e3 : s.1 = 3
        · obtain ⟨d1, -⟩ := hC.2.2.2.2.2.2.1 (by omega) (by omega)
          obtain ⟨m', x1, x2, x3, x4⟩ := hnx
          rw [if_pos d1, y_name hB hE hC hW e3, jb_some]
          dsimp only
          rw [jgd_t hB.1.1, if_pos h24, x1, jb_some, if_pos (show s.1 = 2 ∨ s.1 = 3 from Or.inr e3)]
          refine ⟨_, m', rfl, x2, x3, ?_⟩
          cases hs : jzs b n s.2.2.2 with
          | inl p =>
            rw [hs] at x4
            exact x4
          | inr s1 =>
            rw [hs] at x4
            refine ⟨x4, ?_⟩
            rw [e3]
            exact (jzV_name hW.2.2.2.2.2).mono hH
        · rw [if_neg (show ¬ (s.1 = 2 ∨ s.1 = 3) by omega), if_neg e45, if_neg e40]
          by_cases e7 : 3 ≤ s.1 ∧ s.1 ≤ 7
          · obtain ⟨d1, -⟩ := hC.2.2.2.2.2.2.1 e7.1 e7.2
            obtain ⟨m', x1, x2, x3, x4, x5⟩ := y_name_no (F := F) hB (fun i hi => by
              rw [y_isWordC hB hC hW (by omega), decide_eq_false]
              · rfl
              · rintro ⟨h1, -⟩
                rw [jwT_9 i hi] at h1
                exact e3 (congrArg Prod.fst h1)) (p := s.2.2.1) (by omega) (Or.inl ⟨hC.1, hC.2.1⟩)
            have hB' := jyB_of x2 hB
            rw [if_pos d1, x1, jb_some]
            dsimp only
            rw [jgd_t hB'.1.1, x4, if_neg (by decide)]
            exact ⟨_, _, rfl, x2, by rw [x3, h23], by omega, Or.inl ⟨x4, x5⟩⟩
          · have h201 : ¬ jI m 101 20 = 1 := by
              have := hC.2.2.2.1
              rcases (by omega : s.1 = 1 ∨ 8 ≤ s.1) with e | e
              · rw [hC.2.2.2.2.1 e]; decide
              · rw [(hC.2.2.2.2.2.2.2 e).1]; decide
            obtain ⟨m', x1, x2, x3, x4⟩ := y_failC (F := F) hB hC hW
            rw [if_neg h201, x1, jb_some]
            exact ⟨_, _, rfl, x2, by rw [x3, h23], x4⟩
theorem y_atom_d {G : Nat → jMe → Nat → Option (Int32 × jMe)} {op : Nat} : jyJ F t b n r k f cp (fun m => c_X10_atom_b F G m 101) op := by
  intro m p hB hE hD h23
  show ∃ v m', c_X10_atom_b F G m 101 = some (v, m') ∧ jyF m m' ∧ jI m' 101 23 = Int32.ofNat op ∧ jyD b n p m'
  unfold c_X10_atom_b c_X10_atom_j123 c_X10_atom_j157
  rw [y_isSignD hB hD, y_isSignD hB hD]
  simp only [jgd_t hB.1.1, jb_some]
  rw [if_pos trivial, if_pos trivial]
  obtain ⟨m', x1, x2, x3, x4, x5⟩ := y_failD (F := F) hB hD
  have hfl : ∃ v m', (jb (c_X10_fail F m 101) fun t13 => some ((0 : Int32), t13)) = some (v, m') ∧ jyF m m' ∧ jI m' 101 23 = Int32.ofNat op ∧ jyD b n p m' := ⟨0, m', by rw [x1, jb_some], x2, by rw [x3, h23], x4⟩
  rcases hD.2 with ⟨d1, d2⟩ | ⟨d1, d2, d3 | ⟨d3, q, d4⟩⟩
  · rw [if_neg (by rw [d1]; decide), if_neg (by rw [d1]; decide)]
    exact hfl
  · rw [if_pos d1, if_pos d1, if_neg (by rw [d3]; decide), if_neg (by rw [d3]; decide)]
    exact hfl
  · obtain ⟨m2, z1, z2, z3, z4, z5⟩ := y_name_no (F := F) hB (fun i hi => y_isWordD hB hD (by omega)) (p := p) hD.1 (Or.inl ⟨d1, d2⟩)
    have hB' := jyB_of z2 hB
    rw [if_pos d1, if_pos d1, if_neg (by rw [d3]; decide), if_pos d3, z1, jb_some]
    dsimp only
    rw [jgd_t hB'.1.1, z4, if_neg (by decide)]
    exact ⟨_, _, rfl, z2, by rw [z3, h23], hD.1, Or.inl ⟨z4, z5⟩⟩
end YATOM
