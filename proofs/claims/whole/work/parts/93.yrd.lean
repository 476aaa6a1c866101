/-! the reference reads a text: its fault, or what it tells -/
section YRD
variable {F t : Nat} {b : Nat → Nat} {n r k : Nat} {f : Nat → Int32} {cp : Int32}
theorem jwT_94 : ∀ s : jS0, (s.1, s.2.1) = jwT 9 ∧ 3 ≤ s.1 ∧ s.1 ≤ 7 → s.1 = 4 := fun s h => congrArg Prod.fst h.1
theorem jyC_4 {m : jMe} {s : jS0} (hC : jyC b s m) : ((s.1, s.2.1) = jwT 9 ∧ 3 ≤ s.1 ∧ s.1 ≤ 7) ↔ s.1 = 4 := by
  constructor
  · exact jwT_94 s
  · intro e
    refine ⟨?_, by omega, by omega⟩
    obtain ⟨d1, d2, d3, d4⟩ := hC.2.2.2.2.2.2.1 (by omega) (by omega)
    rcases jznl_c (jzwd_97 d3) with ⟨i, hi, e2⟩ | ⟨-, e2⟩
    · rw [jzn_e, e2, jwN_T i hi] at d2
      have : ∀ i, i < 13 → (jwT i).1 = 4 → i = 9 := by decide
      have := this i hi (by rw [d2]; exact e)
      subst this
      exact d2.symm
    · rw [jzn_e, e2] at d2
      have : (0 : Nat) = s.1 := congrArg Prod.fst d2
      omega
theorem y_part1 (hF : 1000 < F) {m : jMe} {x : Nat ⊕ jS0} (hB : jyB t b n m) (hU : jyU b n m x) (hW : ∀ s, x = .inr s → jzW n s) : ∃ t10 m2, c_X10_isWord F m 101 (102 : Int32) (105 : Int32) (116 : Int32) (115 : Int32) (0 : Int32) (0 : Int32) (0 : Int32) (0 : Int32) = some t10 ∧ c_X10_part F m 101 t10 = c_X10_part_j19 F m2 101 ∧ jyF m m2 ∧ jI m2 101 23 = jI m 101 23 ∧ jyU b n m2 (jzbd x (jzx (jzs b n) 4)) ∧ ∀ s, jzbd x (jzx (jzs b n) 4) = .inr s → jzW n s := by
  have hn160 := hB.2.2.2.2.1
  have hbad : ∀ (m' : jMe) (p : Nat), c_X10_fail F m 101 = some m' → jyF m m' → jI m' 101 24 = 1 → c_X10_part F m 101 0 = c_X10_part_j19 F m' 101 := by
    intro m' p h1 h2 h3
    have hB' := jyB_of h2 hB
    unfold c_X10_part c_X10_part_j8
    rw [if_pos rfl, jgd_t hB.1.1, h1, jb_some, jgd_t hB'.1.1, h3, if_neg (by decide)]
  cases x with
  | inl p =>
    have hU : jyD b n p m := hU
    obtain ⟨m', c1, c2, c3, c4, c5⟩ := y_failD (F := F) hB hU
    exact ⟨0, m', y_isWordD (i := 9) hB hU (by omega), hbad m' p c1 c2 c5, c2, c3, c4, fun s h => by cases h⟩
  | inr s =>
    have hC : jyC b s m := hU
    have hW := hW s rfl
    have hpn := hW.1
    have hw : c_X10_isWord F m 101 (102 : Int32) (105 : Int32) (116 : Int32) (115 : Int32) (0 : Int32) (0 : Int32) (0 : Int32) (0 : Int32) = some (jbi (decide ((s.1, s.2.1) = jwT 9 ∧ 3 ≤ s.1 ∧ s.1 ≤ 7))) := y_isWordC (i := 9) hB hC hW (by omega)
    rw [decide_eq_decide.mpr (jyC_4 hC)] at hw
    rw [jzbd_r]
    unfold jzx
    by_cases e : s.1 = 4
    · rw [decide_eq_true e] at hw
      rw [if_pos e, if_neg (by decide)]
      obtain ⟨m', a1, a2, a3⟩ := y_next (F := F) hF hB hC.2.2.1 hW.2.1 hC.1
      refine ⟨1, m', hw, ?_, jyFs_F a2, a2.I (by omega), a3, fun s' h => (jzs_W hW.2.1 h).1⟩
      unfold c_X10_part c_X10_part_j8
      rw [if_neg (by decide), jgd_t hB.1.1, hC.1, if_pos rfl, a1, jb_some]
    · rw [decide_eq_false e] at hw
      rw [if_neg e]
      obtain ⟨m', c1, c2, c3, c4⟩ := y_fail (F := F) hB.1 (p := s.2.2.1) (by omega) (Or.inl ⟨hC.1, hC.2.1⟩)
      exact ⟨0, m', hw, hbad m' s.2.2.1 c1 (c2.weak (fun a i h => by omega)) c3, c2.weak (fun a i h => by omega), c2.I (by omega), ⟨by omega, Or.inl ⟨c3, c4⟩⟩, fun s' h => by cases h⟩
theorem y_part2 (hF : 1000 < F) {m : jMe} {x : Nat ⊕ jS0} (hB : jyB t b n m) (hE : jyE r k f cp m) (h23 : jI m 101 23 = Int32.ofNat 0) (hU : jyU b n m x) (hW : ∀ s, x = .inr s → jzW n s) : ∃ v m2, c_X10_part_j19 F m 101 = c_X10_part_j34 F m2 101 v ∧ jyF m m2 ∧ match jzbd x (jzp (jzs b n) 64 0 0) with
    | .inl p => jyD b n p m2
    | .inr q => jyC b q.1 m2 ∧ jzW n q.1 ∧ jzV (jenv r k f cp) q.2 37 v := by
  obtain ⟨i1, i2⟩ := y_lev (F := F) (t := t) (b := b) (n := n) (r := r) (k := k) (f := f) (cp := cp) hF 100 0 0 64 64 (by omega) (by omega) (by omega) (by omega) (by omega) (by omega)
  have hM := jzp_M (n := n) (st := jzs b n) jzs_Ms 64 0 0
  unfold c_X10_part_j19
  rw [jgd_t hB.1.1]
  cases x with
  | inl p =>
    have hD : jyD b n p m := hU
    by_cases h24 : jI m 101 24 = 0
    · obtain ⟨v, m2, a1, a2, a3, a4⟩ := i2 m p hB hE hD h23
      have a1 : c_X10_atom_s F 64 5 m 101 = some (v, m2) := a1
      rw [if_pos h24, a1, jb_some]
      exact ⟨v, m2, rfl, a2, a4⟩
    · rw [if_neg h24]
      exact ⟨0, m, rfl, jfx.rfl, hD⟩
  | inr s =>
    have hC : jyC b s m := hU
    have hW := hW s rfl
    obtain ⟨v, m2, a1, a2, a3, a4⟩ := i1 m s hB hE hC h23 hW
    have a1 : c_X10_atom_s F 64 5 m 101 = some (v, m2) := a1
    rw [if_pos hC.1, a1, jb_some, jzbd_r]
    refine ⟨v, m2, rfl, a2, ?_⟩
    cases hr : jzp (jzs b n) 64 0 0 s with
    | inl p =>
      rw [hr] at a4
      exact a4
    | inr q =>
      rw [hr] at a4
      exact ⟨a4.1, (hM s hW q hr).1, a4.2⟩
theorem y_part3 (hF : 1000 < F) {m : jMe} {x : Nat ⊕ jS0} {v : Int32} (hB : jyB t b n m) (hU : jyU b n m x) (hW : ∀ s, x = .inr s → jzW n s) : ∃ m2, c_X10_part_j34 F m 101 v = some (v, m2) ∧ jyF m m2 ∧ jyU b n m2 (jzbd x (jzx (jzs b n) 59)) ∧ ∀ s, jzbd x (jzx (jzs b n) 59) = .inr s → jzW n s := by
  have hn160 := hB.2.2.2.2.1
  unfold c_X10_part_j34 c_X10_part_j48
  have hbad : ∀ (m' : jMe), c_X10_isSign F m 101 (59 : Int32) = some 0 → c_X10_fail F m 101 = some m' → jyF m m' → jI m' 101 24 = 1 → (jgd (jK m 101 = 42) <| jb (c_X10_isSign F m 101 (59 : Int32)) fun t10 => if t10 = 0 then jb (c_X10_fail F m 101) fun t17 => jgd (jK t17 101 = 42) <| if jI t17 101 24 = 0 then jb (c_X10_next F t17 101) fun t15 => some (v, t15) else some (v, t17) else jgd (jK m 101 = 42) <| if jI m 101 24 = 0 then jb (c_X10_next F m 101) fun t15 => some (v, t15) else some (v, m)) = some (v, m') := by
    intro m' h1 h2 h3 h4
    have hB' := jyB_of h3 hB
    rw [jgd_t hB.1.1, h1, jb_some, if_pos rfl, h2, jb_some, jgd_t hB'.1.1, h4, if_neg (by decide)]
  cases x with
  | inl p =>
    have hD : jyD b n p m := hU
    obtain ⟨m', c1, c2, c3, c4, c5⟩ := y_failD (F := F) hB hD
    exact ⟨m', hbad m' (y_isSignD hB hD) c1 c2 c5, c2, c4, fun s h => by cases h⟩
  | inr s =>
    have hC : jyC b s m := hU
    have hW := hW s rfl
    have hpn := hW.1
    have hs : c_X10_isSign F m 101 (59 : Int32) = some (jbi (decide (s.1 = 59))) := y_isSignC (x := 59) hB hC hW (by omega) (by omega)
    rw [jzbd_r]
    unfold jzx
    by_cases e : s.1 = 59
    · rw [decide_eq_true e] at hs
      rw [if_pos e, if_neg (show ¬ (59 : Nat) = 1 by decide)]
      obtain ⟨m', a1, a2, a3⟩ := y_next (F := F) hF hB hC.2.2.1 hW.2.1 hC.1
      refine ⟨m', ?_, jyFs_F a2, a3, fun s' h => (jzs_W hW.2.1 h).1⟩
      rw [jgd_t hB.1.1, hs, jb_some, if_neg (by decide), jgd_t hB.1.1, hC.1, if_pos rfl, a1, jb_some]
    · rw [decide_eq_false e] at hs
      rw [if_neg e]
      obtain ⟨m', c1, c2, c3, c4⟩ := y_fail (F := F) hB.1 (p := s.2.2.1) (by omega) (Or.inl ⟨hC.1, hC.2.1⟩)
      exact ⟨m', hbad m' hs c1 (c2.weak (fun a i h => by omega)) c3, c2.weak (fun a i h => by omega), ⟨by omega, Or.inl ⟨c3, c4⟩⟩, fun s' h => by cases h⟩
/-- what is open stays so while a text is read: nothing is asked of it behind -/
abbrev jyFr (m m' : jMe) : Prop := jfx (fun a i => a = 101 ∧ 17 ≤ i ∧ i ≤ 25) m m'
theorem y_read (hF : 1000 < F) {m : jMe} (hL : jLM m) (ht : t < 6) (hn : jI m 103 t = Int32.ofNat n) (hn160 : n ≤ 160) (hb : ∀ i, i < n → jI m 102 (160 * t + i) = Int32.ofNat (b i) ∧ b i < 256) (hE : jyE r k f cp m) : ∃ v m', c_X10_read F m 101 (Int32.ofNat t) = some (v, m') ∧ jyFr m m' ∧ match jzrd b n with
    | .inl p => jI m' 101 24 = 1 ∧ jI m' 101 25 = Int32.ofNat p ∧ p ≤ 160
    | .inr l => jI m' 101 24 = 0 ∧ v = jtell l r k f cp := by
  unfold c_X10_read
  rw [jgd_t hL.1, show (160 : Int32) = Int32.ofNat 160 from rfl, ji_mul, jP_sI, jp_103 hL, jgd_t (jk_103 hL), jz_103 hL, jgd_t (ji_int (by omega) ht), ji_n (by omega), jsI_no (by omega), hn, jlet_m]
  generalize hm0 : jsI (jsI (jsI (jsI (jsI m 101 17 (Int32.ofNat (160 * t))) 101 18 (Int32.ofNat n)) 101 19 (0 : Int32)) 101 23 (0 : Int32)) 101 24 (0 : Int32) = m0
  have f0 : jyFr m m0 := by
    rw [← hm0]
    exact ((((jfx_I (S := fun a i => a = 101 ∧ 17 ≤ i ∧ i ≤ 25) ⟨rfl, by omega⟩).trans (jfx_I ⟨rfl, by omega⟩)).trans (jfx_I ⟨rfl, by omega⟩)).trans (jfx_I ⟨rfl, by omega⟩)).trans (jfx_I ⟨rfl, by omega⟩)
  have hB0 : jyB t b n m0 := by
    refine ⟨jLM_fx f0 hL, ht, ?_, ?_, hn160, fun i hi => ?_⟩
    · rw [← hm0, jsI_no (by omega), jsI_no (by omega), jsI_no (by omega), jsI_no (by omega), jsI_y]
    · rw [← hm0, jsI_no (by omega), jsI_no (by omega), jsI_no (by omega), jsI_y]
    · rw [f0.I (by omega)]
      exact hb i hi
  have hE0 : jyE r k f cp m0 := by
    obtain ⟨q1, q2, q3, q4, q5, q6⟩ := hE
    exact ⟨q1, q2, by rw [f0.I (by omega)]; exact q3, by rw [f0.I (by omega)]; exact q4, fun a ha => by rw [f0.I (by omega)]; exact q5 a ha, by rw [f0.I (by omega)]; exact q6⟩
  have g19 : jI m0 101 19 = Int32.ofNat 0 := by rw [← hm0, jsI_no (by omega), jsI_no (by omega), jsI_y]; rfl
  have g23 : jI m0 101 23 = Int32.ofNat 0 := by rw [← hm0, jsI_no (by omega), jsI_y]; rfl
  have g24 : jI m0 101 24 = 0 := by rw [← hm0, jsI_y]
  obtain ⟨m1, a1, a2, a3⟩ := y_next (F := F) hF hB0 g19 (Nat.zero_le _) g24
  have hB1 := jyB_of (jyFs_F a2) hB0
  have hE1 := jyE_of (jyFs_F a2) hE0
  obtain ⟨t10, m2, b1, b2, b3, b4, b5, b6⟩ := y_part1 (F := F) hF hB1 a3 (fun s h => (jzs_W (Nat.zero_le _) h).1)
  have hB2 := jyB_of b3 hB1
  have hE2 := jyE_of b3 hE1
  obtain ⟨v, m3, c1, c2, c3⟩ := y_part2 (F := F) (r := r) (k := k) (f := f) (cp := cp) hF hB2 hE2 (by rw [b4, a2.I (by omega), g23]) b5 b6
  have hB3 := jyB_of c2 hB2
  have hrd : jzrd b n = jzbd (jzbd (jzbd (jzs b n 0) (jzx (jzs b n) 4)) (jzp (jzs b n) 64 0 0)) fun r => jzbd (jzbd (jzbd (.inr r.1) (jzx (jzs b n) 59)) (jzx (jzs b n) 1)) fun _ => .inr r.2 := by
    unfold jzrd
    cases jzs b n 0 with
    | inl p => rfl
    | inr s =>
      rw [jzbd_r, jzbd_r]
      cases jzx (jzs b n) 4 s with
      | inl p => rfl
      | inr s1 =>
        rw [jzbd_r, jzbd_r]
        cases jzp (jzs b n) 64 0 0 s1 with
        | inl p => rfl
        | inr r =>
          rw [jzbd_r, jzbd_r, jzbd_r]
          cases jzx (jzs b n) 59 r.1 with
          | inl p => rfl
          | inr s2 => rfl
  have hy : ∃ x : Nat ⊕ jS0, jyU b n m3 x ∧ (∀ s, x = .inr s → jzW n s) ∧ ((∃ p, x = .inl p ∧ jzrd b n = .inl p) ∨ ∃ q : jS0 × List Int32, x = .inr q.1 ∧ jzV (jenv r k f cp) q.2 37 v ∧ jzrd b n = jzbd (jzbd (jzbd (.inr q.1) (jzx (jzs b n) 59)) (jzx (jzs b n) 1)) fun _ => .inr q.2) := by
    cases hz : jzbd (jzbd (jzs b n 0) (jzx (jzs b n) 4)) (jzp (jzs b n) 64 0 0) with
    | inl p =>
      rw [hz] at c3 hrd
      exact ⟨.inl p, c3, fun s h => (by cases h), Or.inl ⟨p, rfl, hrd⟩⟩
    | inr q =>
      rw [hz] at c3 hrd
      exact ⟨.inr q.1, c3.1, fun s h => (by cases h; exact c3.2.1), Or.inr ⟨q, rfl, c3.2.2, hrd⟩⟩
  obtain ⟨x, x1, x2, x3⟩ := hy
  obtain ⟨m4, d1, d2, d3, d4⟩ := y_part3 (F := F) (v := v) hF hB3 x1 x2
  have hB4 := jyB_of d2 hB3
  have hf4 : jyFr m m4 := f0.trans (((((jyFs_F a2).trans b3).trans c2).trans d2).weak (fun a i h => by omega))
  rw [jgd_t hB0.1.1, a1, jb_some, jgd_t hB1.1.1, b1, jb_some, b2, c1, d1, jb_some]
  dsimp only
  rw [jgd_t hB4.1.1]
  have hbad : ∀ p, (jyD b n p m4 ∨ ∃ s : jS0, jyC b s m4 ∧ jzW n s ∧ s.1 ≠ 1 ∧ s.2.2.1 = p) → ∃ v' m', (if jI m4 101 24 = 0 then if jI m4 101 20 = 0 then some (v, m4) else jb (c_X10_fail F m4 101) fun t17 => some (v, t17) else some (v, m4)) = some (v', m') ∧ jyFr m m' ∧ jI m' 101 24 = 1 ∧ jI m' 101 25 = Int32.ofNat p ∧ p ≤ 160 := by
    intro p c
    rcases c with c | ⟨s, s1, s2, s3, s4⟩
    · obtain ⟨m', e1, e2, e3, e4, e5⟩ := y_failD (F := F) hB4 c
      rcases c.2 with ⟨g1, g2⟩ | ⟨g1, g2, g3⟩
      · rw [if_neg (by rw [g1]; decide)]
        exact ⟨v, m4, rfl, hf4, g1, g2, c.1⟩
      · have h20 : ¬ jI m4 101 20 = 0 := by
          rcases g3 with g3 | ⟨g3, -⟩
          · rw [g3]; decide
          · rw [g3]; decide
        rw [if_pos g1, if_neg h20, e1, jb_some]
        refine ⟨v, m', rfl, hf4.trans (e2.weak (fun a i h => by omega)), e5, ?_, c.1⟩
        rcases e4.2 with ⟨-, g⟩ | ⟨g, -⟩
        · exact g
        · rw [e5] at g
          exact absurd g (by decide)
    · have hs1 := s2.1
      obtain ⟨m', e1, e2, e3, e4⟩ := y_fail (F := F) hB4.1 (p := s.2.2.1) (by omega) (Or.inl ⟨s1.1, s1.2.1⟩)
      have h20 : ¬ jI m4 101 20 = 0 := by
        have := s1.2.2.2.1
        rcases (by omega : s.1 = 2 ∨ (3 ≤ s.1 ∧ s.1 ≤ 7) ∨ 8 ≤ s.1) with e | e | e
        · rw [(s1.2.2.2.2.2.1 e).1]; decide
        · rw [(s1.2.2.2.2.2.2.1 e.1 e.2).1]; decide
        · rw [(s1.2.2.2.2.2.2.2 e).1]; decide
      rw [if_pos s1.1, if_neg h20, e1, jb_some]
      exact ⟨v, m', rfl, hf4.trans (e2.weak (fun a i h => by omega)), e3, by rw [e4, s4], by omega⟩
  rcases x3 with ⟨p, rfl, h2⟩ | ⟨q, rfl, h2, h3⟩
  · rw [h2]
    exact hbad p (Or.inl d3)
  · rw [h3]
    cases hx : jzbd (.inr q.1) (jzx (jzs b n) 59) with
    | inl p =>
      rw [hx] at d3
      exact hbad p (Or.inl d3)
    | inr s =>
      rw [hx] at d3 d4
      have d3 : jyC b s m4 := d3
      have d4 := d4 s rfl
      rw [jzbd_r]
      unfold jzx
      by_cases e : s.1 = 1
      · rw [if_pos e, if_pos rfl, jzbd_r, if_pos d3.1, if_pos (d3.2.2.2.2.1 e)]
        exact ⟨v, m4, rfl, hf4, d3.1, (jzV_tell (by omega) h2).symm⟩
      · rw [if_neg e]
        exact hbad s.2.2.1 (Or.inr ⟨s, d3, d4, e, rfl⟩)
end YRD
