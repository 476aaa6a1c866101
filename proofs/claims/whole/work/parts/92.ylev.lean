/-! the reference's reader: a whole text -/
section YLEV
variable {F t : Nat} {b : Nat → Nat} {n r k : Nat} {f : Nat → Int32} {cp : Int32}
theorem jjn_8 (v w : Int32) : jjn (Int32.ofNat 8) v w = (if w ≤ v then 0 else 1) ∧ jjn (Int32.ofNat 9) v w = (if v = w then 1 else 0) := by
  unfold jjn
  constructor
  · rw [if_neg (by decide), if_neg (by decide), if_neg (by decide), if_neg (by decide), if_pos (by decide)]
    by_cases h : w ≤ v
    · rw [if_pos h, decide_eq_false (Int32.not_lt.mpr h)]
      rfl
    · rw [if_neg h, decide_eq_true (Int32.not_le.mp h)]
      rfl
  · rw [if_neg (by decide), if_neg (by decide), if_neg (by decide), if_neg (by decide), if_neg (by decide), if_pos (by decide)]
    by_cases h : v = w
    · rw [if_pos h, decide_eq_true h]
      rfl
    · rw [if_neg h, decide_eq_false h]
      rfl
theorem jyC_7 {m : jMe} {s : jS0} (hC : jyC b s m) : ((s.1, s.2.1) = jwT 12 ∧ 3 ≤ s.1 ∧ s.1 ≤ 7) ↔ s.1 = 7 := by
  constructor
  · rintro ⟨h, -⟩
    exact congrArg Prod.fst h
  · intro e
    refine ⟨?_, by omega, by omega⟩
    obtain ⟨d1, d2, d3, d4⟩ := hC.2.2.2.2.2.2.1 (by omega) (by omega)
    rcases jznl_c (jzwd_97 d3) with ⟨i, hi, e2⟩ | ⟨-, e2⟩
    · rw [jzn_e, e2, jwN_T i hi] at d2
      have : ∀ i, i < 13 → (jwT i).1 = 7 → i = 12 := by decide
      have := this i hi (by rw [d2]; exact e)
      subst this
      exact d2.symm
    · rw [jzn_e, e2] at d2
      have : (0 : Nat) = s.1 := congrArg Prod.fst d2
      omega
theorem y_not (hF : 1000 < F) {G : Nat → jMe → Nat → Option (Int32 × jMe)} {op H H4 H2 : Nat} (hop : op ≤ 5) {sub4 sub2 : jS0 → jzR} (h4 : jyI F t b n r k f cp (fun m => G 2 m 101) sub4 op H4 ∧ jyJ F t b n r k f cp (fun m => G 2 m 101) op ∧ jzM n sub4 ∧ H4 + 1 ≤ H) (h2 : op < 5 → jyI F t b n r k f cp (fun m => G 3 m 101) sub2 (op + 1) H2 ∧ jyJ F t b n r k f cp (fun m => G 3 m 101) (op + 1) ∧ H2 ≤ H) : jyI F t b n r k f cp (fun m => c_X10_not_b F G m 101) (fun s => if s.1 = 7 then (if op < 5 then jzbd (jzs b n s.2.2.2) fun s1 => jzbd (sub2 s1) fun r => .inr (r.1, r.2 ++ [3]) else .inl s.2.2.1) else jzbd (sub4 s) fun r => if r.1.1 = 60 ∨ r.1.1 = 61 then jzbd (jzs b n r.1.2.2.2) fun s1 => jzbd (sub4 s1) fun r2 => .inr (r2.1, r.2 ++ (r2.2 ++ [if r.1.1 = 60 then 8 else 9])) else .inr r) op H ∧ jyJ F t b n r k f cp (fun m => c_X10_not_b F G m 101) op := by
  obtain ⟨i1, i2, i3, i4⟩ := h4
  constructor
  · intro m s hB hE hC h23 hW
    show ∃ v m', c_X10_not_b F G m 101 = some (v, m') ∧ jyF m m' ∧ jI m' 101 23 = Int32.ofNat op ∧ match (if s.1 = 7 then (if op < 5 then jzbd (jzs b n s.2.2.2) fun s1 => jzbd (sub2 s1) fun r => .inr (r.1, r.2 ++ [3]) else .inl s.2.2.1) else jzbd (sub4 s) fun r => if r.1.1 = 60 ∨ r.1.1 = 61 then jzbd (jzs b n r.1.2.2.2) fun s1 => jzbd (sub4 s1) fun r2 => .inr (r2.1, r.2 ++ (r2.2 ++ [if r.1.1 = 60 then 8 else 9])) else .inr r : jzR) with
      | .inl p => jyD b n p m'
      | .inr q => jyC b q.1 m' ∧ jzV (jenv r k f cp) q.2 H v
    have hw : c_X10_isWord F m 101 (110 : Int32) (111 : Int32) (116 : Int32) (0 : Int32) (0 : Int32) (0 : Int32) (0 : Int32) (0 : Int32) = some (jbi (decide ((s.1, s.2.1) = jwT 12 ∧ 3 ≤ s.1 ∧ s.1 ≤ 7))) := y_isWordC (i := 12) hB hC hW (by omega)
    rw [decide_eq_decide.mpr (jyC_7 hC)] at hw
    unfold c_X10_not_b c_X10_not_j77 c_X10_not_j93
    rw [jgd_t hB.1.1, hw, jb_some]
    by_cases e7 : s.1 = 7
    · rw [decide_eq_true e7, if_neg (show ¬ jbi true = 0 by decide), if_pos e7]
      have hopen := y_opens (F := F) hF hop hB hC hW h23
      by_cases q : op < 5
      · rw [if_pos q] at hopen
        rw [if_pos q]
        obtain ⟨j1, j2, j3⟩ := h2 q
        obtain ⟨m1, a1, a2, a3, a4⟩ := hopen
        have hB1 := jyB_of a2 hB
        have hE1 := jyE_of a2 hE
        rw [a1, jb_some, if_neg (show ¬ (1 : Int32) = 0 by decide), jgd_t hB1.1.1]
        have hfin : ∀ (w : Int32) (m2 : jMe), G 3 m1 101 = some (w, m2) → jyF m1 m2 → jI m2 101 23 = Int32.ofNat (op + 1) → (jb (G 3 m1 101) fun t30 => jgd (jK t30.2 101 = 42) <| if t30.1 = 0 then some ((1 : Int32), jsI t30.2 101 23 (jI t30.2 101 23 - 1)) else some (0, jsI t30.2 101 23 (jI t30.2 101 23 - 1))) = some (jbi (decide (w = 0)), jsI m2 101 23 (Int32.ofNat op)) ∧ jyF m (jsI m2 101 23 (Int32.ofNat op)) ∧ jI (jsI m2 101 23 (Int32.ofNat op)) 101 23 = Int32.ofNat op := by
          intro w m2 g1 g2 g3
          have hB2 := jyB_of g2 hB1
          refine ⟨?_, (a2.trans g2).trans (jfx_I ⟨rfl, by omega⟩), jsI_y⟩
          rw [g1, jb_some]
          dsimp only
          rw [jgd_t hB2.1.1, g3, ji_sub1 (by omega)]
          by_cases z : w = 0
          · rw [if_pos z, decide_eq_true z]
            rfl
          · rw [if_neg z, decide_eq_false z]
            rfl
        cases hs : jzs b n s.2.2.2 with
        | inl p =>
          rw [hs] at a4
          obtain ⟨w, m2, b1, b2, b3, b4⟩ := j2 m1 p hB1 hE1 a4 a3
          obtain ⟨c1, c2, c3⟩ := hfin w m2 b1 b2 b3
          exact ⟨_, _, c1, c2, c3, jyD_23 b4⟩
        | inr s1 =>
          rw [hs] at a4
          obtain ⟨w1, -⟩ := jzs_W hW.2.1 hs
          obtain ⟨w, m2, b1, b2, b3, b4⟩ := j1 m1 s1 hB1 hE1 a4 a3 w1
          obtain ⟨c1, c2, c3⟩ := hfin w m2 b1 b2 b3
          refine ⟨_, _, c1, c2, c3, ?_⟩
          rw [jzbd_r]
          cases hr : sub2 s1 with
          | inl p =>
            rw [hr] at b4
            exact jyD_23 b4
          | inr q1 =>
            rw [hr] at b4
            exact ⟨jyC_23 b4.1, (jzV_not b4.2).mono j3⟩
      · rw [if_neg q] at hopen
        rw [if_neg q]
        obtain ⟨m1, a1, a2, a3, a4⟩ := hopen
        rw [a1, jb_some, if_pos rfl]
        exact ⟨_, _, rfl, a2, a3, a4⟩
    · rw [decide_eq_false e7, if_pos (show jbi false = 0 from rfl), if_neg e7]
      obtain ⟨v, m1, a1, a2, a3, a4⟩ := i1 m s hB hE hC h23 hW
      have a1 : G 2 m 101 = some (v, m1) := a1
      have hB1 := jyB_of a2 hB
      have hE1 := jyE_of a2 hE
      rw [a1, jb_some]
      simp only [jgd_t hB1.1.1]
      cases hr : sub4 s with
      | inl p =>
        rw [hr] at a4
        rw [y_isSignD hB1 a4, y_isSignD hB1 a4, jb_some, jb_some, if_pos rfl, if_pos rfl]
        exact ⟨_, _, rfl, a2, a3, a4⟩
      | inr q1 =>
        rw [hr] at a4
        obtain ⟨a4, a5⟩ := a4
        obtain ⟨w3, w4⟩ := i3 s hW q1 hr
        have s60 : c_X10_isSign F m1 101 (60 : Int32) = some (jbi (decide (q1.1.1 = 60))) := y_isSignC (x := 60) hB1 a4 w3 (by omega) (by omega)
        have s61 : c_X10_isSign F m1 101 (61 : Int32) = some (jbi (decide (q1.1.1 = 61))) := y_isSignC (x := 61) hB1 a4 w3 (by omega) (by omega)
        rw [s60, s61, jb_some, jb_some, jzbd_r]
        by_cases e : q1.1.1 = 60 ∨ q1.1.1 = 61
        · have hlg : lg_cmp (jL m1 101 22) (60 : Int64) = 0 ↔ q1.1.1 = 60 := jyC_sg (x := 60) a4 w3 (by omega) (by omega)
          rw [if_pos e]
          obtain ⟨m2, b1, b2, b3⟩ := y_next (F := F) hF hB1 a4.2.2.1 w3.2.1 a4.1
          have hB2 := jyB_of (jyFs_F b2) hB1
          have hE2 := jyE_of (jyFs_F b2) hE1
          have h232 : jI m2 101 23 = Int32.ofNat op := by rw [b2.I (by omega)]; exact a3
          have hfin : ∀ (w : Int32) (m3 : jMe), G 2 m2 101 = some (w, m3) → (if jbi (decide (q1.1.1 = 60)) = 0 then if jbi (decide (q1.1.1 = 61)) = 0 then some (v, m1) else if lg_cmp (jL m1 101 22) 60 = 0 then jb (c_X10_next F m1 101) fun t15 => jgd (jK t15 101 = 42) <| jb (G 2 t15 101) fun t18 => if (1 : Int32) = 0 then (if v = t18.1 then some ((1 : Int32), t18.2) else some (0, t18.2)) else (if t18.1 ≤ v then some (0, t18.2) else some (1, t18.2)) else jb (c_X10_next F m1 101) fun t15 => jgd (jK t15 101 = 42) <| jb (G 2 t15 101) fun t18 => if (0 : Int32) = 0 then (if v = t18.1 then some (1, t18.2) else some (0, t18.2)) else (if t18.1 ≤ v then some (0, t18.2) else some (1, t18.2)) else if lg_cmp (jL m1 101 22) 60 = 0 then jb (c_X10_next F m1 101) fun t15 => jgd (jK t15 101 = 42) <| jb (G 2 t15 101) fun t18 => if (1 : Int32) = 0 then (if v = t18.1 then some (1, t18.2) else some (0, t18.2)) else (if t18.1 ≤ v then some (0, t18.2) else some (1, t18.2)) else jb (c_X10_next F m1 101) fun t15 => jgd (jK t15 101 = 42) <| jb (G 2 t15 101) fun t18 => if (0 : Int32) = 0 then (if v = t18.1 then some (1, t18.2) else some (0, t18.2)) else (if t18.1 ≤ v then some (0, t18.2) else some (1, t18.2))) = some (jjn (if q1.1.1 = 60 then Int32.ofNat 8 else Int32.ofNat 9) v w, m3) := by
            intro w m3 g1
            rw [b1]
            simp only [jb_some, jgd_t hB2.1.1, g1]
            by_cases z : q1.1.1 = 60
            · rw [decide_eq_true z, if_neg (show ¬ jbi true = 0 by decide), if_pos (hlg.mpr z), if_neg (show ¬ (1 : Int32) = 0 by decide), if_pos z, (jjn_8 v w).1]
              by_cases y : w ≤ v
              · rw [if_pos y, if_pos y]
              · rw [if_neg y, if_neg y]
            · rw [decide_eq_false z, if_pos (show jbi false = 0 from rfl), decide_eq_true (show q1.1.1 = 61 by omega), if_neg (show ¬ jbi true = 0 by decide), if_neg (fun h => z (hlg.mp h)), if_neg z, (jjn_8 v w).2]
              by_cases y : v = w
              · rw [if_pos y, if_pos y]
                first | rfl | (rw [if_pos trivial]) | (rw [if_pos rfl])
              · rw [if_neg y, if_neg y]
                first | rfl | (rw [if_pos trivial]) | (rw [if_pos rfl])
          cases hs : jzs b n q1.1.2.2.2 with
          | inl p =>
            rw [hs] at b3
            obtain ⟨w, m3, c1, c2, c3, c4⟩ := i2 m2 p hB2 hE2 b3 h232
            exact ⟨_, m3, hfin w m3 c1, (a2.trans (jyFs_F b2)).trans c2, c3, c4⟩
          | inr s1 =>
            rw [hs] at b3
            obtain ⟨w5, -⟩ := jzs_W w3.2.1 hs
            obtain ⟨w, m3, c1, c2, c3, c4⟩ := i1 m2 s1 hB2 hE2 b3 h232 w5
            refine ⟨_, m3, hfin w m3 c1, (a2.trans (jyFs_F b2)).trans c2, c3, ?_⟩
            rw [jzbd_r]
            cases hr2 : sub4 s1 with
            | inl p =>
              rw [hr2] at c4
              exact c4
            | inr q2 =>
              rw [hr2] at c4
              refine ⟨c4.1, ?_⟩
              have h8 : ∀ o, 4 ≤ o ∧ o < 16 → jzV (jenv r k f cp) (q1.2 ++ (q2.2 ++ [Int32.ofNat o])) H (jjn (Int32.ofNat o) v w) := fun o ho => jzV_bin ho a5 c4.2 i4
              show jzV (jenv r k f cp) (q1.2 ++ (q2.2 ++ [if q1.1.1 = 60 then 8 else 9])) H _
              by_cases z : q1.1.1 = 60
              · rw [if_pos z, if_pos z]
                exact h8 8 (by omega)
              · rw [if_neg z, if_neg z]
                exact h8 9 (by omega)
        · rw [if_neg e, decide_eq_false (show ¬ q1.1.1 = 60 by omega), decide_eq_false (show ¬ q1.1.1 = 61 by omega), if_pos (show jbi false = 0 from rfl), if_pos (show jbi false = 0 from rfl)]
          exact ⟨_, _, rfl, a2, a3, a4, a5.mono (by omega)⟩
  · intro m p hB hE hD h23
    show ∃ v m', c_X10_not_b F G m 101 = some (v, m') ∧ jyF m m' ∧ jI m' 101 23 = Int32.ofNat op ∧ jyD b n p m'
    have hw : c_X10_isWord F m 101 (110 : Int32) (111 : Int32) (116 : Int32) (0 : Int32) (0 : Int32) (0 : Int32) (0 : Int32) (0 : Int32) = some 0 := y_isWordD (i := 12) hB hD (by omega)
    obtain ⟨v, m1, a1, a2, a3, a4⟩ := i2 m p hB hE hD h23
    have a1 : G 2 m 101 = some (v, m1) := a1
    have hB1 := jyB_of a2 hB
    unfold c_X10_not_b
    rw [jgd_t hB.1.1, hw, jb_some, if_pos rfl, a1, jb_some]
    dsimp only
    rw [jgd_t hB1.1.1, y_isSignD hB1 a4, y_isSignD hB1 a4, jb_some, jb_some, if_pos rfl, if_pos rfl]
    exact ⟨_, _, rfl, a2, a3, a4⟩
def jgi (lv : Nat) : Nat := [5, 4, 3, 3, 2, 1, 0].getD lv 0
theorem y_lev (hF : 1000 < F) : ∀ (N lv op kp kr : Nat), lv ≤ 6 → lv ≠ 3 → op ≤ 5 → 7 * (5 - op) + (7 - lv) ≤ N → 7 * (5 - op) + (7 - lv) ≤ kp → 7 * (5 - op) + (7 - lv) ≤ kr → jyI F t b n r k f cp (fun m => c_X10_atom_s F kr (jgi lv) m 101) (jzp (jzs b n) kp lv op) op (6 * (5 - op) + (7 - lv)) ∧ jyJ F t b n r k f cp (fun m => c_X10_atom_s F kr (jgi lv) m 101) op := by
  intro N
  induction N with
  | zero => intro lv op kp kr h1 h2 h3 h4; omega
  | succ N ih =>
    intro lv op kp kr h1 h2 h3 h4 h5 h6
    obtain ⟨kp, rfl⟩ := jsucc (show 0 < kp by omega)
    obtain ⟨kr, rfl⟩ := jsucc (show 0 < kr by omega)
    have hM := fun k lv op => jzp_M (n := n) (st := jzs b n) jzs_Ms k lv op
    have hH : ∀ {g : jMe → Option (Int32 × jMe)} {h : jS0 → jzR} {op a c : Nat}, a = c → (jyI F t b n r k f cp g h op a ∧ jyJ F t b n r k f cp g op) → jyI F t b n r k f cp g h op c ∧ jyJ F t b n r k f cp g op := fun e h => e ▸ h
    rcases (by omega : lv = 0 ∨ lv = 1 ∨ lv = 2 ∨ lv = 4 ∨ lv = 5 ∨ lv = 6) with rfl | rfl | rfl | rfl | rfl | rfl
    · obtain ⟨i1, i2⟩ := ih 1 op kp kr (by omega) (by omega) h3 (by omega) (by omega) (by omega)
      exact hH (by omega) (y_bin hF (y_l_either (G := fun q m x0 => c_X10_atom_s F kr q m x0)) i1 i2 (hM kp 1 op))
    · obtain ⟨i1, i2⟩ := ih 2 op kp kr (by omega) (by omega) h3 (by omega) (by omega) (by omega)
      exact hH (by omega) (y_bin hF (y_l_both (G := fun q m x0 => c_X10_atom_s F kr q m x0)) i1 i2 (hM kp 2 op))
    · obtain ⟨kp, rfl⟩ := jsucc (show 0 < kp by omega)
      obtain ⟨i1, i2⟩ := ih 4 op kp kr (by omega) (by omega) h3 (by omega) (by omega) (by omega)
      refine y_not (H2 := 6 * (5 - (op + 1)) + (7 - 2)) (G := fun q m x0 => c_X10_atom_s F kr q m x0) hF h3 ⟨i1, i2, hM kp 4 op, by omega⟩ (fun q => ?_)
      obtain ⟨j1, j2⟩ := ih 2 (op + 1) (kp + 1) kr (by omega) (by omega) (by omega) (by omega) (by omega) (by omega)
      exact ⟨j1, j2, by omega⟩
    · obtain ⟨i1, i2⟩ := ih 5 op kp kr (by omega) (by omega) h3 (by omega) (by omega) (by omega)
      exact hH (by omega) (y_bin hF (y_l_added (G := fun q m x0 => c_X10_atom_s F kr q m x0)) i1 i2 (hM kp 5 op))
    · obtain ⟨i1, i2⟩ := ih 6 op kp kr (by omega) (by omega) h3 (by omega) (by omega) (by omega)
      exact hH (by omega) (y_bin hF (y_l_term (G := fun q m x0 => c_X10_atom_s F kr q m x0)) i1 i2 (hM kp 6 op))
    · refine ⟨y_atom (H6 := 6 * (5 - (op + 1)) + (7 - 6)) (H0 := 6 * (5 - (op + 1)) + (7 - 0)) (G := fun q m x0 => c_X10_atom_s F kr q m x0) hF h3 (by omega) (fun q => ?_) (fun q => ?_), y_atom_d (G := fun q m x0 => c_X10_atom_s F kr q m x0)⟩
      · obtain ⟨j1, j2⟩ := ih 6 (op + 1) kp kr (by omega) (by omega) (by omega) (by omega) (by omega) (by omega)
        exact ⟨j1, j2, by omega⟩
      · obtain ⟨j1, j2⟩ := ih 0 (op + 1) kp kr (by omega) (by omega) (by omega) (by omega) (by omega) (by omega)
        exact ⟨j1, j2, hM kp 0 (op + 1), by omega⟩
end YLEV
