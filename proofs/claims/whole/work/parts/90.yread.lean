/-! the reference's reader: parts, and what they tell -/
def jyI (F t : Nat) (b : Nat → Nat) (n r k : Nat) (f : Nat → Int32) (cp : Int32) (g : jMe → Option (Int32 × jMe)) (h : jS0 → jzR) (op H : Nat) : Prop := ∀ m s, jyB t b n m → jyE r k f cp m → jyC b s m → jI m 101 23 = Int32.ofNat op → jzW n s → ∃ v m', g m = some (v, m') ∧ jyF m m' ∧ jI m' 101 23 = Int32.ofNat op ∧ match h s with
  | .inl p => jyD b n p m'
  | .inr q => jyC b q.1 m' ∧ jzV (jenv r k f cp) q.2 H v
def jyJ (F t : Nat) (b : Nat → Nat) (n r k : Nat) (f : Nat → Int32) (cp : Int32) (g : jMe → Option (Int32 × jMe)) (op : Nat) : Prop := ∀ m p, jyB t b n m → jyE r k f cp m → jyD b n p m → jI m 101 23 = Int32.ofNat op → ∃ v m', g m = some (v, m') ∧ jyF m m' ∧ jI m' 101 23 = Int32.ofNat op ∧ jyD b n p m'
def jyL1 (F t : Nat) (b : Nat → Nat) (n : Nat) (lf : Nat → jMe → Int32 → Option (jMe × Int32)) (g : jMe → Option (Int32 × jMe)) (lv : Nat) : Prop :=
  (∀ x m s v o m1 w m2 z, jyB t b n m → jyC b s m → jzW n s → jzop lv s.1 = some o → c_X10_next F m 101 = some m1 → jK m1 101 = 42 → g m1 = some (w, m2) → lf x m2 (jjn (Int32.ofNat o) v w) = some z → lf (x + 1) m v = some z) ∧
  (∀ x m s v, jyB t b n m → jyC b s m → jzW n s → jzop lv s.1 = none → lf (x + 1) m v = some (m, v)) ∧ (∀ x m p v, jyB t b n m → jyD b n p m → lf (x + 1) m v = some (m, v))
section YREAD
variable {F t : Nat} {b : Nat → Nat} {n r k : Nat} {f : Nat → Int32} {cp : Int32}
theorem jzop_4 {lv tk o : Nat} (h : jzop lv tk = some o) : 4 ≤ o ∧ o < 16 ∧ tk ≠ 1 := by
  unfold jzop at h
  repeat' split at h
  all_goals first | (cases h; done) | (cases h; omega)
theorem jzop_end {lv : Nat} : jzop lv 1 = none := by
  cases h : jzop lv 1 with
  | none => rfl
  | some o => exact absurd rfl (jzop_4 h).2.2
theorem y_loop (hF : 1000 < F) {lf : Nat → jMe → Int32 → Option (jMe × Int32)} {g : jMe → Option (Int32 × jMe)} {sub : jS0 → jzR} {lv op H : Nat} (hL : jyL1 F t b n lf g lv) (hI : jyI F t b n r k f cp g sub op H) (hJ : jyJ F t b n r k f cp g op) (hM : jzM n sub) : ∀ (w x : Nat) (m : jMe) (s : jS0) (v : Int32), 160 ≤ w + s.2.2.1 → w < x → jyB t b n m → jyE r k f cp m → jyC b s m → jI m 101 23 = Int32.ofNat op → jzW n s → ∃ v' m', lf x m v = some (m', v') ∧ jyF m m' ∧ jI m' 101 23 = Int32.ofNat op ∧ match jzl (jzs b n) sub lv w s with
    | .inl p => jyD b n p m'
    | .inr q => jyC b q.1 m' ∧ jzVt (jenv r k f cp) q.2 (H + 1) v v' := by
  intro w
  induction w with
  | zero =>
    intro x m s v h1 h2 hB hE hC h23 hW
    obtain ⟨x, rfl⟩ := jsucc h2
    have hn := hB.2.2.2.2.1
    have hp := hW.1
    have e1 : s.1 = 1 := by
      rcases Nat.decEq s.1 1 with e | e
      · have := hW.2.2.1 e
        have := hW.2.1
        omega
      · exact e
    exact ⟨v, m, hL.2.1 x m s v hB hC hW (by rw [e1]; exact jzop_end), jfx.rfl, h23, hC, jzVt_nil⟩
  | succ w ih =>
    intro x m s v h1 h2 hB hE hC h23 hW
    obtain ⟨x, rfl⟩ := jsucc h2
    unfold jzl
    cases ho : jzop lv s.1 with
    | none => exact ⟨v, m, hL.2.1 x m s v hB hC hW ho, jfx.rfl, h23, hC, jzVt_nil⟩
    | some o =>
      obtain ⟨o4, o16, hne⟩ := jzop_4 ho
      have hlt := hW.2.2.1 hne
      obtain ⟨m1, a1, a2, a3⟩ := y_next (F := F) hF hB hC.2.2.1 hW.2.1 hC.1
      have hB1 := jyB_of (jyFs_F a2) hB
      have hE1 := jyE_of (jyFs_F a2) hE
      have h231 : jI m1 101 23 = Int32.ofNat op := by rw [a2.I (by omega)]; exact h23
      dsimp only
      have hend : ∀ (m2 : jMe) (w2 : Int32) (p : Nat), g m1 = some (w2, m2) → jyF m1 m2 → jI m2 101 23 = Int32.ofNat op → jyD b n p m2 → ∃ v' m', lf (x + 1) m v = some (m', v') ∧ jyF m m' ∧ jI m' 101 23 = Int32.ofNat op ∧ jyD b n p m' := by
        intro m2 w2 p g1 g2 g3 g4
        obtain ⟨x, rfl⟩ := jsucc (show 0 < x by omega)
        refine ⟨jjn (Int32.ofNat o) v w2, m2, ?_, (jyFs_F a2).trans g2, g3, g4⟩
        exact hL.1 (x + 1) m s v o m1 w2 m2 _ hB hC hW ho a1 hB1.1.1 g1 (hL.2.2 x m2 p _ (jyB_of g2 hB1) g4)
      cases hs : jzs b n s.2.2.2 with
      | inl p =>
        rw [hs] at a3
        obtain ⟨w2, m2, b1, b2, b3, b4⟩ := hJ m1 p hB1 hE1 a3 h231
        exact hend m2 w2 p b1 b2 b3 b4
      | inr s1 =>
        rw [hs] at a3
        obtain ⟨w1, w2'⟩ := jzs_W hW.2.1 hs
        obtain ⟨w2, m2, b1, b2, b3, b4⟩ := hI m1 s1 hB1 hE1 a3 h231 w1
        rw [jzbd_r]
        cases hr : sub s1 with
        | inl p =>
          rw [hr] at b4
          exact hend m2 w2 p b1 b2 b3 b4
        | inr q =>
          rw [hr] at b4
          obtain ⟨b4, b5⟩ := b4
          obtain ⟨w3, w4⟩ := hM s1 w1 q hr
          obtain ⟨v', m', c1, c2, c3, c4⟩ := ih x m2 q.1 (jjn (Int32.ofNat o) v w2) (by omega) (by omega) (jyB_of b2 hB1) (jyE_of b2 hE1) b4 b3 w3
          refine ⟨v', m', hL.1 x m s v o m1 w2 m2 _ hB hC hW ho a1 hB1.1.1 b1 c1, ((jyFs_F a2).trans b2).trans c2, c3, ?_⟩
          rw [jzbd_r]
          cases hx : jzl (jzs b n) sub lv w q.1 with
          | inl p =>
            rw [hx] at c4
            exact c4
          | inr q2 =>
            rw [hx] at c4
            exact ⟨c4.1, jzVt_cons ⟨o4, o16⟩ b5 (Nat.le_refl _) c4.2⟩
theorem y_bin (hF : 1000 < F) {lf : Nat → jMe → Int32 → Option (jMe × Int32)} {g : jMe → Option (Int32 × jMe)} {sub : jS0 → jzR} {lv op H : Nat} (hL : jyL1 F t b n lf g lv) (hI : jyI F t b n r k f cp g sub op H) (hJ : jyJ F t b n r k f cp g op) (hM : jzM n sub) : jyI F t b n r k f cp (fun m => jgd (jK m 101 = 42) <| jb (g m) fun t3 => jb (lf F t3.2 t3.1) fun e => some (e.2, e.1)) (fun s => jzbd (sub s) fun r => jzbd (jzl (jzs b n) sub lv 160 r.1) fun r2 => .inr (r2.1, r.2 ++ r2.2)) op (H + 1) ∧ jyJ F t b n r k f cp (fun m => jgd (jK m 101 = 42) <| jb (g m) fun t3 => jb (lf F t3.2 t3.1) fun e => some (e.2, e.1)) op := by
  constructor
  · intro m s hB hE hC h23 hW
    obtain ⟨v, m1, a1, a2, a3, a4⟩ := hI m s hB hE hC h23 hW
    have hB1 := jyB_of a2 hB
    show ∃ v m', (jgd (jK m 101 = 42) <| jb (g m) fun t3 => jb (lf F t3.2 t3.1) fun e => some (e.2, e.1)) = some (v, m') ∧ jyF m m' ∧ jI m' 101 23 = Int32.ofNat op ∧ match (jzbd (sub s) fun r => jzbd (jzl (jzs b n) sub lv 160 r.1) fun r2 => .inr (r2.1, r.2 ++ r2.2)) with
      | .inl p => jyD b n p m'
      | .inr q => jyC b q.1 m' ∧ jzV (jenv r k f cp) q.2 (H + 1) v
    rw [jgd_t hB.1.1, a1, jb_some]
    cases hr : sub s with
    | inl p =>
      rw [hr] at a4
      obtain ⟨F', rfl⟩ := jsucc hF
      rw [hL.2.2 F' m1 p v hB1 a4, jb_some]
      exact ⟨v, m1, rfl, a2, a3, a4⟩
    | inr q =>
      rw [hr] at a4
      obtain ⟨w1, w2⟩ := hM s hW q hr
      obtain ⟨v', m2, b1, b2, b3, b4⟩ := y_loop hF hL hI hJ hM 160 F m1 q.1 v (by omega) (by omega) hB1 (jyE_of a2 hE) a4.1 a3 w1
      rw [b1, jb_some, jzbd_r]
      refine ⟨v', m2, rfl, a2.trans b2, b3, ?_⟩
      cases hx : jzl (jzs b n) sub lv 160 q.1 with
      | inl p =>
        rw [hx] at b4
        exact b4
      | inr q2 =>
        rw [hx] at b4
        exact ⟨b4.1, jzV_tail a4.2 (by omega) b4.2⟩
  · intro m p hB hE hD h23
    obtain ⟨v, m1, a1, a2, a3, a4⟩ := hJ m p hB hE hD h23
    have hB1 := jyB_of a2 hB
    obtain ⟨F', rfl⟩ := jsucc hF
    refine ⟨v, m1, ?_, a2, a3, a4⟩
    show (jgd (jK m 101 = 42) <| jb (g m) fun t3 => jb (lf (F' + 1) t3.2 t3.1) fun e => some (e.2, e.1)) = _
    rw [jgd_t hB.1.1, a1, jb_some, hL.2.2 F' m1 p v hB1 a4, jb_some]
theorem jjn_11 (v w : Int32) : jjn (Int32.ofNat 11) v w = if v = 0 then (if w = 0 then 0 else 1) else 1 := by
  unfold jjn
  rw [if_neg (by decide), if_neg (by decide), if_neg (by decide), if_neg (by decide), if_neg (by decide), if_neg (by decide), if_neg (by decide)]
  by_cases h : v = 0
  · rw [if_pos h]
    by_cases h2 : w = 0
    · rw [if_pos h2, decide_eq_false (by simp [h, h2])]
      rfl
    · rw [if_neg h2, decide_eq_true (Or.inr h2)]
      rfl
  · rw [if_neg h, decide_eq_true (Or.inl h)]
    rfl
theorem jjn_10 (v w : Int32) : jjn (Int32.ofNat 10) v w = if v = 0 then 0 else if w = 0 then 0 else 1 := by
  unfold jjn
  rw [if_neg (by decide), if_neg (by decide), if_neg (by decide), if_neg (by decide), if_neg (by decide), if_neg (by decide), if_pos (by decide)]
  by_cases h : v = 0
  · rw [if_pos h, decide_eq_false (fun q => q.1 h)]
    rfl
  · rw [if_neg h]
    by_cases h2 : w = 0
    · rw [if_pos h2, decide_eq_false (fun q => q.2 h2)]
      rfl
    · rw [if_neg h2, decide_eq_true ⟨h, h2⟩]
      rfl
theorem y_l_either {G : Nat → jMe → Nat → Option (Int32 × jMe)} : jyL1 F t b n (fun x m v => c_X10_either_l5 F G x m 101 v) (fun m => G 4 m 101) 0 := by
  have hw : ∀ m s, jyB t b n m → jyC b s m → jzW n s → c_X10_isWord F m 101 (111 : Int32) (114 : Int32) (0 : Int32) (0 : Int32) (0 : Int32) (0 : Int32) (0 : Int32) (0 : Int32) = some (jbi (decide ((s.1, s.2.1) = jwT 10 ∧ 3 ≤ s.1 ∧ s.1 ≤ 7))) := fun m s hB hC hW => y_isWordC (i := 10) hB hC hW (by omega)
  refine ⟨fun x m s v o m1 w m2 z hB hC hW ho h1 h2 h3 h4 => ?_, fun x m s v hB hC hW ho => ?_, fun x m p v hB hD => ?_⟩
  · show c_X10_either_l5_b F G _ m 101 v = _
    unfold c_X10_either_l5_b
    rw [jzop_i0] at ho
    by_cases e : s.1 = 5
    · rw [if_pos e] at ho
      cases ho
      have hT : (s.1, s.2.1) = jwT 10 := by
        obtain ⟨d1, d2, d3, d4⟩ := hC.2.2.2.2.2.2.1 (by omega) (by omega)
        rcases jznl_c (jzwd_97 d3) with ⟨i, hi, e2⟩ | ⟨-, e2⟩
        · rw [jzn_e, e2, jwN_T i hi] at d2
          have : ∀ i, i < 13 → (jwT i).1 = 5 → i = 10 := by decide
          have := this i hi (by rw [d2]; exact e)
          subst this
          exact d2.symm
        · rw [jzn_e, e2] at d2
          have : (0 : Nat) = s.1 := congrArg Prod.fst d2
          omega
      rw [jgd_t hB.1.1, hw m s hB hC hW, jb_some, decide_eq_true ⟨hT, by omega, by omega⟩, if_neg (by decide), h1, jb_some, jgd_t h2]
      have h3 : G 4 m1 101 = some (w, m2) := h3
      rw [h3, jb_some]
      rw [jjn_11] at h4
      by_cases q : v = 0
      · rw [if_pos q]
        rw [if_pos q] at h4
        by_cases q2 : w = 0
        · rw [if_pos q2]
          rw [if_pos q2] at h4
          exact h4
        · rw [if_neg q2]
          rw [if_neg q2] at h4
          exact h4
      · rw [if_neg q]
        rw [if_neg q] at h4
        exact h4
    · rw [if_neg e] at ho
      cases ho
  · show c_X10_either_l5_b F G _ m 101 v = _
    unfold c_X10_either_l5_b
    rw [jzop_i0] at ho
    have e : ¬ s.1 = 5 := fun e => by rw [if_pos e] at ho; cases ho
    rw [jgd_t hB.1.1, hw m s hB hC hW, jb_some, decide_eq_false (fun h => e (congrArg Prod.fst h.1)), if_pos (by decide)]
  · show c_X10_either_l5_b F G _ m 101 v = _
    unfold c_X10_either_l5_b
    have hd : c_X10_isWord F m 101 (111 : Int32) (114 : Int32) (0 : Int32) (0 : Int32) (0 : Int32) (0 : Int32) (0 : Int32) (0 : Int32) = some 0 := y_isWordD (i := 10) hB hD (by omega)
    rw [jgd_t hB.1.1, hd, jb_some, if_pos rfl]
theorem y_l_both {G : Nat → jMe → Nat → Option (Int32 × jMe)} : jyL1 F t b n (fun x m v => c_X10_both_l5 F G x m 101 v) (fun m => G 3 m 101) 1 := by
  have hw : ∀ m s, jyB t b n m → jyC b s m → jzW n s → c_X10_isWord F m 101 (97 : Int32) (110 : Int32) (100 : Int32) (0 : Int32) (0 : Int32) (0 : Int32) (0 : Int32) (0 : Int32) = some (jbi (decide ((s.1, s.2.1) = jwT 11 ∧ 3 ≤ s.1 ∧ s.1 ≤ 7))) := fun m s hB hC hW => y_isWordC (i := 11) hB hC hW (by omega)
  refine ⟨fun x m s v o m1 w m2 z hB hC hW ho h1 h2 h3 h4 => ?_, fun x m s v hB hC hW ho => ?_, fun x m p v hB hD => ?_⟩
  · show c_X10_both_l5_b F G _ m 101 v = _
    unfold c_X10_both_l5_b
    rw [jzop_i1] at ho
    by_cases e : s.1 = 6
    · rw [if_pos e] at ho
      cases ho
      have hT : (s.1, s.2.1) = jwT 11 := by
        obtain ⟨d1, d2, d3, d4⟩ := hC.2.2.2.2.2.2.1 (by omega) (by omega)
        rcases jznl_c (jzwd_97 d3) with ⟨i, hi, e2⟩ | ⟨-, e2⟩
        · rw [jzn_e, e2, jwN_T i hi] at d2
          have : ∀ i, i < 13 → (jwT i).1 = 6 → i = 11 := by decide
          have := this i hi (by rw [d2]; exact e)
          subst this
          exact d2.symm
        · rw [jzn_e, e2] at d2
          have : (0 : Nat) = s.1 := congrArg Prod.fst d2
          omega
      rw [jgd_t hB.1.1, hw m s hB hC hW, jb_some, decide_eq_true ⟨hT, by omega, by omega⟩, if_neg (by decide), h1, jb_some, jgd_t h2]
      have h3 : G 3 m1 101 = some (w, m2) := h3
      rw [h3, jb_some]
      rw [jjn_10] at h4
      by_cases q : v = 0
      · rw [if_pos q]
        rw [if_pos q] at h4
        exact h4
      · rw [if_neg q]
        rw [if_neg q] at h4
        by_cases q2 : w = 0
        · rw [if_pos q2]
          rw [if_pos q2] at h4
          exact h4
        · rw [if_neg q2]
          rw [if_neg q2] at h4
          exact h4
    · rw [if_neg e] at ho
      cases ho
  · show c_X10_both_l5_b F G _ m 101 v = _
    unfold c_X10_both_l5_b
    rw [jzop_i1] at ho
    have e : ¬ s.1 = 6 := fun e => by rw [if_pos e] at ho; cases ho
    rw [jgd_t hB.1.1, hw m s hB hC hW, jb_some, decide_eq_false (fun h => e (congrArg Prod.fst h.1)), if_pos (by decide)]
  · show c_X10_both_l5_b F G _ m 101 v = _
    unfold c_X10_both_l5_b
    have hd : c_X10_isWord F m 101 (97 : Int32) (110 : Int32) (100 : Int32) (0 : Int32) (0 : Int32) (0 : Int32) (0 : Int32) (0 : Int32) = some 0 := y_isWordD (i := 11) hB hD (by omega)
    rw [jgd_t hB.1.1, hd, jb_some, if_pos rfl]
theorem jyC_sg {m : jMe} {s : jS0} (hC : jyC b s m) (hW : jzW n s) (h : 8 ≤ s.1) {x : Nat} (hx : x < 256) : lg_cmp (jL m 101 22) (Int64.ofNat x) = 0 ↔ s.1 = x := by
  have := hW.2.2.2.2.1
  rw [(hC.2.2.2.2.2.2.2 h).2, jc_eq0]
  exact jq_eq (by unfold jMX; omega) (by unfold jMX; omega)
theorem jjn_45 (v w : Int32) : jjn (Int32.ofNat 4) v w = v + w ∧ jjn (Int32.ofNat 5) v w = v - w ∧ jjn (Int32.ofNat 6) v w = v * w ∧ jjn (Int32.ofNat 7) v w = (if w = 0 then 0 else jrem v w) := by
  unfold jjn
  refine ⟨if_pos (by decide), ?_, ?_, ?_⟩
  · rw [if_neg (by decide), if_pos (by decide)]
  · rw [if_neg (by decide), if_neg (by decide), if_pos (by decide)]
  · rw [if_neg (by decide), if_neg (by decide), if_neg (by decide), if_pos (by decide)]
theorem y_l_added {G : Nat → jMe → Nat → Option (Int32 × jMe)} : jyL1 F t b n (fun x m v => c_X10_added_l5 F G x m 101 v) (fun m => G 1 m 101) 4 := by
  have hw : ∀ m s, jyB t b n m → jyC b s m → jzW n s → c_X10_isSign F m 101 (43 : Int32) = some (jbi (decide (s.1 = 43))) := fun m s hB hC hW => y_isSignC (x := 43) hB hC hW (by omega) (by omega)
  have hw2 : ∀ m s, jyB t b n m → jyC b s m → jzW n s → c_X10_isSign F m 101 (45 : Int32) = some (jbi (decide (s.1 = 45))) := fun m s hB hC hW => y_isSignC (x := 45) hB hC hW (by omega) (by omega)
  refine ⟨fun x m s v o m1 w m2 z hB hC hW ho h1 h2 h3 h4 => ?_, fun x m s v hB hC hW ho => ?_, fun x m p v hB hD => ?_⟩
  · show c_X10_added_l5_b F G _ m 101 v = _
    unfold c_X10_added_l5_b c_X10_added_j23_l5 c_X10_added_j39_l5
    rw [jzop_i4] at ho
    have h3 : G 1 m1 101 = some (w, m2) := h3
    rw [hw m s hB hC hW, hw2 m s hB hC hW]
    simp only [jgd_t hB.1.1, jb_some, h1, jgd_t h2, h3]
    by_cases e : s.1 = 43
    · rw [if_pos e] at ho
      cases ho
      rw [(jjn_45 v w).1] at h4
      rw [decide_eq_true e, if_neg (show ¬ jbi true = 0 by decide), if_pos ((show lg_cmp (jL m 101 22) 43 = 0 ↔ s.1 = 43 from jyC_sg (x := 43) hC hW (by omega) (by omega)).mpr e), if_neg (show ¬ (1 : Int32) = 0 by decide)]
      exact h4
    · rw [if_neg e] at ho
      by_cases e2 : s.1 = 45
      · rw [if_pos e2] at ho
        cases ho
        rw [(jjn_45 v w).2.1] at h4
        rw [decide_eq_false e, decide_eq_true e2, if_pos (show jbi false = 0 from rfl), if_neg (show ¬ jbi true = 0 by decide), if_neg (show ¬ lg_cmp (jL m 101 22) 43 = 0 from fun h => e ((jyC_sg (x := 43) hC hW (by omega) (by omega)).mp h))]
        first | exact h4 | (rw [if_pos rfl]; exact h4) | (rw [if_pos trivial]; exact h4)
      · rw [if_neg e2] at ho
        cases ho
  · show c_X10_added_l5_b F G _ m 101 v = _
    unfold c_X10_added_l5_b
    rw [jzop_i4] at ho
    have e : ¬ s.1 = 43 := fun e => by rw [if_pos e] at ho; cases ho
    rw [if_neg e] at ho
    have e2 : ¬ s.1 = 45 := fun e => by rw [if_pos e] at ho; cases ho
    rw [jgd_t hB.1.1, hw m s hB hC hW, hw2 m s hB hC hW, jb_some, jb_some, decide_eq_false e, decide_eq_false e2, if_pos (by decide), if_pos (by decide)]
  · show c_X10_added_l5_b F G _ m 101 v = _
    unfold c_X10_added_l5_b
    rw [jgd_t hB.1.1, y_isSignD hB hD, y_isSignD hB hD, jb_some, jb_some, if_pos rfl, if_pos rfl]
theorem y_l_term {G : Nat → jMe → Nat → Option (Int32 × jMe)} : jyL1 F t b n (fun x m v => c_X10_term_l5 F G x m 101 v) (fun m => G 0 m 101) 5 := by
  have hw : ∀ m s, jyB t b n m → jyC b s m → jzW n s → c_X10_isSign F m 101 (42 : Int32) = some (jbi (decide (s.1 = 42))) := fun m s hB hC hW => y_isSignC (x := 42) hB hC hW (by omega) (by omega)
  have hw2 : ∀ m s, jyB t b n m → jyC b s m → jzW n s → c_X10_isSign F m 101 (37 : Int32) = some (jbi (decide (s.1 = 37))) := fun m s hB hC hW => y_isSignC (x := 37) hB hC hW (by omega) (by omega)
  refine ⟨fun x m s v o m1 w m2 z hB hC hW ho h1 h2 h3 h4 => ?_, fun x m s v hB hC hW ho => ?_, fun x m p v hB hD => ?_⟩
  · show c_X10_term_l5_b F G _ m 101 v = _
    unfold c_X10_term_l5_b c_X10_term_j23_l5 c_X10_term_j39_l5
    rw [jzop_i5] at ho
    have h3 : G 0 m1 101 = some (w, m2) := h3
    rw [hw m s hB hC hW, hw2 m s hB hC hW]
    simp only [jgd_t hB.1.1, jb_some, h1, jgd_t h2, h3]
    by_cases e : s.1 = 42
    · rw [if_pos e] at ho
      cases ho
      rw [(jjn_45 v w).2.2.1] at h4
      rw [decide_eq_true e, if_neg (show ¬ jbi true = 0 by decide), if_pos ((show lg_cmp (jL m 101 22) 42 = 0 ↔ s.1 = 42 from jyC_sg (x := 42) hC hW (by omega) (by omega)).mpr e), if_neg (show ¬ (1 : Int32) = 0 by decide)]
      exact h4
    · rw [if_neg e] at ho
      by_cases e2 : s.1 = 37
      · rw [if_pos e2] at ho
        cases ho
        rw [(jjn_45 v w).2.2.2] at h4
        rw [decide_eq_false e, decide_eq_true e2, if_pos (show jbi false = 0 from rfl), if_neg (show ¬ jbi true = 0 by decide), if_neg (show ¬ lg_cmp (jL m 101 22) 42 = 0 from fun h => e ((jyC_sg (x := 42) hC hW (by omega) (by omega)).mp h))]
        have hgo : (if w = 0 then c_X10_term_l5 F G x m2 101 0 else jgd (¬ w = 0) (c_X10_term_l5 F G x m2 101 (jrem v w))) = some z := by
          by_cases q : w = 0
          · rw [if_pos q]
            rw [if_pos q] at h4
            exact h4
          · rw [if_neg q, jgd_t q]
            rw [if_neg q] at h4
            exact h4
        first | exact hgo | (rw [if_pos rfl]; exact hgo) | (rw [if_pos trivial]; exact hgo)
      · rw [if_neg e2] at ho
        cases ho
  · show c_X10_term_l5_b F G _ m 101 v = _
    unfold c_X10_term_l5_b
    rw [jzop_i5] at ho
    have e : ¬ s.1 = 42 := fun e => by rw [if_pos e] at ho; cases ho
    rw [if_neg e] at ho
    have e2 : ¬ s.1 = 37 := fun e => by rw [if_pos e] at ho; cases ho
    rw [jgd_t hB.1.1, hw m s hB hC hW, hw2 m s hB hC hW, jb_some, jb_some, decide_eq_false e, decide_eq_false e2, if_pos (by decide), if_pos (by decide)]
  · show c_X10_term_l5_b F G _ m 101 v = _
    unfold c_X10_term_l5_b
    rw [jgd_t hB.1.1, y_isSignD hB hD, y_isSignD hB hD, jb_some, jb_some, if_pos rfl, if_pos rfl]
end YREAD
