/-! find, shuffle, as the class tells them -/
section XPL2
variable {F b : Nat} {D : jD}
theorem jsd_0 {P : Nat → Bool} {R : Nat → Nat} {m : jMe} (h : ∀ x, x < 4 → P x = false) (h16 : jI m b 16 = 0) (h17 : jI m b 17 = 0) : jsd D P R b m := by
  have hs : ∀ a, jSs D P a = false := fun a => by
    cases e : jSs D P a with
    | false => rfl
    | true =>
      obtain ⟨r, h1, h2, -⟩ := jSs_iff.mp e
      rw [h r h1] at h2
      cases h2
  refine ⟨fun a _ => by rw [h17, jnb_0, hs]; rfl, fun a r _ hr hp => ?_, fun a _ _ => by rw [h16, jnb_0], fun r hr hp => ?_⟩
  · rw [h r hr] at hp
    cases hp
  · rw [h r hr] at hp
    cases hp
/-- what stands is cleared -/
theorem jclear_f (m : jMe) : jfr (jSle b) m (jsI (jsI m b 16 (0 : Int32)) b 17 (0 : Int32)) := (jsI_f (S := jSle b) (Or.inl rfl)).trans (jsI_f (S := jSle b) (Or.inl rfl))
theorem jclear_I (m : jMe) {j : Nat} (h1 : j ≠ 16) (h2 : j ≠ 17) : jI (jsI (jsI m b 16 (0 : Int32)) b 17 (0 : Int32)) b j = jI m b j := by
  rw [jsI_no (fun q => h2 q.2), jsI_no (fun q => h1 q.2)]
theorem jclear_n (m : jMe) {a : Nat} (h : a ≠ b) : jI (jsI (jsI m b 16 (0 : Int32)) b 17 (0 : Int32)) a = jI m a := by
  rw [jsI_n h, jsI_n h]
theorem jclear_L (m : jMe) : jL (jsI (jsI m b 16 (0 : Int32)) b 17 (0 : Int32)) = jL m := by
  rw [jL_sI, jL_sI]
theorem q_placeOf (hF : 2000 < F) (hD : jDok D) (hq0 : jDq D ≠ 0) {m : jMe} (hJ : jJ D b m) (hg : jI m b 5 = 0) {y : Int32} : ∃ m', c_X2_placeOf F m b y = some (jlN (jfind D y), m') ∧ jfr (jSle b) m m' ∧ (∀ j, j ≠ 16 → j ≠ 17 → jI m' b j = jI m b j) ∧ jL m' b = jL m b := by
  obtain ⟨hI, hM, h13, hp, hbo, g, g1, g2, g3⟩ := hJ
  have hgf : g = false := by
    rw [g1, jbi_0] at hg
    exact hg
  obtain ⟨hRd, -, -, -⟩ := g3 hgf
  obtain ⟨root, hT, hrt, hr4, hro⟩ := jtree0 hD
  rw [if_neg hq0] at hrt
  have hro := hro hq0
  have hf0 := jclear_f (b := b) m
  have hI0 : jIn D b (jsI (jsI m b 16 (0 : Int32)) b 17 (0 : Int32)) := jIn_fr (S := jSle b) (fun a q => by unfold jSle at q; omega) hf0 hI
  obtain ⟨z, m1, a1, a2, a3, a4, a5⟩ := q_isAnswer_l14 (F := F) hD (jDok_q hD) 4 F y (jsI (jsI m b 16 (0 : Int32)) b 17 (0 : Int32)) (fun _ => 0) (by omega) (by omega) hI0 (by rw [jclear_I m (by omega) (by omega)]; exact h13) (fun r hr => by rw [jclear_n m (by omega)]; exact hp r hr) (jsd_0 (fun x hx => by rw [decide_eq_false (by omega), Bool.and_false]) (by rw [jsI_no (by omega), jsI_y]) jsI_y)
  have a1 : c_X2_isAnswer_l14 F F (jsI (jsI m b 16 (0 : Int32)) b 17 (0 : Int32)) b y (3 : Int32) = some z := a1
  have hf1 : jfr (jSle b) m m1 := hf0.trans a2
  have hL1 : jL m1 = jL m := by rw [a3, jclear_L]
  have hj1 : ∀ j, j ≠ 16 → j ≠ 17 → jI m1 b j = jI m b j := fun j h1 h2 => by rw [a4 j h1 h2, jclear_I m h1 h2]
  have hno : (∀ u, jb2 (some z) (fun q => some q) (fun e21 => (if e21.2 = 0 then some ((1 : Int32), e21.1) else some ((0 : Int32), e21.1))) = some (0, m1) → jfind D y = none → c_X2_placeOf F m b y = u → u = some (jlN (jfind D y), m1)) := by
    intro u h hn hu
    rw [← hu, hn]
    unfold c_X2_placeOf c_X2_isAnswer
    rw [jgd_t hI.1.1, jgd_t hI.1.1, a1, h, jb_some, if_pos rfl]
    rfl
  unfold jfind at hno ⊢
  cases ej : jfdg D 4 y (fun _ => 0) with
  | none =>
    rw [ej] at a5 hno
    have a5 : z = .inl (0, m1) := a5
    subst a5
    exact ⟨m1, hno _ rfl rfl rfl, hf1, hj1, by rw [hL1]⟩
  | some p =>
    obtain ⟨R, y'⟩ := p
    rw [ej] at a5 hno
    dsimp only at a5 hno ⊢
    by_cases ek : jokd D R 4 = true
    · rw [if_pos ek] at a5
      obtain ⟨rfl, hs1⟩ := a5
      by_cases ey : y' = 0
      · subst ey
        have hok4 : ∀ r, r < 4 → (jDq D).testBit r = true → jokc D R r = true := jokd_iff.mp ek
        have hok : jansR D R := by
          intro r hr hq
          obtain ⟨k1, k2⟩ := jokc_iff.mp (hok4 r hr hq)
          refine ⟨(hs1.2.2.2 r hr hq).2, k1, fun q hq4 hqq hne => ?_⟩
          rcases Nat.lt_or_gt_of_ne hne with h | h
          · rw [jmt_sym]
            exact (jokc_iff.mp (hok4 q hq4 hqq)).2 r hr hq h
          · exact k2 q hq4 hqq h
        have hI1 : jIn D b m1 := jIn_fr (S := jSle b) (fun a q => by unfold jSle at q; omega) hf1 hI
        have hM1 : jTM D (b + 1) m1 := jTM_of (fun a q1 q2 => hf1.2.2.2.2.2.1 a (by unfold jSle; omega)) hM
        obtain ⟨m2, b1, b2, b3, b4⟩ := q_placeOf_l14 (F := F) (by omega) hD hT hok (jord D) [] F m1 rfl (by have := jord_le hT; omega) hI1 hM1 (fun r hr => jRd_of (by rw [hL1]) (by rw [hL1]) (hRd r hr)) (fun x hx hq => (hs1.2.2.2 x hx hq).1) (fun x hx => by cases hx)
        have b1 : c_X2_placeOf_l14 F F m1 b (0 : Int32) = some (m2, b) := b1
        have hf2 : jfr (jSle b) m m2 := hf1.trans (b2.weak (fun a q => Or.inr (Or.inr q)))
        have hI2 : jIn D b m2 := jIn_fr (S := jSle b) (fun a q => by unfold jSle at q; omega) hf2 hI
        have hM2 : jTM D (b + 1) m2 := jTM_of (fun a q1 q2 => hf2.2.2.2.2.2.1 a (by unfold jSle; omega)) hM
        have hLT2 := hI2.1.2.2.2.2.2.2.2.2.2.2.2.2.2.2.2.2.2.2
        have hld2 := hI2.1.2.2.2.2.2.2.2.2.2.2.2.2.2.2.2.2.2.1
        have hf3 : jfr (jSle b) m (jsI (jsI m2 b 16 (0 : Int32)) b 17 (0 : Int32)) := hf2.trans (jclear_f m2)
        have hI3 : jIn D b (jsI (jsI m2 b 16 (0 : Int32)) b 17 (0 : Int32)) := jIn_fr (S := jSle b) (fun a q => by unfold jSle at q; omega) hf3 hI
        have hM3 : jTM D (b + 1) (jsI (jsI m2 b 16 (0 : Int32)) b 17 (0 : Int32)) := jTM_of (fun a q1 q2 => hf3.2.2.2.2.2.1 a (by unfold jSle; omega)) hM
        have hR3 : ∀ x, x < 4 → (jDq D).testBit x = true → jI (jsI (jsI m2 b 16 (0 : Int32)) b 17 (0 : Int32)) (b + 12) x = Int32.ofNat (R x) := fun x hx hq => by
          rw [jclear_n m2 (by omega), b3]
          exact (hs1.2.2.2 x hx hq).1
        obtain ⟨m4, c1, c2, c3, c4, c5, c6⟩ := q_placeOf_l99 (F := F) (by omega) hD hok (p := Int64.ofNat (jlst D R 4 root)) 4 0 F (jsI (jsI m2 b 16 (0 : Int32)) b 17 (0 : Int32)) (by omega) (by omega) hI3 hM3 (jsd_0 (fun x hx => by rw [decide_eq_false (Nat.not_lt_zero x), Bool.and_false]) (by rw [jsI_no (by omega), jsI_y]) jsI_y) hR3
        have c1 : c_X2_placeOf_l99 F F (jsI (jsI m2 b 16 (0 : Int32)) b 17 (0 : Int32)) b (Int64.ofNat (jlst D R 4 root)) (0 : Int32) = some (m4, b, Int64.ofNat (jlst D R 4 root)) := c1
        have hf4 : jfr (jSle b) m m4 := hf3.trans c2
        obtain ⟨m5, d1, d2, d3, d4⟩ := q_placeOf_l142 (F := F) (by omega) hD hok 4 0 F (jlst D R 4 root) m4 (by omega) (by omega) (jIn_fr (S := jSle b) (fun a q => by unfold jSle at q; omega) hf4 hI) (jTM_of (fun a q1 q2 => hf4.2.2.2.2.2.1 a (by unfold jSle; omega)) hM) (fun x hx => by rw [hf4.2.2.2.2.2.1 (b + 11) (by unfold jSle; omega)]; exact hp x hx) (fun x hx => by rw [hf4.2.2.2.2.2.2 (b + 7) (by unfold jSle; omega)]; exact hbo x hx) (jsd_c (fun x _ => by unfold jPc; rw [decide_eq_false (Nat.not_lt_zero x), Bool.and_false, Bool.or_false]) c5) (fun x hx hq => by rw [c6]; exact hR3 x hx hq)
        have d1 : c_X2_placeOf_l142 F F m4 b (Int64.ofNat (jlst D R 4 root)) (0 : Int32) = _ := d1
        refine ⟨m5, ?_, hf4.trans d2, fun j h1 h2 => ?_, ?_⟩
        · rw [if_pos ⟨rfl, by rw [← jokd_ok]; exact ek⟩]
          unfold c_X2_placeOf c_X2_isAnswer c_X2_placeOf_j85
          rw [jgd_t hI.1.1, jgd_t hI.1.1, a1, jb2_r]
          dsimp only
          rw [if_pos rfl, jb_some]
          dsimp only
          rw [if_neg (by decide), b1, jb_some]
          dsimp only
          rw [jgd_t hI2.1.1, hI2.1.2.1, jgd_t hLT2.1, hM2.2.2.2.2.2.2, hrt, show jo1 (some root) = Int32.ofNat root from rfl, if_neg (ji_ne1 (by omega)), hI2.1.2.2.2.2.2.2.2.2.2.1, jgd_t hld2.1, hld2.2, jgd_t (ji_int (by omega) hr4), ji_n (by omega), b4 root hro, jgd_t hI2.1.1, c1, jb_some]
          dsimp only
          rw [d1, jb_some]
          unfold jplc1
          rw [hrt]
          rfl
        · rw [d4 j h1 h2, c4 j h1 h2, jclear_I m2 h1 h2, b3, hj1 j h1 h2]
        · rw [d3, c3, jclear_L, b2.2.2.2.2.2.2 b (by omega), hL1]
      · rw [if_neg (fun q => ey q.1)] at hno ⊢
        exact ⟨m1, hno _ (by rw [jb2_r]; dsimp only; rw [if_neg ey]) rfl rfl, hf1, hj1, by rw [hL1]⟩
    · rw [if_neg ek] at a5
      subst a5
      have hnk : ¬ (y' = 0 ∧ jall4 (jok D R) = true) := fun q => ek (by rw [jokd_ok]; exact q.2)
      rw [if_neg hnk] at hno ⊢
      exact ⟨m1, hno _ rfl rfl rfl, hf1, hj1, by rw [hL1]⟩
end XPL2
section XSHUF
variable {F w : Nat} {D : jD} {m : jMe}
theorem xq_find (hF : 2000 < F) (h : xqQ D w m) {g : Bool} (hg : g = true ↔ jGt D) {x1 : Int32} : ∃ m', c_X9_find F m 32 x1 = some (if jDq D ≠ 0 ∧ g = false then jlN (jfind D x1) else -4611686018427387904, m') ∧ xqF xqO m m' ∧ xqQ D w m' := by
  have hL := h.1.2.1.1
  unfold c_X9_find
  obtain ⟨m1, a1, a2, a3, a4⟩ := xq_told (F := F) hF h hg
  have hJ := a3.2.2.1.1.1
  rw [jgd_t hL.1, a1, jb_some]
  dsimp only
  rw [jgd_t hJ.1]
  rcases a4 with ⟨e2, e3, e4⟩ | ⟨e2, e4⟩
  · rw [e4, jb_some, if_neg (show ¬ (1 : Int32) = 0 by decide), jgd_t a3.1.2.1.1.1, xq_cur0 a3, jb_some]
    dsimp only
    have hgr := (xq_great a3 hg).1
    rw [e3] at hgr
    obtain ⟨m2, b1, b2, b3, b4⟩ := q_placeOf (F := F) hF h.1.1 e2 a3.2.2.1 hgr (y := x1)
    obtain ⟨c1, c2⟩ := xqC_dr a3 (b2.weak (fun a q => by unfold jSle at q; unfold jSdr; omega)) (fun j h1 h2 h3 => b3 j h2 h3) b4
    rw [jgd_t hJ.1, b1, jb_some, if_pos (show jDq D ≠ 0 ∧ g = false from ⟨e2, e3⟩)]
    exact ⟨m2, rfl, a2.trans c2, xqC_Q c1⟩
  · rw [e4, jb_some, if_pos rfl, if_neg e2]
    exact ⟨m1, rfl, a2, xqC_Q a3⟩
/-- the last of pairs that has a key -/
def jsta (K V : Nat → Nat) (x : Nat) : Nat → Nat
  | 0 => x
  | k + 1 => if K k = x then V k else jsta K V x k
theorem jsta_c {K V K' V' : Nat → Nat} {x : Nat} : ∀ (k : Nat), (∀ j, j < k → K j = K' j ∧ V j = V' j) → jsta K V x k = jsta K' V' x k := by
  intro k
  induction k with
  | zero => intro _; rfl
  | succ k ih =>
    intro h
    rw [jsta, jsta, (h k (by omega)).1, (h k (by omega)).2, ih (fun j hj => h j (by omega))]
theorem q_standingAt (hF : 100 < F) (hL : xqL4 m) {K V : Nat → Nat} {k x : Nat} (hk : k ≤ 8) (hx : x ≤ jMX) (hKV : ∀ j, j < k → jL m 45 j = Int64.ofNat (K j) ∧ jL m 46 j = Int64.ofNat (V j) ∧ K j ≤ jMX) : c_X6_standingAt F m 43 (Int64.ofNat x) (Int32.ofNat k) = some (Int64.ofNat (jsta K V x k)) := by
  have hl : ∀ (k f : Nat), k ≤ 8 → (∀ j, j < k → jL m 45 j = Int64.ofNat (K j) ∧ jL m 46 j = Int64.ofNat (V j) ∧ K j ≤ jMX) → k < f → jb2 (c_X6_standingAt_l5 F m f 43 (Int64.ofNat x) (Int32.ofNat k - 1)) (fun q => some q) (fun e9 => some e9) = some (Int64.ofNat (jsta K V x k)) := by
    intro k
    induction k with
    | zero =>
      intro f _ _ h2
      obtain ⟨f, rfl⟩ := jsucc h2
      show jb2 (c_X6_standingAt_l5_b F _ m _ _ _) _ _ = _
      unfold c_X6_standingAt_l5_b
      rw [if_pos jdown0]
      rfl
    | succ k ih =>
      intro f h8 hKV h2
      obtain ⟨f, rfl⟩ := jsucc h2
      obtain ⟨v1, v2, v3⟩ := hKV k (by omega)
      show jb2 (c_X6_standingAt_l5_b F _ m _ _ _) _ _ = _
      unfold c_X6_standingAt_l5_b
      rw [jdown_s, if_neg (ji_ge0 (by omega)), jgd_t hL.1, hL.2.2.1, jgd_t hL.2.2.2.2.2.1, hL.2.2.2.2.2.2.1, jgd_t (ji_int (by omega) (by omega)), ji_n (by omega), v1, jsta]
      by_cases e : K k = x
      · rw [if_pos (jc_eq0.mpr (by rw [e])), if_pos e, hL.2.2.2.1, jgd_t hL.2.2.2.2.2.2.2.1, hL.2.2.2.2.2.2.2.2.1, jgd_t (ji_int (by omega) (by omega)), v2]
        rfl
      · rw [if_neg (fun q => e ((jq_eq v3 hx).mp (jc_eq0.mp q))), if_neg e, jdown]
        exact ih f (by omega) (fun j hj => hKV j (by omega)) (by omega)
  unfold c_X6_standingAt
  exact hl k F hk hKV (by omega)
theorem q_placed_l16 (hF : 1000 < F) {n p : Nat} (hn : n ≤ jMX) (hp : p < 8) (hpn : p + 1 ≤ n) : ∀ (t s f : Nat) (z : Int32) (K V St : Nat → Nat) (v : Int64) (m : jMe), s + t = p + 1 → t < f → xqL4 m → jI m 44 0 = z → (∀ j, j < s → jL m 45 j = Int64.ofNat (K j) ∧ jL m 46 j = Int64.ofNat (V j) ∧ K j ≤ jMX) → (∀ x, s ≤ x → St x = jsta K V x s) → ∃ m', c_X6_placed_l16 F f m 43 (Int64.ofNat n) (Int32.ofNat p) v (Int32.ofNat s) = some (m', if t = 0 then v else Int64.ofNat (jshu n t s z St p)) ∧ jfr (fun a => 44 ≤ a ∧ a ≤ 46) m m' := by
  intro t
  induction t with
  | zero =>
    intro s f z K V St v m h1 h2 hL hz hKV hSt
    obtain ⟨f, rfl⟩ := jsucc h2
    refine ⟨m, ?_, jfr.rfl⟩
    show c_X6_placed_l16_b F _ m _ _ _ _ _ = _
    unfold c_X6_placed_l16_b
    rw [if_pos (ji_ltp (by omega) (by omega) (by omega)), if_pos rfl]
  | succ t ih =>
    intro s f z K V St v m h1 h2 hL hz hKV hSt
    obtain ⟨f, rfl⟩ := jsucc h2
    obtain ⟨m1, a1, a2, a3, a4⟩ := q_below (F := F) (b := 44) hF (n := n - s) (by omega) (by omega) hL.2.2.2.2.1 hz
    have hlt : (jbelow (n - s) z).1 < n - s := jbe_lt (nx := jnx) (bt := jb1) (n := n - s) (s := jbn (n - s - 1) 63 0) (by omega) 30 z 0
    have hL1 : xqL4 m1 := by
      unfold xqL4 at hL ⊢
      rw [a2.2.2.1, a2.2.2.2.1, a2.2.2.2.2.1]
      exact hL
    have hKV1 : ∀ j, j < s → jL m1 45 j = Int64.ofNat (K j) ∧ jL m1 46 j = Int64.ofNat (V j) ∧ K j ≤ jMX := fun j hj => by rw [a3]; exact hKV j hj
    have hsa := q_standingAt (F := F) (by omega) hL1 (K := K) (V := V) (k := s) (x := s + (jbelow (n - s) z).1) (by omega) (by omega) hKV1
    have hsb := q_standingAt (F := F) (by omega) hL1 (K := K) (V := V) (k := s) (x := s) (by omega) (by omega) hKV1
    rw [← hSt _ (by omega)] at hsa hsb
    generalize hbl : (jbelow (n - s) z).1 = o at a1 hlt hsa
    have hf2 : jfr (fun a => 44 ≤ a ∧ a ≤ 46) m (jsL (jsL m1 46 s (Int64.ofNat (St s))) 45 s (Int64.ofNat (s + o))) := (a2.weak (fun a q => by omega)).trans ((jsL_f (S := fun a => 44 ≤ a ∧ a ≤ 46) (by omega)).trans (jsL_f (S := fun a => 44 ≤ a ∧ a ≤ 46) (by omega)))
    have hL2 : xqL4 (jsL (jsL m1 46 s (Int64.ofNat (St s))) 45 s (Int64.ofNat (s + o))) := hL1
    have hz2 : jI (jsL (jsL m1 46 s (Int64.ofNat (St s))) 45 s (Int64.ofNat (s + o))) 44 0 = (jbelow (n - s) z).2 := a4
    have g1 : ∀ j, jL (jsL (jsL m1 46 s (Int64.ofNat (St s))) 45 s (Int64.ofNat (s + o))) 45 j = if j = s then Int64.ofNat (s + o) else jL m1 45 j := fun j => by
      rw [jsL_g, jsL_g]
      by_cases e : j = s
      · rw [if_pos ⟨rfl, e⟩, if_pos e]
      · rw [if_neg (fun q => e q.2), if_neg (fun q => e q.2), if_neg e]
    have g2 : ∀ j, jL (jsL (jsL m1 46 s (Int64.ofNat (St s))) 45 s (Int64.ofNat (s + o))) 46 j = if j = s then Int64.ofNat (St s) else jL m1 46 j := fun j => by
      rw [jsL_no (by omega), jsL_g]
      by_cases e : j = s
      · rw [if_pos ⟨rfl, e⟩, if_pos e]
      · rw [if_neg (fun q => e q.2), if_neg e]
    generalize hm2 : jsL (jsL m1 46 s (Int64.ofNat (St s))) 45 s (Int64.ofNat (s + o)) = m2 at hf2 hL2 hz2 g1 g2
    obtain ⟨m', b1, b2⟩ := ih (s + 1) f (jbelow (n - s) z).2 (fun j => if j = s then s + o else K j) (fun j => if j = s then St s else V j) (fun x => if x = s + o then St s else if x = s then St (s + o) else St x) (Int64.ofNat (St (s + o))) m2 (by omega) (by omega) hL2 hz2 (fun j hj => by
      rw [g1, g2]
      by_cases e : j = s
      · rw [if_pos e, if_pos e, if_pos e, if_pos e]
        exact ⟨rfl, rfl, by omega⟩
      · rw [if_neg e, if_neg e, if_neg e, if_neg e]
        exact hKV1 j (by omega)) (fun x hx => by
      rw [jsta]
      rw [if_pos rfl, if_pos rfl]
      by_cases e : s + o = x
      · rw [if_pos e.symm, if_pos e]
      · rw [if_neg (fun q => e q.symm), if_neg e, if_neg (show ¬ x = s by omega), hSt x (by omega)]
        refine jsta_c s (fun j hj => ?_)
        rw [if_neg (show ¬ j = s by omega), if_neg (show ¬ j = s by omega)]
        exact ⟨rfl, rfl⟩)
    refine ⟨m', ?_, hf2.trans b2⟩
    have hval : (if t = 0 then Int64.ofNat (St (s + o)) else Int64.ofNat (jshu n t (s + 1) (jbelow (n - s) z).2 (fun x => if x = s + o then St s else if x = s then St (s + o) else St x) p)) = Int64.ofNat (jshu n (t + 1) s z St p) := by
      rw [jshu, hbl]
      by_cases e : t = 0
      · subst e
        rw [if_pos rfl]
        show _ = Int64.ofNat (if p = s + o then St s else if p = s then St (s + o) else St p)
        by_cases e2 : p = s + o
        · rw [if_pos e2, show o = 0 by omega, Nat.add_zero]
        · rw [if_neg e2, if_pos (by omega)]
      · rw [if_neg e]
    rw [hval] at b1
    show c_X6_placed_l16_b F _ m _ _ _ _ _ = _
    unfold c_X6_placed_l16_b
    rw [if_neg (ji_ltn (by omega) (by omega) (by omega)), if_neg (show ¬ (8 : Int32) ≤ Int32.ofNat s from ji_len (a := 8) (by omega) (by omega) (by omega)), jgd_t hL.1, hL.2.1, jgd_t hL.2.2.2.2.1, jt64 (by omega), jq_sub (by omega), a1, jb_some]
    dsimp only
    rw [jgd_t hL1.1, jq_add, hsa, jb_some, hsb, jb_some, hL1.2.2.2.1, jgd_t hL1.2.2.2.2.2.2.2.1, hL1.2.2.2.2.2.2.2.2.1, jgd_t (ji_int (by omega) (by omega)), jP_sL, hL1.2.2.1, jgd_t hL1.2.2.2.2.2.1, hL1.2.2.2.2.2.2.1, jgd_t (ji_int (by omega) (by omega)), ji_n (by omega), hm2, show Int32.ofNat s + 1 = Int32.ofNat (s + 1) from ji_add s 1, if_neg (Nat.succ_ne_zero t)]
    exact b1
theorem xq_shuffle (hF : 2000 < F) (h : xqQ D w m) {g : Bool} (hg : g = true ↔ jGt D) {x1 x2 x3 : Int32} : ∃ m', c_X9_shuffle F m 32 x1 x2 x3 = some (if jDq D ≠ 0 ∧ g = false then jlN (jshT D x1 x2 x3) else -4611686018427387904, m') ∧ xqF xqO m m' ∧ xqQ D w m' := by
  have hL := h.1.2.1.1
  unfold c_X9_shuffle jshT
  rw [xi_b8]
  cases e1 : jbt2 x2 1 8 with
  | false =>
    refine ⟨m, ?_, xqF.rfl, h⟩
    rw [Bool.false_and, if_neg (show ¬ (false = true ∧ _) from fun h => by cases h.1), if_neg (show ¬ (false = true) by decide), show jlN none = -4611686018427387904 from rfl, ite_self]
  | true =>
    obtain ⟨n, rfl, hn2, hn1, hn8⟩ := jbt2_nat e1
    rw [if_pos rfl, xi_ge (by omega), ji_n hn2, Bool.true_and]
    cases e2 : jin x3 n with
    | false =>
      refine ⟨m, ?_, xqF.rfl, h⟩
      rw [if_neg (show ¬ (false = true ∧ _) from fun h => by cases h.1), if_neg (show ¬ (false = true) by decide), show jlN none = -4611686018427387904 from rfl, ite_self]
    | true =>
      obtain ⟨i, rfl, hi2, hi⟩ := jin_nat e2
      obtain ⟨m1, a1, a2, a3, a4⟩ := xq_told (F := F) hF h hg
      have hJ := a3.2.2.1.1.1
      rw [if_pos rfl, jgd_t hL.1, a1, jb_some, ji_n hi2]
      dsimp only
      rw [jgd_t hJ.1]
      rcases a4 with ⟨e3, e5, e4⟩ | ⟨e3, e4⟩
      · obtain ⟨-, hs, hsm⟩ := (xq_great a3 hg).2 e5
        rw [e4, jb_some, if_neg (show ¬ (1 : Int32) = 0 by decide), jgd_t a3.1.2.1.1.1, xq_cur0 a3, jb_some]
        dsimp only
        rw [jgd_t hJ.1, hs, jt64 (by omega), if_pos (show jDq D ≠ 0 ∧ g = false from ⟨e3, e5⟩)]
        by_cases e6 : n ≤ jsp D 4
        · have hL4 := a3.1.2.1.2.2.2.2
          rw [if_pos (jc_0le.mpr ((jq_le (by unfold jMX; omega) hsm).mpr e6)), if_pos ⟨rfl, e6⟩, jgd_t a3.1.2.1.1.1, xq_cur0 a3, jb_some]
          dsimp only
          have hx2 : jfr (fun a => 44 ≤ a ∧ a ≤ 46) m1 (jsI m1 44 0 x1) := jsI_f (S := fun a => 44 ≤ a ∧ a ≤ 46) (by omega)
          obtain ⟨m2, b1, b2⟩ := q_placed_l16 (F := F) (by omega) (n := jsp D 4) (p := i) hsm (by omega) (by omega) (i + 1) 0 F x1 (fun _ => 0) (fun _ => 0) (fun x => x) (-4611686018427387904) (jsI m1 44 0 x1) (by omega) (by omega) hL4 jsI_y (fun j hj => absurd hj (Nat.not_lt_zero j)) (fun x _ => rfl)
          have b1 : c_X6_placed_l16 F F (jsI m1 44 0 x1) 43 (Int64.ofNat (jsp D 4)) (Int32.ofNat i) (-4611686018427387904 : Int64) (0 : Int32) = _ := b1
          have hx3 : xqF (fun a _ => 44 ≤ a ∧ a ≤ 46) m1 m2 := xqF_fr (hx2.trans b2) (fun _ _ q => q)
          rw [jgd_t hJ.1, a3.1.2.1.1.2.2.2.2.2.2.1, jgd_t hL4.1, hs]
          unfold c_X6_placed c_X0_begin
          rw [jgd_t hL4.1, hL4.2.1, jgd_t hL4.2.2.2.2.1, jgd_t hL4.2.2.2.2.1, jb_some, b1, jb_some, jb_some, if_neg (Nat.succ_ne_zero i)]
          exact ⟨m2, rfl, a2.trans (hx3.weak (fun a i q => by unfold xqO; omega)), xqC_Q (xqC_fx hx3 (fun a i q => by unfold xqV; omega) a3)⟩
        · rw [if_neg (fun q => e6 ((jq_le (by unfold jMX; omega) hsm).mp (jc_0le.mp q))), if_neg (fun q => e6 q.2)]
          exact ⟨m1, rfl, a2, xqC_Q a3⟩
      · rw [e4, jb_some, if_pos rfl, if_neg e3]
        exact ⟨m1, rfl, a2, xqC_Q a3⟩
end XSHUF
