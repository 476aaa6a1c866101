/-! sheets made, as the reference makes them; films; lots -/
section YFILM
variable {F : Nat} {D : jD} {S : jTS}
theorem y_sheet (hF : 1000 < F) {H : jHt} {m : jMe} (hL : jLM m) (hH : jyHm H m) {x1 x2 x3 : Int32} : ∃ m', c_X10_sheet F m 101 x1 x2 x3 = some ((jsht H x1 x2 x3).1, m') ∧ jfx (fun a _ => 125 ≤ a ∧ a ≤ 128) m m' ∧ jyHm (jsht H x1 x2 x3).2 m' := by
  unfold c_X10_sheet jsht
  rw [y_isSheet, jb_some, q_in_m12, jb_some]
  cases e1 : jin x1 4 with
  | false =>
    rw [if_pos (show jbi false = 0 from rfl), if_neg (fun q => by cases q.1)]
    exact ⟨m, rfl, jfx.rfl, hH⟩
  | true =>
    obtain ⟨s, rfl, hs2, hs⟩ := jin_nat e1
    rw [if_neg (show ¬ jbi true = 0 by decide), ji_n hs2]
    by_cases e2 : x2 = -1 ∨ jin x2 3 = true
    · rw [decide_eq_true e2, if_neg (show ¬ jbi true = 0 by decide), if_pos (show true = true ∧ (x2 = -1 ∨ jin x2 3 = true) from ⟨rfl, e2⟩)]
      unfold c_X10_sheet_j34 c_X10_sheet_j45
      rw [jgd_t hL.1, jp_125 hL]
      by_cases e3 : x2 = -1
      · have hx : x2 < 0 := by rw [e3]; decide
        obtain ⟨m', a1, a2, a3⟩ := y_sheet_j59 (F := F) hF hL hH hs (b := false) (x2 := x2) (x3 := x3) (t := 0) (n := 0) (Or.inr ⟨rfl, hx, rfl, rfl⟩)
        have a1 : c_X10_sheet_j59 F m 101 (Int32.ofNat s) x2 x3 (0 : Int32) (Int32.ofNat s) 125 = some (1, m') := a1
        rw [if_pos hx, if_pos hx, if_pos hx, if_pos e3, a1]
        exact ⟨m', rfl, a2, a3⟩
      · have e4 := e2.resolve_left e3
        obtain ⟨t, rfl, ht2, ht⟩ := jin_nat e4
        rw [if_neg (ji_ge0 ht2), if_neg (ji_ge0 ht2), if_neg (ji_ge0 ht2), if_neg e3, ji_n ht2]
        by_cases e5 : x3 ≤ 40
        · rw [if_pos e5, if_pos e5]
          by_cases e6 : 0 ≤ x3
          · obtain ⟨n, rfl, hn2⟩ := ji_nat (Int32.not_lt.mpr e6)
            have hn : n ≤ 40 := (ji_le hn2 (by omega)).mp e5
            obtain ⟨m', a1, a2, a3⟩ := y_sheet_j59 (F := F) hF hL hH hs (b := true) (x2 := Int32.ofNat t) (x3 := Int32.ofNat n) (t := t) (n := n) (Or.inl ⟨rfl, rfl, by omega, rfl, hn⟩)
            have a1 : c_X10_sheet_j59 F m 101 (Int32.ofNat s) (Int32.ofNat t) (Int32.ofNat n) (1 : Int32) (Int32.ofNat s) 125 = some (1, m') := a1
            rw [if_pos e6, if_pos e6, ji_n hn2, a1]
            exact ⟨m', rfl, a2, a3⟩
          · rw [if_neg e6, if_neg e6]
            exact ⟨m, rfl, jfx.rfl, hH⟩
        · rw [if_neg e5, if_neg e5]
          exact ⟨m, rfl, jfx.rfl, hH⟩
    · rw [decide_eq_false e2, if_pos (show jbi false = 0 from rfl), if_neg (fun q => e2 q.2)]
      exact ⟨m, rfl, jfx.rfl, hH⟩
/-- places that draws may change, and items -/
def jyFm (a i : Nat) : Prop := (jSpp a i ∨ a = 117 ∨ a = 118 ∨ (a = 101 ∧ (i = 31 ∨ i = 41 ∨ i = 43 ∨ i = 44))) ∨ (125 ≤ a ∧ a ≤ 128)
/-- what draws by seeds tell -/
def jdrv (D : jD) (k : Nat) : Int64 := Int32.toInt64 (jdgo D (jdraw D (Int32.ofNat k)).1)
theorem jHi_b {H : jHt} {s t n k : Nat} {b : Bool} {v : Nat → Int64} {x : Int64} : jHi (jHb H s b t n v) s k x = jHb H s b t n (fun i => if i = k then x else v i) := by
  unfold jHi jHb
  refine Prod.ext rfl (Prod.ext rfl (Prod.ext rfl (funext fun y => funext fun i => ?_)))
  show (if y = s ∧ i = k then x else (if y = s then v else H.2.2.2 y) i) = (if y = s then (fun i => if i = k then x else v i) else H.2.2.2 y) i
  by_cases e : y = s
  · by_cases e2 : i = k
    · rw [if_pos ⟨e, e2⟩, if_pos e, if_pos e2]
    · rw [if_neg (fun q => e2 q.2), if_pos e, if_pos e, if_neg e2]
  · rw [if_neg (fun q => e q.1), if_neg e, if_neg e]
/-- the first k of n told -/
def jfmv (D : jD) (k i : Nat) : Int64 := if i < k then jdrv D i else 0
theorem jfmv_s (D : jD) (k : Nat) : (fun i => if i = k then jdrv D k else jfmv D k i) = jfmv D (k + 1) := by
  funext i
  unfold jfmv
  by_cases e : i = k
  · rw [if_pos e, if_pos (by omega), e]
  · rw [if_neg e]
    by_cases e2 : i < k
    · rw [if_pos e2, if_pos (by omega)]
    · rw [if_neg e2, if_neg (by omega)]
theorem jHb_c {H : jHt} {s t n : Nat} {b : Bool} {v v' : Nat → Int64} {m : jMe} (h : ∀ i, i < n → v i = v' i) (hs : s < 4) (k : jyHm (jHb H s b t n v) m) : jyHm (jHb H s b t n v') m := by
  intro x hx
  have kx := k x hx
  unfold jHb at kx ⊢
  dsimp only at kx ⊢
  by_cases e : x = s
  · simp only [if_pos e] at kx ⊢
    obtain ⟨k1, k2, k3, k4, k5⟩ := kx
    exact ⟨k1, k2, k3, k4, fun i hi => by rw [k5 i hi, h i hi]⟩
  · simp only [if_neg e] at kx ⊢
    exact kx
theorem y_film_l52 (hF : 1000 < F) (hDS : jDS D S) (hq0 : jDq D ≠ 0) {H : jHt} {s n : Nat} (hs : s < 4) (hn : n ≤ 12) : ∀ (t k f : Nat) (m : jMe), k + t = n → t < f → jYg D S m → jyHm (jHb H s true 1 n (jfmv D k)) m → ∃ m', c_X10_film_l52 F f m 101 (Int32.ofNat s) (Int32.ofNat n) (Int32.ofNat k) = some (m', Int32.ofNat n) ∧ jfx jyFm m m' ∧ jYg D S m' ∧ jyHm (jHb H s true 1 n (jdrv D)) m' := by
  intro t
  induction t with
  | zero =>
    intro k f m h1 h2 hY hH
    obtain ⟨f, rfl⟩ := jsucc h2
    refine ⟨m, ?_, jfx.rfl, hY, jHb_c (fun i hi => if_pos (by omega)) hs hH⟩
    show c_X10_film_l52_b F _ m _ _ _ _ = _
    unfold c_X10_film_l52_b
    rw [if_pos (ji_lep (by omega) (by omega) (by omega))]
  | succ t ih =>
    intro k f m h1 h2 hY hH
    obtain ⟨f, rfl⟩ := jsucc h2
    have hL := hY.1.1.1
    obtain ⟨m1, b1, b2, b3⟩ := y_drawnBy (F := F) hF hDS hq0 hY (z := Int32.ofNat k)
    have hL1 := b3.1.1.1
    have hH1 : jyHm (jHb H s true 1 n (jfmv D k)) m1 := jyHm_fx b2 (fun a i q1 q2 z => by unfold jSpp at z; omega) hH
    have hH2 := jyHm_i (s := s) (i := k) (v := jdrv D k) hs (by show k < (if s = s then n else _); rw [if_pos rfl]; omega) hH1
    rw [jHi_b, jfmv_s] at hH2
    have hY2 : jYg D S (jsL m1 128 (40 * s + k) (jdrv D k)) := jYg_fx (Q := fun a _ => a = 128) (jfx_L rfl) (fun a i q z => by unfold jSyg jSr at q; omega) b3
    obtain ⟨m', a1, a2, a3, a4⟩ := ih (k + 1) f (jsL m1 128 (40 * s + k) (jdrv D k)) (by omega) (by omega) hY2 hH2
    refine ⟨m', ?_, ((jfx.weak b2 (fun a i q => Or.inl q)).trans (jfx_L (S := jyFm) (Or.inr (by omega)))).trans a2, a3, a4⟩
    show c_X10_film_l52_b F _ m _ _ _ _ = _
    unfold c_X10_film_l52_b
    rw [if_neg (ji_len (by omega) (by omega) (by omega)), jgd_t hL.1, b1, jb_some, jp_128 hL]
    dsimp only
    rw [jgd_t (jk_128 hL1), jz_128 hL1, show (40 : Int32) * Int32.ofNat s + Int32.ofNat k = Int32.ofNat (40 * s + k) by rw [show (40 : Int32) = Int32.ofNat 40 from rfl, ji_mul, ji_add], jgd_t (ji_int (by omega) (by omega)), ji_n (by omega), show Int32.ofNat k + 1 = Int32.ofNat (k + 1) from ji_add k 1]
    exact a1
def jflm (D : jD) (H : jHt) (g : Bool) (x1 x2 : Int32) : Int32 × jHt := if (jin x1 4 && jbt2 x2 0 12) = true then (if jDq D = 0 then (-3, H) else if g = true then (-5, H) else (x2, jHb H x1.toNatClampNeg true 1 x2.toNatClampNeg (jdrv D))) else (-2, H)
theorem y_film (hF : 1000 < F) (hDS : jDS D S) {g : Bool} (hg : g = true ↔ jGt D) {H : jHt} {m : jMe} (hQ : jyQ D S m) (hH : jyHm H m) {x1 x2 : Int32} : ∃ m', c_X10_film F m 101 x1 x2 = some ((jflm D H g x1 x2).1, m') ∧ jfx (fun a i => jyO a i ∨ (125 ≤ a ∧ a ≤ 128)) m m' ∧ jyQ D S m' ∧ jyHm (jflm D H g x1 x2).2 m' := by
  have hD := hDS.1
  have hL := hQ.1.1
  unfold c_X10_film jflm
  rw [y_isSheet, jb_some, show c_X10_in F m (Int32.toInt64 x2) (0 : Int64) (12 : Int64) = some (jbi (jbt2 x2 0 12)) from q_in_int (lo := 0) (hi := 12) (by omega) (by omega), jb_some]
  cases e1 : jin x1 4 with
  | false => exact ⟨m, rfl, jfx.rfl, hQ, hH⟩
  | true =>
    obtain ⟨s, rfl, hs2, hs⟩ := jin_nat e1
    rw [if_neg (show ¬ jbi true = 0 by decide), Bool.true_and]
    cases e2 : jbt2 x2 0 12 with
    | false => exact ⟨m, rfl, jfx.rfl, hQ, hH⟩
    | true =>
      obtain ⟨n, rfl, hn2, -, hn⟩ := jbt2_nat e2
      rw [if_neg (show ¬ jbi true = 0 by decide), if_pos (show true = true from rfl), jgd_t hL.1, hQ.1.2.1.2.2.1, ji_n hs2, ji_n hn2]
      by_cases hq0 : jDq D = 0
      · rw [if_pos ((jDq_0 hD).mpr hq0), if_pos hq0]
        exact ⟨m, rfl, jfx.rfl, hQ, hH⟩
      rw [if_neg (fun h => hq0 ((jDq_0 hD).mp h)), if_neg hq0]
      rcases y_told (F := F) hF hDS hg hQ with ⟨ht, m1, a1, a2, a3, a4⟩ | ⟨ht, m1, a1, a2, a3, a4⟩
      · have hH1 : jyHm H m1 := jyHm_fx a2 (fun a i q1 q2 z => by unfold jyO at z; omega) hH
        obtain ⟨m2, b1, b2, b3⟩ := y_sheet (F := F) hF a4.1.1 hH1 (x1 := Int32.ofNat s) (x2 := 1) (x3 := Int32.ofNat n)
        have e5 : jsht H (Int32.ofNat s) 1 (Int32.ofNat n) = (1, jHb H s true 1 n (fun _ => 0)) := by
          unfold jsht
          rw [if_pos ⟨e1, Or.inr (by decide)⟩, if_neg (by decide), if_pos (show Int32.ofNat n ≤ (40 : Int32) from ji_lep (b := 40) hn2 (by omega) (by omega)), if_pos (ji_0le hn2), ji_n hs2, ji_n hn2]
          rfl
        rw [e5] at b1 b3
        have hY2 : jYg D S m2 := jYg_fx b2 (fun a i q z => by unfold jSyg jSr at q; omega) a3
        obtain ⟨m3, c1, c2, c3, c4⟩ := y_film_l52 (F := F) hF hDS ht.1 (H := H) hs (n := n) hn n 0 F m2 (by omega) (by omega) hY2 (jHb_c (fun i _ => (if_neg (Nat.not_lt_zero i)).symm) hs b3)
        have c1 : c_X10_film_l52 F F m2 101 (Int32.ofNat s) (Int32.ofNat n) (0 : Int32) = _ := c1
        rw [a1, jb_some]
        dsimp only
        rw [if_neg (show ¬ (1 : Int32) = 0 by decide), jgd_t a4.1.1.1, b1, jb_some]
        dsimp only
        rw [c1, jb_some, if_neg (show ¬ g = true by rw [ht.2]; decide)]
        have hx : jfx jyFm m1 m3 := (b2.weak (fun a i q => Or.inr q)).trans c2
        have hQ3 : jyQ D S m3 := jyQ_fx hx (by unfold jyFm jSpp; omega) c3.1.1 a4
        exact ⟨m3, rfl, (a2.weak (fun a i q => Or.inl q)).trans (hx.weak (fun a i q => by unfold jyFm jSpp at q; unfold jyO; omega)), hQ3, c4⟩
      · rw [a1, jb_some, if_pos rfl]
        have hgt : g = true := by
          cases hgg : g with
          | true => rfl
          | false => exact absurd ⟨hq0, hgg⟩ ht
        rw [if_pos hgt]
        exact ⟨m1, rfl, a2.weak (fun a i q => Or.inl q), a4, jyHm_fx a2 (fun a i q1 q2 z => by unfold jyO at z; omega) hH⟩
end YFILM
