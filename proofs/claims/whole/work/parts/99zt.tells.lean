/-! what was told: the first that is otherwise, by which text, by which query -/
noncomputable def jgB (D : jD) : Bool := @decide (jGt D) (Classical.propDecidable (jGt D))
theorem jgB_iff {D : jD} : jgB D = true ↔ jGt D := @decide_eq_true_iff (jGt D) (Classical.propDecidable (jGt D))
/-- the first of n from k on that is otherwise -/
def jotr (D : jD) (V : Nat → Int64) : Nat → Nat → Int32
  | 0, _ => -1
  | t + 1, k => if V k = jdrv D k then jotr D V t (k + 1) else Int32.ofNat k
theorem jotr_c {D : jD} {V V' : Nat → Int64} : ∀ (t k : Nat), (∀ i, k ≤ i → i < k + t → V i = V' i) → jotr D V t k = jotr D V' t k := by
  intro t
  induction t with
  | zero => intro k _; rfl
  | succ t ih =>
    intro k h
    rw [jotr, jotr, h k (by omega) (by omega), ih (k + 1) (fun i h1 h2 => h i (by omega) (by omega))]
/-- by a text, or by a query -/
def jEv (D : jD) (bt : Bool) (v : Nat) : jD := if bt = true then jUr D v else jUq D v
noncomputable def jtlb (D : jD) (V : Nat → Int64) (n : Nat) (bt : Bool) (v : Nat) : Bool := !decide (jDq (jEv D bt v) = 0) && !jgB (jEv D bt v) && decide (jotr (jEv D bt v) V n 0 = -1)
noncomputable def jtls (D : jD) (H : jHt) (S : jTS) (x1 x2 : Int32) : Int32 := if (jin x1 4 && jbt2 x2 0 2) = true then (if jDq D = 0 then -3 else if jgB D = true then -5 else if H.1 x1.toNatClampNeg = true then (if H.2.2.1 x1.toNatClampNeg ≤ 12 then (if x2 = 0 then jotr D (H.2.2.2 x1.toNatClampNeg) (H.2.2.1 x1.toNatClampNeg) 0 else if x2 = 1 then Int32.ofNat (jbw S.1 (jtlb D (H.2.2.2 x1.toNatClampNeg) (H.2.2.1 x1.toNatClampNeg) true)) else Int32.ofNat (jbw (2 ^ jDn D) (jtlb D (H.2.2.2 x1.toNatClampNeg) (H.2.2.1 x1.toNatClampNeg) false))) else -2) else -11) else -2
section OTHER
variable {F b : Nat} {D : jD}
theorem q_otherwise (hF : 2000 < F) (hD : jDok D) (hq0 : jDq D ≠ 0) (hb : b = 49 ∨ b = 63) {s n : Nat} (hs : s < 4) (hn : n ≤ 40) : ∀ (t k f : Nat) (m : jMe), k + t = n → t < f → jJ D b m → jI m b 5 = 0 → jLsh m (89 + 2 * s) (90 + 2 * s) → jI m (89 + 2 * s) 2 = Int32.ofNat n → ∃ m', jb2 (c_X9_otherwise_l2 F f m b (89 + 2 * s) (Int32.ofNat k)) (fun q => some q) (fun e11 => some ((-1 : Int32), e11)) = some (jotr D (jL m (90 + 2 * s)) t k, m') ∧ jfr (jSdr b) m m' ∧ (∀ j, j ≠ 7 → j ≠ 16 → j ≠ 17 → jI m' b j = jI m b j) ∧ jL m' b = jL m b ∧ jJ D b m' := by
  intro t
  induction t with
  | zero =>
    intro k f m h1 h2 hJ hg hL h2s
    obtain ⟨f, rfl⟩ := jsucc h2
    refine ⟨m, ?_, jfr.rfl, fun _ _ _ _ => rfl, rfl, hJ⟩
    show jb2 (c_X9_otherwise_l2_b F _ m _ _ _) _ _ = _
    unfold c_X9_otherwise_l2_b
    rw [jgd_t hL.1, h2s, if_pos (ji_lep (by omega) (by omega) (by omega))]
    rfl
  | succ t ih =>
    intro k f m h1 h2 hJ hg hL h2s
    obtain ⟨f, rfl⟩ := jsucc h2
    obtain ⟨m1, a1, a2, a3, a4, a5, a6, a7⟩ := q_drawn (F := F) hF hD hq0 hJ hg (z := Int32.ofNat k)
    have hL1 : jLsh m1 (89 + 2 * s) (90 + 2 * s) := by
      unfold jLsh at hL ⊢
      rw [a2.2.2.1, a2.2.2.2.1, a2.2.2.2.2.1]
      exact hL
    have hit : jL m1 (90 + 2 * s) = jL m (90 + 2 * s) := a2.2.2.2.2.2.2 _ (by unfold jSdr; omega)
    obtain ⟨m', b1, b2, b3, b4, b5⟩ := ih (k + 1) f m1 (by omega) (by omega) a5 (by rw [a3 5 (by omega) (by omega) (by omega)]; exact hg) hL1 (by rw [a2.2.2.2.2.2.1 _ (by unfold jSdr; omega)]; exact h2s)
    rw [hit] at b1
    rw [jotr]
    generalize hv : jdgo D (jdraw D (Int32.ofNat k)).1 = v at a1
    have e0 : jdrv D k = Int32.toInt64 v := by
      unfold jdrv
      rw [hv]
    have hst : c_X9_otherwise_l2 F (f + 1) m b (89 + 2 * s) (Int32.ofNat k) = if lg_cmp (Int32.toInt64 v) (jL m (90 + 2 * s) k) = 0 then c_X9_otherwise_l2 F f m1 b (89 + 2 * s) (Int32.ofNat (k + 1)) else some (.inl (Int32.ofNat k, m1)) := by
      show c_X9_otherwise_l2_b F _ m _ _ _ = _
      unfold c_X9_otherwise_l2_b
      rw [jgd_t hL.1, h2s, if_neg (ji_len (by omega) (by omega) (by omega)), jgd_t hJ.1.1.1, a1, jb_some]
      dsimp only
      rw [jgd_t hL1.1, hL1.2.1, jgd_t hL1.2.2.1, hL1.2.2.2.1, jgd_t (ji_int (by omega) (by omega)), ji_n (by omega), hit, show Int32.ofNat k + 1 = Int32.ofNat (k + 1) from ji_add k 1]
    rw [hst, e0]
    by_cases e : jL m (90 + 2 * s) k = Int32.toInt64 v
    · rw [if_pos e, if_pos (jc_eq0.mpr e.symm)]
      exact ⟨m', b1, a2.trans b2, fun j h1 h2 h3 => by rw [b3 j h1 h2 h3, a3 j h1 h2 h3], by rw [b4, a4], b5⟩
    · rw [if_neg e, if_neg (fun q => e (jc_eq0.mp q).symm), jb2_l]
      exact ⟨m1, rfl, a2, a3, a4, a5⟩
end OTHER
section YTELLS
variable {F : Nat} {D : jD} {S : jTS}
theorem y_firstOther (hF : 1000 < F) (hDS : jDS D S) (hq0 : jDq D ≠ 0) {s n : Nat} (hs : s < 4) (hn : n ≤ 40) : ∀ (t k f : Nat) (m : jMe), k + t = n → t < f → jYg D S m → jI m 127 s = Int32.ofNat n → ∃ m', jb2 (c_X10_firstOther_l2 F f m 101 (Int32.ofNat s) (Int32.ofNat k)) (fun q => some q) (fun e11 => some ((-1 : Int32), e11)) = some (jotr D (fun i => jL m 128 (40 * s + i)) t k, m') ∧ jyFd m m' ∧ jYg D S m' := by
  intro t
  induction t with
  | zero =>
    intro k f m h1 h2 hY h2s
    obtain ⟨f, rfl⟩ := jsucc h2
    have hL := hY.1.1.1
    refine ⟨m, ?_, jfx.rfl, hY⟩
    show jb2 (c_X10_firstOther_l2_b F _ m _ _ _) _ _ = _
    unfold c_X10_firstOther_l2_b
    rw [jgd_t hL.1, jp_127 hL, jgd_t (jk_127 hL), jz_127 hL, jgd_t (ji_int (by omega) hs), ji_n (show s < 2147483648 by omega), h2s, if_pos (ji_lep (by omega) (by omega) (by omega))]
    rfl
  | succ t ih =>
    intro k f m h1 h2 hY h2s
    obtain ⟨f, rfl⟩ := jsucc h2
    have hL := hY.1.1.1
    obtain ⟨m1, a1, a2, a3⟩ := y_drawnBy (F := F) hF hDS hq0 hY (z := Int32.ofNat k)
    have hit : ∀ i, jL m1 128 i = jL m 128 i := fun i => jfx.L a2 (by unfold jSpp; omega)
    obtain ⟨m', b1, b2, b3⟩ := ih (k + 1) f m1 (by omega) (by omega) a3 (by rw [jfx.I a2 (by unfold jSpp; omega)]; exact h2s)
    rw [jotr_c (V' := fun i => jL m 128 (40 * s + i)) t (k + 1) (fun i _ _ => hit _)] at b1
    rw [jotr]
    have hst : ∀ u, jb2 (if lg_cmp (jL m 128 (40 * s + k)) (Int32.toInt64 (jdgo D (jdraw D (Int32.ofNat k)).1)) = 0 then c_X10_firstOther_l2 F f m1 101 (Int32.ofNat s) (Int32.ofNat (k + 1)) else some (.inl (Int32.ofNat k, m1))) (fun q => some q) (fun e11 => some ((-1 : Int32), e11)) = u → jb2 (c_X10_firstOther_l2 F (f + 1) m 101 (Int32.ofNat s) (Int32.ofNat k)) (fun q => some q) (fun e11 => some ((-1 : Int32), e11)) = u := by
      intro u h
      rw [← h]
      show jb2 (c_X10_firstOther_l2_b F _ m _ _ _) _ _ = _
      unfold c_X10_firstOther_l2_b
      rw [jgd_t hL.1, jp_127 hL, jgd_t (jk_127 hL), jz_127 hL, jgd_t (ji_int (by omega) hs), ji_n (show s < 2147483648 by omega), h2s, if_neg (ji_len (by omega) (by omega) (by omega)), jp_128 hL, jgd_t (jk_128 hL), jz_128 hL, show (40 : Int32) * Int32.ofNat s + Int32.ofNat k = Int32.ofNat (40 * s + k) by rw [show (40 : Int32) = Int32.ofNat 40 from rfl, ji_mul, ji_add], jgd_t (ji_int (by omega) (by omega)), a1, jb_some, ji_n (by omega), show Int32.ofNat k + 1 = Int32.ofNat (k + 1) from ji_add k 1]
    by_cases e : jL m 128 (40 * s + k) = jdrv D k
    · rw [if_pos e]
      refine ⟨m', hst _ ?_, jfx.trans a2 b2, b3⟩
      unfold jdrv at e
      rw [if_pos (jc_eq0.mpr e)]
      exact b1
    · rw [if_neg e]
      refine ⟨m1, hst _ ?_, a2, a3⟩
      unfold jdrv at e
      rw [if_neg (fun q => e (jc_eq0.mp q)), jb2_l]
/-- places that change as texts, queries are tried -/
def jyP2 (a i : Nat) : Prop := jyO a i ∨ (a = 101 ∧ (i = 4 ∨ i = 14))
theorem jEv_D (bt : Bool) : jEv D bt (if bt = true then jDr D else jDq D) = D := by
  cases bt <;> rfl
theorem jEv_DS {bt : Bool} {v : Nat} (hDS : jDS D S) (hv : if bt = true then v < S.1 else v < 2 ^ jDn D) : jDS (jEv D bt v) S := by
  cases bt with
  | true => exact ⟨hDS.1, hDS.2.1, hv, hDS.2.2.2⟩
  | false => exact ⟨⟨hDS.1.1, hv, hDS.1.2.2⟩, hDS.2⟩
theorem jbw_s0 {n : Nat} {p : Nat → Bool} (h : p n = false) : jbw (n + 1) p = jbw n p := by
  rw [jbw, h, if_neg (by decide), Nat.or_zero]
/-- one turn: a text, or a query, is tried -/
theorem y_tells_st (hF : 1000 < F) (hDS : jDS D S) {bt : Bool} {s n v u : Nat} (hs : s < 4) (hn : n ≤ 40) (hv : if bt = true then v < S.1 else v < 2 ^ jDn D) {m : jMe} (hQ : jyQ (jEv D bt u) S m) (h2s : jI m 127 s = Int32.ofNat n) {x3 : Int32} {B : jMe → Nat → Int32 → Int32 → Int32 → Int32 → Int32 → Option (jMe × Nat × Int32 × Int32 × Int32)} : ∃ m', c_X10_tells_j139_l101 F B m 101 (Int32.ofNat s) (if bt = true then 1 else 2) x3 (Int32.ofNat (jbw v (jtlb D (fun i => jL m 128 (40 * s + i)) n bt))) (Int32.ofNat v) (if bt = true then Int32.ofNat v else jI m 101 4) 101 = B m' 101 (Int32.ofNat s) (if bt = true then 1 else 2) x3 (Int32.ofNat (jbw (v + 1) (jtlb D (fun i => jL m 128 (40 * s + i)) n bt))) (Int32.ofNat (v + 1)) ∧ jfx jyP2 m m' ∧ jyQ (jEv D bt v) S m' ∧ (∀ i, jL m' 128 i = jL m 128 i) ∧ jI m' 127 s = Int32.ofNat n := by
  have hL := hQ.1.1
  have hDSv := jEv_DS hDS hv
  have hv16 : v < 16 := by
    cases bt with
    | true =>
      have := hDS.2.1.2.1
      simp only [if_pos] at hv
      omega
    | false =>
      have h16 : 2 ^ jDn D ≤ 2 ^ 4 := Nat.pow_le_pow_right (by omega) hDS.1.1
      rw [if_neg (by decide)] at hv
      omega
  generalize hp : jtlb D (fun i => jL m 128 (40 * s + i)) n bt = p
  -- the rule and the query are set
  have hm2 : ∃ m2, (∀ z, c_X10_tells_j157_l101 F B m 101 (Int32.ofNat s) (if bt = true then 1 else 2) x3 (Int32.ofNat (jbw v p)) (Int32.ofNat v) 0 0 = z → True) ∧ jfx jyP2 m m2 ∧ jyQ (jEv D bt v) S m2 ∧ c_X10_tells_j139_l101 F B m 101 (Int32.ofNat s) (if bt = true then 1 else 2) x3 (Int32.ofNat (jbw v p)) (Int32.ofNat v) (if bt = true then Int32.ofNat v else jI m 101 4) 101 = jb (c_X10_isTold F m2 101) fun t32 => (if t32.1 = 0 then B t32.2 101 (Int32.ofNat s) (if bt = true then 1 else 2) x3 (Int32.ofNat (jbw v p) ||| (jshl (0 : Int32) (Int32.ofNat v))) (Int32.ofNat v + 1) else jgd (jK t32.2 101 = 42) <| jb (c_X10_firstOther F t32.2 101 (Int32.ofNat s)) fun t36 => (if t36.1 = (-1 : Int32) then B t36.2 101 (Int32.ofNat s) (if bt = true then 1 else 2) x3 (Int32.ofNat (jbw v p) ||| (jshl (1 : Int32) (Int32.ofNat v))) (Int32.ofNat v + 1) else B t36.2 101 (Int32.ofNat s) (if bt = true then 1 else 2) x3 (Int32.ofNat (jbw v p) ||| (jshl (0 : Int32) (Int32.ofNat v))) (Int32.ofNat v + 1))) := by
    cases bt with
    | true =>
      have h14 : jI (jsI m 101 4 (Int32.ofNat v)) 101 14 = Int32.ofNat (jDq D) := by rw [jsI_no (by omega)]; exact hQ.1.2.1.2.2.1
      refine ⟨jsI (jsI m 101 4 (Int32.ofNat v)) 101 14 (Int32.ofNat (jDq D)), fun _ _ => trivial, (jfx_I (S := jyP2) (Or.inr ⟨rfl, Or.inl rfl⟩)).trans (jfx_I (S := jyP2) (Or.inr ⟨rfl, Or.inr rfl⟩)), ?_, ?_⟩
      · have hR1 : jRf (jUr (jUr D u) v) S (jsI m 101 4 (Int32.ofNat v)) := jRf_t hQ.1
        have hR2 : jRf (jUq (jUr (jUr D u) v) (jDq D)) S (jsI (jsI m 101 4 (Int32.ofNat v)) 101 14 (Int32.ofNat (jDq D))) := jRf_q hR1
        exact jyQ_101 hQ hR2 (by rw [jsI_no (by omega), jsI_no (by omega)]) (by rw [jsI_no (by omega), jsI_no (by omega)]) (by rw [jsI_no (by omega), jsI_no (by omega)])
      · unfold c_X10_tells_j139_l101 c_X10_tells_j157_l101
        rw [jgd_t hL.1, if_pos (show true = true from rfl), if_pos (show true = true from rfl), if_neg (show ¬ (1 : Int32) = 2 by decide), jgd_t hL.1, jgd_t (show jK (jsI m 101 4 (Int32.ofNat v)) 101 = 42 from hL.1), jgd_t (show jK (jsI m 101 4 (Int32.ofNat v)) 101 = 42 from hL.1), h14]
    | false =>
      refine ⟨jsI (jsI m 101 4 (Int32.ofNat (jDr D))) 101 14 (Int32.ofNat v), fun _ _ => trivial, (jfx_I (S := jyP2) (Or.inr ⟨rfl, Or.inl rfl⟩)).trans (jfx_I (S := jyP2) (Or.inr ⟨rfl, Or.inr rfl⟩)), ?_, ?_⟩
      · have hR1 : jRf (jUr (jUq D u) (jDr D)) S (jsI m 101 4 (Int32.ofNat (jDr D))) := jRf_t hQ.1
        have hR2 : jRf (jUq (jUr (jUq D u) (jDr D)) v) S (jsI (jsI m 101 4 (Int32.ofNat (jDr D))) 101 14 (Int32.ofNat v)) := jRf_q hR1
        exact jyQ_101 hQ hR2 (by rw [jsI_no (by omega), jsI_no (by omega)]) (by rw [jsI_no (by omega), jsI_no (by omega)]) (by rw [jsI_no (by omega), jsI_no (by omega)])
      · have h4 : jI m 101 4 = Int32.ofNat (jDr D) := hQ.1.2.1.2.1
        unfold c_X10_tells_j139_l101 c_X10_tells_j157_l101
        rw [jgd_t hL.1, if_neg (show ¬ (false = true) by decide), if_neg (show ¬ (false = true) by decide), if_pos rfl, h4, jgd_t (show jK (jsI m 101 4 (Int32.ofNat (jDr D))) 101 = 42 from hL.1), jgd_t (show jK (jsI m 101 4 (Int32.ofNat (jDr D))) 101 = 42 from hL.1)]
  obtain ⟨m2, -, f2, hQ2, hst⟩ := hm2
  rw [hst]
  have hI2 : jI m2 127 s = Int32.ofNat n := by rw [f2.I (by unfold jyP2 jyO; omega)]; exact h2s
  have hLt : ∀ i, jL m2 128 i = jL m 128 i := fun i => f2.L (by unfold jyP2 jyO; omega)
  have hn1 : Int32.ofNat v + 1 = Int32.ofNat (v + 1) := ji_add v 1
  have hb16 : jbw v p < 65536 := Nat.lt_of_lt_of_le jbw_lt (show 2 ^ v ≤ 65536 from Nat.pow_le_pow_right (n := 2) (j := 16) (by omega) (by omega))
  have ho0 : Int32.ofNat (jbw v p) ||| jshl (0 : Int32) (Int32.ofNat v) = Int32.ofNat (jbw v p) := by
    have : ∀ v : Fin 16, jshl (0 : Int32) (Int32.ofNat v.1) = 0 := by decide +kernel
    rw [this ⟨v, hv16⟩, show (0 : Int32) = Int32.ofNat 0 from rfl, ji_or (by omega) (by decide), Nat.or_zero]
  have ho1 : Int32.ofNat (jbw v p) ||| jshl (1 : Int32) (Int32.ofNat v) = Int32.ofNat (jbw v p ||| 2 ^ v) := by
    have h2v : 2 ^ v < 2 ^ 16 := Nat.pow_lt_pow_right (by omega) hv16
    rw [jshl_1 (by omega), ji_or (by omega) (by omega)]
  rcases y_told (F := F) hF hDSv (g := jgB (jEv D bt v)) jgB_iff hQ2 with ⟨ht, m3, a1, a2, a3, a4⟩ | ⟨ht, m3, a1, a2, a3, a4⟩
  · have hI3 : jI m3 127 s = Int32.ofNat n := by rw [a2.I (by unfold jyO; omega)]; exact hI2
    have hL3 : ∀ i, jL m3 128 i = jL m 128 i := fun i => by rw [a2.L (by unfold jyO; omega)]; exact hLt i
    obtain ⟨m4, b1, b2, b3⟩ := y_firstOther (F := F) hF hDSv ht.1 hs hn n 0 F m3 (by omega) (by omega) a3 hI3
    have b1 : c_X10_firstOther F m3 101 (Int32.ofNat s) = some (jotr (jEv D bt v) (fun i => jL m3 128 (40 * s + i)) n 0, m4) := b1
    rw [jotr_c (V' := fun i => jL m 128 (40 * s + i)) n 0 (fun i _ _ => hL3 _)] at b1
    have hpv : p v = decide (jotr (jEv D bt v) (fun i => jL m 128 (40 * s + i)) n 0 = -1) := by
      rw [← hp]
      unfold jtlb
      rw [decide_eq_false ht.1, ht.2]
      rfl
    have hQ4 : jyQ (jEv D bt v) S m4 := jyQ_fx b2 (by unfold jSpp; omega) b3.1.1 a4
    refine ⟨m4, ?_, f2.trans ((a2.weak (fun a i q => Or.inl q)).trans (jfx.weak b2 (fun a i q => Or.inl (by unfold jSpp at q; unfold jyO; omega)))), hQ4, fun i => by rw [jfx.L b2 (by unfold jSpp; omega)]; exact hL3 i, by rw [jfx.I b2 (by unfold jSpp; omega)]; exact hI3⟩
    rw [a1, jb_some]
    dsimp only
    rw [if_neg (show ¬ (1 : Int32) = 0 by decide), jgd_t a4.1.1.1, b1, jb_some]
    dsimp only
    by_cases e : jotr (jEv D bt v) (fun i => jL m 128 (40 * s + i)) n 0 = -1
    · rw [decide_eq_true e] at hpv
      rw [if_pos e, ho1, hn1, jbw_st, if_pos hpv]
    · rw [decide_eq_false e] at hpv
      rw [if_neg e, ho0, hn1, jbw_s0 hpv]
  · have hpv : p v = false := by
      rw [← hp]
      unfold jtlb
      by_cases e0 : jDq (jEv D bt v) = 0
      · rw [decide_eq_true e0]
        rfl
      · have : jgB (jEv D bt v) = true := by
          cases hg : jgB (jEv D bt v) with
          | true => rfl
          | false => exact absurd ⟨e0, hg⟩ ht
        rw [this, Bool.not_true, Bool.and_false]
        rfl
    refine ⟨m3, ?_, f2.trans (a2.weak (fun a i q => Or.inl q)), a4, fun i => by rw [a2.L (by unfold jyO; omega)]; exact hLt i, by rw [a2.I (by unfold jyO; omega)]; exact hI2⟩
    rw [a1, jb_some, if_pos rfl, ho0, hn1, jbw_s0 hpv]
end YTELLS
