/-! the class's small ones; calls that set rows, the query, the rule -/
section XLIT
variable {α : Type} {x : Int32} {A B : α}
theorem jbt2_n {lo hi k : Nat} (hk : k < 2147483648) : jbt2 (Int32.ofNat k) lo hi = decide (lo ≤ k ∧ k ≤ hi) := by
  unfold jbt2
  rw [decide_eq_true (ji_0le hk), ji_n hk, Bool.true_and]
theorem jbt2_neg {lo hi : Nat} (h : x < 0) : jbt2 x lo hi = false := by
  unfold jbt2
  rw [decide_eq_false (Int32.not_le.mpr h), Bool.false_and]
theorem xlt_of {lo : Nat} (hl : lo < 2147483648) (h : x < 0) : x < Int32.ofNat lo := Int32.lt_of_lt_of_le h (ji_0le hl)
theorem xi_le {lo hi : Nat} (hl : lo < 2147483648) (hh : hi < 2147483648) : (if x < Int32.ofNat lo then A else if x ≤ Int32.ofNat hi then B else A) = if jbt2 x lo hi = true then B else A := by
  by_cases hx : x < 0
  · rw [if_pos (xlt_of hl hx), jbt2_neg hx]
    rfl
  · obtain ⟨k, rfl, hk⟩ := ji_nat hx
    rw [jbt2_n hk]
    by_cases h1 : k < lo
    · rw [if_pos (ji_ltp hk hl h1), decide_eq_false (by omega)]
      rfl
    · rw [if_neg (ji_ltn hk hl h1)]
      by_cases h2 : k ≤ hi
      · rw [if_pos (ji_lep hk hh h2), decide_eq_true (by omega)]
        rfl
      · rw [if_neg (ji_len hk hh h2), decide_eq_false (by omega)]
        rfl
theorem xi_gt {lo hi : Nat} (hl : lo < 2147483648) (hh : hi < 2147483648) : (if x < Int32.ofNat lo then A else if Int32.ofNat hi < x then A else B) = if jbt2 x lo hi = true then B else A := by
  by_cases hx : x < 0
  · rw [if_pos (xlt_of hl hx), jbt2_neg hx]
    rfl
  · obtain ⟨k, rfl, hk⟩ := ji_nat hx
    rw [jbt2_n hk]
    by_cases h1 : k < lo
    · rw [if_pos (ji_ltp hk hl h1), decide_eq_false (by omega)]
      rfl
    · rw [if_neg (ji_ltn hk hl h1)]
      by_cases h2 : hi < k
      · rw [if_pos (ji_ltp hh hk h2), decide_eq_false (by omega)]
        rfl
      · rw [if_neg (ji_ltn hh hk h2), decide_eq_true (by omega)]
        rfl
theorem xi_lt {n : Nat} (hn : n < 2147483648) : (if x < 0 then A else if x < Int32.ofNat n then B else A) = if jin x n = true then B else A := by
  by_cases hx : x < 0
  · rw [if_pos hx, jin_neg hx]
    rfl
  · obtain ⟨k, rfl, hk⟩ := ji_nat hx
    rw [if_neg hx, ji_in hk]
    by_cases h2 : k < n
    · rw [if_pos (ji_ltp hk hn h2), decide_eq_true h2]
      rfl
    · rw [if_neg (ji_ltn hk hn h2), decide_eq_false h2]
      rfl
theorem xi_ge {n : Nat} (hn : n < 2147483648) : (if x < 0 then A else if Int32.ofNat n ≤ x then A else B) = if jin x n = true then B else A := by
  by_cases hx : x < 0
  · rw [if_pos hx, jin_neg hx]
    rfl
  · obtain ⟨k, rfl, hk⟩ := ji_nat hx
    rw [if_neg hx, ji_in hk]
    by_cases h2 : n ≤ k
    · rw [if_pos (ji_lep hn hk h2), decide_eq_false (by omega)]
      rfl
    · rw [if_neg (ji_len hn hk h2), decide_eq_true (by omega)]
      rfl
theorem xi_c05 : (if x < 0 then A else if x ≤ (5 : Int32) then B else A) = if jbt2 x 0 5 = true then B else A := xi_le (lo := 0) (hi := 5) (by omega) (by omega)
theorem xi_c06 : (if x < 0 then A else if x ≤ (6 : Int32) then B else A) = if jbt2 x 0 6 = true then B else A := xi_le (lo := 0) (hi := 6) (by omega) (by omega)
theorem xi_c04 : (if x < 0 then A else if x ≤ (4 : Int32) then B else A) = if jbt2 x 0 4 = true then B else A := xi_le (lo := 0) (hi := 4) (by omega) (by omega)
theorem xi_c07 : (if x < 0 then A else if x ≤ (7 : Int32) then B else A) = if jbt2 x 0 7 = true then B else A := xi_le (lo := 0) (hi := 7) (by omega) (by omega)
theorem xi_c01 : (if x < 0 then A else if x ≤ (1 : Int32) then B else A) = if jbt2 x 0 1 = true then B else A := xi_le (lo := 0) (hi := 1) (by omega) (by omega)
theorem xi_c12 : (if x < 0 then A else if x ≤ (12 : Int32) then B else A) = if jbt2 x 0 12 = true then B else A := xi_le (lo := 0) (hi := 12) (by omega) (by omega)
theorem xi_c255 : (if x < 0 then A else if x ≤ (255 : Int32) then B else A) = if jbt2 x 0 255 = true then B else A := xi_le (lo := 0) (hi := 255) (by omega) (by omega)
theorem xi_c2g : (if x < (1 : Int32) then A else if x ≤ (2000000000 : Int32) then B else A) = if jbt2 x 1 2000000000 = true then B else A := xi_le (lo := 1) (hi := 2000000000) (by omega) (by omega)
theorem xi_n6 : (if x < 0 then A else if x < (6 : Int32) then B else A) = if jin x 6 = true then B else A := xi_lt (n := 6) (by omega)
theorem xi_n10 : (if x < 0 then A else if x < (10 : Int32) then B else A) = if jin x 10 = true then B else A := xi_lt (n := 10) (by omega)
theorem xi_g6 : (if x < 0 then A else if (6 : Int32) ≤ x then A else B) = if jin x 6 = true then B else A := xi_ge (n := 6) (by omega)
theorem xi_g4 : (if x < 0 then A else if (4 : Int32) ≤ x then A else B) = if jin x 4 = true then B else A := xi_ge (n := 4) (by omega)
theorem xi_b1 : (if x < 0 then A else if (1 : Int32) < x then A else B) = if jbt2 x 0 1 = true then B else A := xi_gt (lo := 0) (hi := 1) (by omega) (by omega)
theorem xi_b2 : (if x < 0 then A else if (2 : Int32) < x then A else B) = if jbt2 x 0 2 = true then B else A := xi_gt (lo := 0) (hi := 2) (by omega) (by omega)
theorem xi_b8 : (if x < (1 : Int32) then A else if (8 : Int32) < x then A else B) = if jbt2 x 1 8 = true then B else A := xi_gt (lo := 1) (hi := 8) (by omega) (by omega)
theorem xi_b20 : (if x < (1 : Int32) then A else if (20 : Int32) < x then A else B) = if jbt2 x 1 20 = true then B else A := xi_gt (lo := 1) (hi := 20) (by omega) (by omega)
theorem xi_c8 : (if x < 0 then A else if x ≤ (8 : Int32) then B else A) = if jbt2 x 0 8 = true then B else A := xi_le (lo := 0) (hi := 8) (by omega) (by omega)
theorem xi_c63 : (if x < (1 : Int32) then A else if x < (64 : Int32) then B else A) = if jbt2 x 1 63 = true then B else A := by
  have h := xi_le (x := x) (A := A) (B := B) (lo := 1) (hi := 63) (by omega) (by omega)
  rw [← h]
  by_cases hx : x < 0
  · rw [if_pos (show x < (1 : Int32) from xlt_of (lo := 1) (by omega) hx), if_pos (xlt_of (lo := 1) (by omega) hx)]
  · obtain ⟨k, rfl, hk⟩ := ji_nat hx
    have e : (Int32.ofNat k < (64 : Int32)) ↔ (Int32.ofNat k ≤ Int32.ofNat 63) := by
      rw [show (64 : Int32) = Int32.ofNat 64 from rfl, ji_lt hk (by omega), ji_le hk (by omega)]
      omega
    by_cases q : Int32.ofNat k < (64 : Int32)
    · rw [if_pos q, if_pos (e.mp q)]
      rfl
    · rw [if_neg q, if_neg (fun z => q (e.mpr z))]
      rfl
end XLIT
section XSET
variable {F w : Nat} {D : jD} {m : jMe}
theorem xq_rel (h : xqB D w m) {r : Nat} (hr : r < 4) : jP m 33 r = jrc r ∧ jLr m r := h.2.1.2.1.1.2.2 r hr
theorem xq_isRel (h : xqB D w m) {x : Int32} : c_X9_isRelation F m 32 x = some (jbi (jin x (jDn D))) := by
  have hn := h.1.1
  unfold c_X9_isRelation
  by_cases hx : x < 0
  · rw [if_pos hx, jin_neg hx]
    rfl
  · obtain ⟨k, rfl, hk⟩ := ji_nat hx
    rw [if_neg hx, jgd_t h.2.1.1.1, h.2.2.2.2.1.1, ji_in hk]
    by_cases q : jDn D ≤ k
    · rw [if_pos (ji_lep (by omega) hk q), decide_eq_false (by omega)]
      rfl
    · rw [if_neg (ji_len (by omega) hk q), decide_eq_true (by omega)]
      rfl
theorem xq_isRow (h : xqB D w m) {x y : Int32} : c_X9_isRow F m 32 x y = some (jbi (jrow D x y)) := by
  have hn := h.1.1
  have hL := h.2.1.1
  have hR := h.2.1.2.1.1
  unfold c_X9_isRow jrow
  rw [jgd_t hL.1, xq_isRel h, jb_some]
  cases e : jin x (jDn D) with
  | false => rw [if_pos (by decide)]; rfl
  | true =>
    obtain ⟨r, rfl, hr, hr4⟩ := jin_nat e
    have hrr := xq_rel h (r := r) (by omega)
    rw [if_neg (by decide), hL.2.1, jgd_t hR.1, hR.2.1, jgd_t (ji_int hr (by omega)), ji_n hr, hrr.1, jgd_t hrr.2.1, q_has hrr.2 (h.1.2.2.1 r (by omega)) (h.2.2.2.1 r (by omega)), jb_some]
    cases jin y (jDz D r) <;> rfl
theorem xq_isAsked (h : xqB D w m) {r : Nat} (hr : r < 32) : c_X9_isAsked F m 32 (Int32.ofNat r) = some (jbi ((jDq D).testBit r)) := by
  have hq := jDok_q h.1
  unfold c_X9_isAsked
  rw [jgd_t h.2.1.1.1, h.2.2.2.2.1.2.2.2, q_isIn hr (by omega), jb_some, jgd_t (by cases (jDq D).testBit r <;> simp [jbi])]
theorem xq_isQuery (h : xqB D w m) {x : Int32} : c_X9_isQuery F m 32 x = some (jbi (jin x (2 ^ jDn D))) := by
  have hn := h.1.1
  have h16 : 2 ^ jDn D ≤ 2 ^ 4 := Nat.pow_le_pow_right (by omega) hn
  unfold c_X9_isQuery
  by_cases hx : x < 0
  · rw [if_pos hx, jin_neg hx]
    rfl
  · obtain ⟨k, rfl, hk⟩ := ji_nat hx
    rw [if_neg hx, jgd_t h.2.1.1.1, h.2.2.2.2.1.1, jshl_1 (by omega), ji_in hk]
    by_cases q : 2 ^ jDn D ≤ k
    · rw [if_pos (ji_lep (by omega) hk q), decide_eq_false (by omega)]
      rfl
    · rw [if_neg (ji_len (by omega) hk q), decide_eq_true (by omega)]
      rfl
theorem xq_attrs_l4 (h : xqB D w m) : ∀ (t r f : Nat), r + t = jDn D → t < f → c_X9_askedAttributes_l4 F m f 32 (Int32.ofNat (jatn D r)) (Int32.ofNat r) = some (Int32.ofNat (jatn D (jDn D))) := by
  have hL := h.2.1.1
  have hR := h.2.1.2.1.1
  have hn := h.1.1
  have hq := jDok_q h.1
  intro t
  induction t with
  | zero =>
    intro r f h1 h2
    obtain ⟨f, rfl⟩ := jsucc h2
    show c_X9_askedAttributes_l4_b F _ m _ _ _ = _
    unfold c_X9_askedAttributes_l4_b
    rw [jgd_t hL.1, h.2.2.2.2.1.1, if_pos (ji_lep (by omega) (by omega) (by omega)), show r = jDn D by omega]
  | succ t ih =>
    intro r f h1 h2
    obtain ⟨f, rfl⟩ := jsucc h2
    have ih := ih (r + 1) f (by omega) (by omega)
    have h64 := jatn_lt h.1 r (by omega)
    have hDr := (h.1.2.2.1 r (by omega)).2.1
    have hrr := xq_rel h (r := r) (by omega)
    show c_X9_askedAttributes_l4_b F _ m _ _ _ = _
    unfold c_X9_askedAttributes_l4_b
    rw [jgd_t hL.1, h.2.2.2.2.1.1, if_neg (ji_len (by omega) (by omega) (by omega)), xq_isAsked h (by omega), jb_some, hL.2.1, jgd_t hR.1, hR.2.1, jgd_t (ji_int (by omega) (by omega)), ji_n (by omega), hrr.1, jgd_t hrr.2.1, (h.2.2.2.1 r (by omega)).2.1, ji_or (by omega) (by omega), show Int32.ofNat (jatn D r) ||| (0 : Int32) = Int32.ofNat (jatn D r ||| 0) from ji_or (x := jatn D r) (y := 0) (by omega) (by decide), Nat.or_zero, show Int32.ofNat r + 1 = Int32.ofNat (r + 1) from ji_add r 1]
    rw [jatn] at ih
    cases e : (jDq D).testBit r with
    | false =>
      rw [e, if_neg (by decide)] at ih
      rw [if_pos (show jbi false = 0 from rfl)]
      exact ih
    | true =>
      rw [e, if_pos rfl] at ih
      rw [if_neg (show ¬ jbi true = 0 by decide)]
      exact ih
theorem jatn_n (hD : jDok D) : ∀ t, jDn D ≤ t → jatn D t = jatn D (jDn D) := by
  intro t
  induction t with
  | zero => intro h; rw [show jDn D = 0 by omega]
  | succ t ih =>
    intro h
    by_cases e : jDn D ≤ t
    · rw [jatn, if_neg, ih e]
      intro q
      have h1 := Nat.testBit_lt_two_pow (Nat.lt_of_lt_of_le hD.2.1 (Nat.pow_le_pow_right (n := 2) (by omega) e))
      rw [h1] at q
      cases q
    · rw [show jDn D = t + 1 by omega]
theorem xq_attrs (hF : 100 < F) (h : xqB D w m) : c_X9_askedAttributes F m 32 = some (Int32.ofNat (jatn D 4)) := by
  have hn := h.1.1
  unfold c_X9_askedAttributes
  rw [show c_X9_askedAttributes_l4 F m F 32 (0 : Int32) (0 : Int32) = some (Int32.ofNat (jatn D (jDn D))) from xq_attrs_l4 h (jDn D) 0 F (by omega) (by omega), jb_some, jatn_n h.1 4 hn]
theorem xq_isSheet {x : Int32} : c_X9_isSheet F m x = some (jbi (jin x 4)) := by
  unfold c_X9_isSheet
  rw [xi_g4]
  cases jin x 4 <;> rfl
theorem xq_isPart {x : Int32} : c_X9_isPart F m x = some (jbi (jbt2 x 0 1)) := by
  unfold c_X9_isPart
  by_cases hx : x < 0
  · rw [if_neg (fun e => by rw [e] at hx; exact absurd hx (by decide)), if_neg (fun e => by rw [e] at hx; exact absurd hx (by decide)), jbt2_neg hx]
    rfl
  · obtain ⟨k, rfl, hk⟩ := ji_nat hx
    rw [jbt2_n hk]
    by_cases e0 : k = 0
    · subst e0
      rfl
    · rw [if_neg (show ¬ Int32.ofNat k = 0 from ji_eqn (b := 0) hk (by omega) e0)]
      by_cases e1 : k = 1
      · subst e1
        rfl
      · rw [if_neg (show ¬ Int32.ofNat k = 1 from ji_eqn (b := 1) hk (by omega) e1), decide_eq_false (by omega)]
        rfl
/-- what calls that set may change -/
def xqW (a i : Nat) : Prop := (77 ≤ a ∧ a ≤ 88) ∨ (a = 32 ∧ (i = 10 ∨ i = 11 ∨ i = 14 ∨ i = 15))
theorem xqB_mk {D' : jD} {m' : jMe} (h : xqB D w m) (hx : xqF xqW m m') (hD' : jDok D') (hC' : ∀ r, r < 4 → jCr D' m' r) (e1 : jI m' 32 11 = Int32.ofNat (jDn D')) (e2 : jI m' 32 14 = Int32.ofNat (jDr D')) (e3 : jI m' 32 15 = Int32.ofNat (jDq D')) (hr : jDr D' < w) (hT : ∀ t, jDt D' t = jDt D t) : xqB D' w m' := by
  obtain ⟨a, b, ⟨c1, c2⟩, d, ⟨f1, f2, f3, f4⟩, f, g⟩ := h
  have hf : ∀ x, x < 32 ∨ x = 100 ∨ (129 ≤ x ∧ x % 3 = 2) → jI m' x = jI m x := fun x q => funext fun i => hx.I (by unfold xqW; omega)
  refine ⟨hD', xqL_of hx.K hx.Z (fun _ q => hx.P q) hx.2.1 b, ⟨?_, jzT_P hx.K hx.Z (hx.P (by omega)) (fun a i q => hx.I (by unfold xqW; omega)) c2⟩, hC', ⟨e1, by rw [hx.I (by unfold xqW; omega)]; exact f2, e2, e3⟩, ⟨f.1, f.2.1, hr⟩, fun t ht => ?_⟩
  · unfold jLs at c1 ⊢
    rw [hx.K, hx.Z, hf 1 (by omega)]
    exact c1
  · obtain ⟨g1, n, g2⟩ := g t ht
    have hc := xtb_c t
    obtain ⟨x1, x2, x3, x4⟩ := jTX_of hx.K hx.Z (hx.P (by omega)) (hf _ (by omega)) g2
    exact ⟨by rw [hx.P (by omega)]; exact g1, n, x1, x2, x3, fun r k f cp => by rw [x4 r k f cp]; exact (congrFun (congrFun (congrFun (congrFun (hT t) r) k) f) cp).symm⟩
theorem jCr_l (hC : ∀ x, x < 4 → jCr D m x) {r s : Nat} : ∀ x, x < 4 → jCr (jUl D r s) (jsI m (jrc r) 6 (Int32.ofNat s)) x := by
  intro x hx
  obtain ⟨c1, c2, c3, c4, c5, c6⟩ := hC x hx
  have hne : ∀ i, i ≠ 6 → jI (jsI m (jrc r) 6 (Int32.ofNat s)) (jrc x) i = jI m (jrc x) i := fun i hi => jsI_no (fun q => hi q.2)
  refine ⟨by rw [hne 2 (by omega)]; exact c1, by rw [hne 3 (by omega)]; exact c2, by rw [hne 4 (by omega)]; exact c3, by rw [hne 5 (by omega)]; exact c4, ?_, fun k hk => ?_⟩
  · show jI _ (jrc x) 6 = Int32.ofNat (if x = r then s else jDl D x)
    by_cases e : x = r
    · subst e
      rw [if_pos rfl, jsI_y]
    · rw [if_neg e, jsI_no (by unfold jrc; omega)]
      exact c5
  · rw [jsI_n (by unfold jrv jrc; omega), jsI_n (by unfold jrk jrc; omega)]
    exact c6 k hk
theorem xqW_rc {r i : Nat} (hr : r < 4) : xqW (jrc r) i := Or.inl (by unfold jrc; omega)
theorem xqB_l (h : xqB D w m) {r k : Nat} (hr : r < 4) (hk : k < jDz D r) {b : Bool} : xqB (jUl D r (jli (jDl D r) k b)) w (jsI m (jrc r) 6 (Int32.ofNat (jli (jDl D r) k b))) := by
  have hx : xqF xqW m (jsI m (jrc r) 6 (Int32.ofNat (jli (jDl D r) k b))) := xqF_x (jfx_I (xqW_rc hr))
  have hDr := h.1.2.2.1 r hr
  have hn : jDn D ≤ r → jli (jDl D r) k b = 0 := fun q => by have := (h.1.2.2.2.2 r q).1; omega
  exact xqB_mk h hx (jDok_l h.1 hr (jli_lt hDr.2.2.2.1 hk) hn) (jCr_l h.2.2.2.1) (by rw [jsI_no (by unfold jrc; omega)]; exact h.2.2.2.2.1.1) (by rw [jsI_no (by unfold jrc; omega)]; exact h.2.2.2.2.1.2.2.1) (by rw [jsI_no (by unfold jrc; omega)]; exact h.2.2.2.2.1.2.2.2) h.2.2.2.2.2.1.2.2 (fun _ => rfl)
theorem xq_setLive (h : xqB D w m) {r k : Nat} (hr : r < 4) (hk : k < jDz D r) {b : Bool} : c_X4_setLive F m (jrc r) (Int32.ofNat k) (jbi b) = some (jsI m (jrc r) 6 (Int32.ofNat (jli (jDl D r) k b))) := by
  have hDr := h.1.2.2.1 r hr
  have hz := hDr.2.2.1
  exact q_setLive (xq_rel h hr).2 (h.2.2.2.1 r hr).2.2.2.2.1 (jl_lt hDr) (by omega)
theorem xq_remove (h : xqQ D w m) {x1 x2 : Int32} : ∃ m', c_X9_remove F m 32 x1 x2 = some ((jremv D x1 x2).1, m') ∧ xqF xqW m m' ∧ xqQ (jremv D x1 x2).2 w m' := by
  have hB := h.1
  have hL := hB.2.1.1
  have hR := hB.2.1.2.1.1
  unfold c_X9_remove jremv
  rw [jgd_t hL.1, xq_isRow hB, jb_some]
  cases e1 : jrow D x1 x2 with
  | false => exact ⟨m, rfl, xqF.rfl, h⟩
  | true =>
    obtain ⟨r, k, rfl, rfl, hr, hk, hr2, hk2⟩ := jrow_nat e1
    have hr4 : r < 4 := Nat.lt_of_lt_of_le hr hB.1.1
    have hrr := xq_rel hB hr4
    have hDr := hB.1.2.2.1 r hr4
    have hC := hB.2.2.2.1 r hr4
    rw [if_neg (show ¬ jbi true = 0 by decide), if_pos rfl, ji_n hr2, ji_n hk2, hL.2.1, jgd_t hR.1, hR.2.1, jgd_t (ji_int hr2 hr4), hrr.1, jgd_t hrr.2.1, q_isLive hrr.2 hDr hC hk2, jb_some]
    cases e2 : (jDl D r).testBit k with
    | false =>
      rw [if_pos (show jbi false = 0 from rfl), if_neg (fun h => by cases h.1)]
      exact ⟨m, rfl, xqF.rfl, h⟩
    | true =>
      rw [if_neg (show ¬ jbi true = 0 by decide), q_letsGo hrr.2 hB.2.2.1.1 hDr hC, jb_some]
      cases e3 : jisa (jDk D r) 2 with
      | true =>
        rw [if_pos (show jbi (!true) = 0 from rfl), if_neg (fun h => by cases h.2)]
        exact ⟨m, rfl, xqF.rfl, h⟩
      | false =>
        have hs : c_X4_setLive F m (jrc r) (Int32.ofNat k) (0 : Int32) = some (jsI m (jrc r) 6 (Int32.ofNat (jli (jDl D r) k false))) := xq_setLive (b := false) hB hr4 hk
        have hB1 := xqB_l (b := false) hB hr4 hk
        have hx1 : xqF xqW m (jsI m (jrc r) 6 (Int32.ofNat (jli (jDl D r) k false))) := xqF_x (jfx_I (xqW_rc hr4))
        have e6 : jI (jsI m (jrc r) 6 (Int32.ofNat (jli (jDl D r) k false))) (jrc r) 6 = Int32.ofNat (jli (jDl D r) k false) := jsI_y
        have hlt : jli (jDl D r) k false < 256 := jz256 (jli_lt hDr.2.2.2.1 hk) hDr.2.2.1
        rw [if_neg (show ¬ jbi (!false) = 0 by decide), if_pos ⟨rfl, rfl⟩, hs, jb_some]
        generalize jsI m (jrc r) 6 (Int32.ofNat (jli (jDl D r) k false)) = m1 at hB1 hx1 e6 ⊢
        rw [jgd_t hB1.2.1.1.1, jgd_t (xq_rel hB1 hr4).2.1, jsI_no (by unfold jrc; omega), e6, jbitCount hlt, jb_some]
        exact ⟨_, rfl, hx1.trans (xqF_x (jfx_I (by unfold xqW; omega))), xqQ_s (xqB_32 hB1) jsI_y⟩
theorem xq_restore (hF : 100 < F) (h : xqQ D w m) {x1 x2 : Int32} : ∃ m', c_X9_restore F m 32 x1 x2 = some ((jrsto D x1 x2).1, m') ∧ xqF xqW m m' ∧ xqQ (jrsto D x1 x2).2 w m' := by
  have hB := h.1
  have hL := hB.2.1.1
  have hR := hB.2.1.2.1.1
  unfold c_X9_restore jrsto
  rw [jgd_t hL.1, xq_isRow hB, jb_some]
  cases e1 : jrow D x1 x2 with
  | false => exact ⟨m, rfl, xqF.rfl, h⟩
  | true =>
    obtain ⟨r, k, rfl, rfl, hr, hk, hr2, hk2⟩ := jrow_nat e1
    have hr4 : r < 4 := Nat.lt_of_lt_of_le hr hB.1.1
    have hrr := xq_rel hB hr4
    have hDr := hB.1.2.2.1 r hr4
    have hC := hB.2.2.2.1 r hr4
    have hz := hDr.2.2.1
    rw [if_neg (show ¬ jbi true = 0 by decide), if_pos rfl, ji_n hr2, ji_n hk2, hL.2.1, jgd_t hR.1, hR.2.1, jgd_t (ji_int hr2 hr4), hrr.1, jgd_t hrr.2.1, q_isLive hrr.2 hDr hC hk2, jb_some]
    cases e2 : (jDl D r).testBit k with
    | true =>
      rw [if_neg (show ¬ jbi true = 0 by decide), if_neg (fun h => by cases h.1)]
      exact ⟨m, rfl, xqF.rfl, h⟩
    | false =>
      have h67 : ∀ a, 6 ≤ a → jDv D r k a = 0 := fun a ha => (hDr.2.2.2.2 k hk).2.1 a (Nat.testBit_lt_two_pow (Nat.lt_of_lt_of_le hDr.2.1 (jp2 ha)))
      rw [if_pos (show jbi false = 0 from rfl), hrr.2.2.1, jgd_t hrr.2.2.2.2.1, hrr.2.2.2.2.2.1, jgd_t (ji_int hk2 (by omega)), q_takes hrr.2 hB.2.2.1.1 hDr hC hF (hC.2.2.2.2.2 k hk).1 ⟨h67 6 (by omega), h67 7 (by omega)⟩, jb_some]
      cases e3 : jtk D r (jDv D r k) with
      | false =>
        rw [if_pos (show jbi false = 0 from rfl), if_neg (fun h => by cases h.2)]
        exact ⟨m, rfl, xqF.rfl, h⟩
      | true =>
        have hs : c_X4_setLive F m (jrc r) (Int32.ofNat k) (1 : Int32) = some (jsI m (jrc r) 6 (Int32.ofNat (jli (jDl D r) k true))) := xq_setLive (b := true) hB hr4 hk
        have hB1 := xqB_l (b := true) hB hr4 hk
        have hx1 : xqF xqW m (jsI m (jrc r) 6 (Int32.ofNat (jli (jDl D r) k true))) := xqF_x (jfx_I (xqW_rc hr4))
        have e6 : jI (jsI m (jrc r) 6 (Int32.ofNat (jli (jDl D r) k true))) (jrc r) 6 = Int32.ofNat (jli (jDl D r) k true) := jsI_y
        have hlt : jli (jDl D r) k true < 256 := jz256 (jli_lt hDr.2.2.2.1 hk) hDr.2.2.1
        rw [if_neg (show ¬ jbi true = 0 by decide), if_pos ⟨rfl, rfl⟩, hs, jb_some]
        generalize jsI m (jrc r) 6 (Int32.ofNat (jli (jDl D r) k true)) = m1 at hB1 hx1 e6 ⊢
        rw [jgd_t hB1.2.1.1.1, jgd_t (xq_rel hB1 hr4).2.1, jsI_no (by unfold jrc; omega), e6, jbitCount hlt, jb_some]
        exact ⟨_, rfl, hx1.trans (xqF_x (jfx_I (by unfold xqW; omega))), xqQ_s (xqB_32 hB1) jsI_y⟩
theorem xq_copies (h : xqQ D w m) {x1 x2 x3 : Int32} : ∃ m', c_X9_copies F m 32 x1 x2 x3 = some ((jcops D x1 x2 x3).1, m') ∧ xqF xqW m m' ∧ xqQ (jcops D x1 x2 x3).2 w m' := by
  have hB := h.1
  have hL := hB.2.1.1
  have hR := hB.2.1.2.1.1
  unfold c_X9_copies jcops
  rw [jgd_t hL.1, xq_isRow hB, jb_some, xi_c2g]
  cases e1 : jrow D x1 x2 with
  | false => exact ⟨m, rfl, xqF.rfl, h⟩
  | true =>
    obtain ⟨r, k, rfl, rfl, hr, hk, hr2, hk2⟩ := jrow_nat e1
    have hr4 : r < 4 := Nat.lt_of_lt_of_le hr hB.1.1
    have hrr := xq_rel hB hr4
    have hDr := hB.1.2.2.1 r hr4
    have hC := hB.2.2.2.1 r hr4
    have hz := hDr.2.2.1
    rw [if_neg (show ¬ jbi true = 0 by decide), Bool.true_and]
    cases e2 : jbt2 x3 1 2000000000 with
    | false => exact ⟨m, rfl, xqF.rfl, h⟩
    | true =>
      obtain ⟨v, rfl, hv2, hv⟩ := jbt2_nat e2
      rw [if_pos rfl, if_pos rfl, ji_n hr2, ji_n hk2, ji_n hv2, hL.2.1, jgd_t hR.1, hR.2.1, jgd_t (ji_int hr2 hr4), hrr.1, jgd_t hrr.2.1, hrr.2.2.2.1, jgd_t hrr.2.2.2.2.2.2.1, hrr.2.2.2.2.2.2.2, jgd_t (ji_int hk2 (by omega)), jgd_t (ji_int hr2 hr4), jgd_t (ji_int hk2 (by omega)), (hC.2.2.2.2.2 k hk).2]
      have hx1 : xqF xqW m (jsI (jsI m (jrk r) k (Int32.ofNat v)) 32 10 1) := (xqF_x (jfx_I (Or.inl (by unfold jrk; omega)))).trans (xqF_x (jfx_I (by unfold xqW; omega)))
      have hI : ∀ a i, ¬ (a = jrk r ∧ i = k) → ¬ (a = 32 ∧ i = 10) → jI (jsI (jsI m (jrk r) k (Int32.ofNat v)) 32 10 1) a i = jI m a i := fun a i p q => by rw [jsI_no q, jsI_no p]
      refine ⟨_, rfl, hx1, xqQ_s (xqB_mk hB hx1 (jDok_c hB.1 hv) (fun x hx => ?_) ?_ ?_ ?_ hB.2.2.2.2.2.1.2.2 (fun _ => rfl)) jsI_y⟩
      · obtain ⟨c1, c2, c3, c4, c5, c6⟩ := hB.2.2.2.1 x hx
        refine ⟨by rw [hI _ _ (by unfold jrc jrk; omega) (by unfold jrc; omega)]; exact c1, by rw [hI _ _ (by unfold jrc jrk; omega) (by unfold jrc; omega)]; exact c2, by rw [hI _ _ (by unfold jrc jrk; omega) (by unfold jrc; omega)]; exact c3, by rw [hI _ _ (by unfold jrc jrk; omega) (by unfold jrc; omega)]; exact c4, by rw [hI _ _ (by unfold jrc jrk; omega) (by unfold jrc; omega)]; exact c5, fun y hy => ?_⟩
        obtain ⟨d1, d2⟩ := c6 y hy
        rw [hI _ _ (by unfold jrv jrk; omega) (by unfold jrv; omega)]
        refine ⟨d1, ?_⟩
        show _ = Int32.ofNat (if x = r ∧ y = k then v else jDc D x y)
        rw [jsI_no (by unfold jrk; omega), jsI_g]
        by_cases e : x = r ∧ y = k
        · rw [if_pos e, if_pos ⟨by rw [e.1], e.2⟩]
        · rw [if_neg e, if_neg (by unfold jrk; omega)]
          exact d2
      · rw [hI _ _ (by unfold jrk; omega) (by omega)]
        exact hB.2.2.2.2.1.1
      · rw [hI _ _ (by unfold jrk; omega) (by omega)]
        exact hB.2.2.2.2.1.2.2.1
      · rw [hI _ _ (by unfold jrk; omega) (by omega)]
        exact hB.2.2.2.2.1.2.2.2
theorem jCr_32 {D' : jD} (hC : ∀ x, x < 4 → jCr D' m x) {i : Nat} {v : Int32} : ∀ x, x < 4 → jCr D' (jsI m 32 i v) x := fun x hx => jCr_of (jsI_n (by unfold jrc; omega)) (jsI_n (by unfold jrv; omega)) (jsI_n (by unfold jrk; omega)) (hC x hx)
theorem xq_query (h : xqQ D w m) {x1 : Int32} : ∃ m', c_X9_query F m 32 x1 = some ((jqry D x1).1, m') ∧ xqF xqW m m' ∧ xqQ (jqry D x1).2 w m' := by
  have hB := h.1
  have hL := hB.2.1.1
  have h16 : 2 ^ jDn D ≤ 2 ^ 4 := Nat.pow_le_pow_right (by omega) hB.1.1
  unfold c_X9_query jqry
  rw [jgd_t hL.1, xq_isQuery hB, jb_some]
  cases e1 : jin x1 (2 ^ jDn D) with
  | false => exact ⟨m, rfl, xqF.rfl, h⟩
  | true =>
    obtain ⟨q, rfl, hq2, hq⟩ := jin_nat e1
    rw [if_neg (show ¬ jbi true = 0 by decide), if_pos rfl, ji_n hq2, jsI_no (by omega), jsI_y, jbitCount (by omega), jb_some]
    have hx1 : xqF xqW m (jsI (jsI m 32 15 (Int32.ofNat q)) 32 10 1) := (xqF_x (jfx_I (by unfold xqW; omega))).trans (xqF_x (jfx_I (by unfold xqW; omega)))
    have hC' : ∀ x, x < 4 → jCr (jUq D q) m x := hB.2.2.2.1
    refine ⟨_, rfl, hx1, xqQ_s (xqB_mk (D' := jUq D q) hB hx1 ⟨hB.1.1, hq, hB.1.2.2⟩ (jCr_32 (jCr_32 hC')) ?_ ?_ ?_ hB.2.2.2.2.2.1.2.2 (fun _ => rfl)) jsI_y⟩
    · rw [jsI_no (by omega), jsI_no (by omega)]
      exact hB.2.2.2.2.1.1
    · rw [jsI_no (by omega), jsI_no (by omega)]
      exact hB.2.2.2.2.1.2.2.1
    · rw [jsI_no (by omega), jsI_y]
      rfl
theorem xq_force {S : jTS} (hw : w = S.1) (h : xqQ D w m) {x1 : Int32} : ∃ m', c_X9_force F m 32 x1 = some ((jfrc D S x1).1, m') ∧ xqF xqW m m' ∧ xqQ (jfrc D S x1).2 w m' := by
  have hB := h.1
  have hL := hB.2.1.1
  have hw6 := hB.2.2.2.2.2.1.2.1
  unfold c_X9_force jfrc
  rw [jgd_t hL.1, hB.2.2.2.2.1.2.1, xi_lt (by omega), ← hw]
  cases e1 : jin x1 w with
  | false => exact ⟨m, rfl, xqF.rfl, h⟩
  | true =>
    obtain ⟨q, rfl, hq2, hq⟩ := jin_nat e1
    rw [if_pos rfl, if_pos rfl, ji_n hq2, hB.2.2.2.2.1.2.2.1]
    have hx1 : xqF xqW m (jsI (jsI m 32 14 (Int32.ofNat q)) 32 10 1) := (xqF_x (jfx_I (by unfold xqW; omega))).trans (xqF_x (jfx_I (by unfold xqW; omega)))
    have hC' : ∀ x, x < 4 → jCr (jUr D q) m x := hB.2.2.2.1
    refine ⟨_, rfl, hx1, xqQ_s (xqB_mk (D' := jUr D q) hB hx1 hB.1 (jCr_32 (jCr_32 hC')) ?_ ?_ ?_ hq (fun _ => rfl)) jsI_y⟩
    · rw [jsI_no (by omega), jsI_no (by omega)]
      exact hB.2.2.2.2.1.1
    · rw [jsI_no (by omega), jsI_y]
      rfl
    · rw [jsI_no (by omega), jsI_no (by omega)]
      exact hB.2.2.2.2.1.2.2.2
end XSET
