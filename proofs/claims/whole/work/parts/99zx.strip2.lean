/-! rows removed in trials: the loops -/
section XSTRIP2
variable {F w : Nat} {D : jD}
/-- what strip may change -/
def xqZ (a i : Nat) : Prop := xqH a i ∨ (77 ≤ a ∧ a ≤ 88) ∨ a = 47 ∨ a = 48 ∨ (a = 32 ∧ i = 13)
theorem ji_m20 {o : Nat} (ho : o < 100) : ¬ ((-20 : Int32) - Int32.ofNat o) = -1 ∧ ¬ ((-20 : Int32) - Int32.ofNat o) = 0 ∧ ¬ ((100 : Int32) + Int32.ofNat o) = -1 ∧ ¬ ((100 : Int32) + Int32.ofNat o) = 0 := by
  have : ∀ o : Fin 100, ¬ ((-20 : Int32) - Int32.ofNat o.1) = -1 ∧ ¬ ((-20 : Int32) - Int32.ofNat o.1) = 0 ∧ ¬ ((100 : Int32) + Int32.ofNat o.1) = -1 ∧ ¬ ((100 : Int32) + Int32.ofNat o.1) = 0 := by decide +kernel
  exact this ⟨o, ho⟩
/-- a loop that has its answer stops -/
theorem xq_strip_stop {m : jMe} {D' : jD} (h : xqB D' w m) {s : Nat} (hs : s < 4) {x : Int64} {y4 y5 y6 : Int32} (hy : ¬ y5 = -1) {f : Nat} (hf : 0 < f) : c_X9_strip_l68 F f m 32 (Int32.ofNat s) x y4 y5 y6 = some (m, 32, y4, y5) := by
  have hL := h.2.1.1
  have h2 := h.2.1.2.2.1
  obtain ⟨p1, p2⟩ := xq_sh h hs
  obtain ⟨f, rfl⟩ := jsucc hf
  show c_X9_strip_l68_b F _ m _ _ _ _ _ _ = _
  unfold c_X9_strip_l68_b
  rw [jgd_t hL.1, hL.2.2.2.1, jgd_t h2.2.2.1, h2.2.2.2.1, jgd_t (ji_int (by omega) hs), ji_n (by omega), p1, jgd_t p2.1, if_neg hy, ite_self]
theorem xq_strip_l68 (hF : 2000 < F) {L : Nat → Int64} {s n : Nat} (hs : s < 4) (hn : n ≤ 12) {x : Int64} : ∀ (t o f : Nat) (m : jMe), o + t = n → t + 1 < f → xqB (jtr L D o) w m → jI m (89 + 2 * s) 2 = Int32.ofNat n → (∀ i, jL m (90 + 2 * s) i = L i) → (∀ j, j < o → jI m 47 j = Int64.toInt32 (L j)) → ∃ m', c_X9_strip_l68 F f m 32 (Int32.ofNat s) x (Int32.ofNat o) (-1) (Int32.ofNat o) = some (m', 32, Int32.ofNat (jstp L x D t o).1, if (jstp L x D t o).2 = 0 then -1 else (jstp L x D t o).2) ∧ xqF xqZ m m' ∧ xqB (jtr L D (jstp L x D t o).1) w m' ∧ (∀ j, j < (jstp L x D t o).1 → jI m' 47 j = Int64.toInt32 (L j)) := by
  intro t
  induction t with
  | zero =>
    intro o f m h1 h2 hB h2s hV ht
    obtain ⟨f, rfl⟩ := jsucc h2
    have hL := hB.2.1.1
    have h2' := hB.2.1.2.2.1
    obtain ⟨p1, p2⟩ := xq_sh hB hs
    refine ⟨m, ?_, xqF.rfl, hB, ht⟩
    show c_X9_strip_l68_b F _ m _ _ _ _ _ _ = _
    unfold c_X9_strip_l68_b
    rw [jgd_t hL.1, hL.2.2.2.1, jgd_t h2'.2.2.1, h2'.2.2.2.1, jgd_t (ji_int (by omega) hs), ji_n (by omega), p1, jgd_t p2.1, h2s, if_pos (ji_lep (by omega) (by omega) (by omega))]
    rfl
  | succ t ih =>
    intro o f m h1 h2 hB h2s hV ht
    obtain ⟨f, rfl⟩ := jsucc h2
    have hL := hB.2.1.1
    have h2' := hB.2.1.2.2.1
    have h4 := hB.2.1.2.2.2.2
    obtain ⟨p1, p2⟩ := xq_sh hB hs
    have hst : ∀ z, (if jbi (jlvi (jtr L D o) (L o)) = 0 then c_X9_strip_l68 F f m 32 (Int32.ofNat s) x (Int32.ofNat o) ((-20 : Int32) - Int32.ofNat o) (Int32.ofNat (o + 1)) else jb (c_X9_setLiveItem F (jsI m 47 o (Int64.toInt32 (L o))) 32 (Int64.toInt32 (L o)) (0 : Int32)) fun t28 => jgd (jK t28 32 = 41) <| jb (c_X9_isEnough F t28 32 x) fun t31 => (if t31.1 = 0 then c_X9_strip_l68 F f t31.2 32 (Int32.ofNat s) x (Int32.ofNat (o + 1)) (-1 : Int32) (Int32.ofNat (o + 1)) else c_X9_strip_l68 F f t31.2 32 (Int32.ofNat s) x (Int32.ofNat (o + 1)) ((100 : Int32) + Int32.ofNat (o + 1)) (Int32.ofNat (o + 1)))) = z → c_X9_strip_l68 F (f + 1) m 32 (Int32.ofNat s) x (Int32.ofNat o) (-1) (Int32.ofNat o) = z := by
      intro z h
      rw [← h]
      show c_X9_strip_l68_b F _ m _ _ _ _ _ _ = _
      unfold c_X9_strip_l68_b
      rw [jgd_t hL.1, hL.2.2.2.1, jgd_t h2'.2.2.1, h2'.2.2.2.1, jgd_t (ji_int (by omega) hs), ji_n (show s < 2147483648 by omega), p1, jgd_t p2.1, h2s, if_neg (ji_len (by omega) (by omega) (by omega)), if_pos rfl, jgd_t (ji_int (by omega) hs), p2.2.1, jgd_t p2.2.2.1, p2.2.2.2.1, jgd_t (ji_int (by omega) (by omega)), ji_n (show o < 2147483648 by omega), hV, xq_isLiveItem hB, jb_some, hL.2.2.2.2.2.2.2.1, jgd_t h4.2.2.2.2.2.2.2.2.2.1, h4.2.2.2.2.2.2.2.2.2.2.1, jgd_t (ji_int (by omega) (by omega)), show Int32.ofNat o + 1 = Int32.ofNat (o + 1) from ji_add o 1]
    rw [jstp]
    cases e : jlvi (jtr L D o) (L o) with
    | false =>
      obtain ⟨n1, n2, -, -⟩ := ji_m20 (o := o) (by omega)
      rw [if_neg (show ¬ (false = true) by decide)]
      refine ⟨m, hst _ ?_, xqF.rfl, hB, ht⟩
      dsimp only
      rw [e, if_pos (show jbi false = 0 from rfl), xq_strip_stop hB hs n1 (by omega), if_neg n2]
    | true =>
      obtain ⟨⟨v0, v1⟩, v2, v3, v4, v5⟩ := jlvi_d hB.1 e
      have hx1 : xqF xqZ m (jsI m 47 o (Int64.toInt32 (L o))) := xqF_x (jfx_I (by unfold xqZ; omega))
      have hB1 : xqB (jtr L D o) w (jsI m 47 o (Int64.toInt32 (L o))) := xqB_fx (S := fun a i => a = 47 ∧ i = o) (xqF_x (jfx_I ⟨rfl, rfl⟩)) (fun a i q => by unfold xqR at q; omega) hB
      have hs1 : c_X9_setLiveItem F (jsI m 47 o (Int64.toInt32 (L o))) 32 (Int64.toInt32 (L o)) (0 : Int32) = _ := xq_setLiveItem (b := false) hB1 v0 v1 v5
      have hB2 : xqB (jtr L D (o + 1)) w _ := xqB_l (b := false) hB1 v3 v5
      have hx2 : xqF xqZ m (jsI (jsI m 47 o (Int64.toInt32 (L o))) (jrc (jit (L o) / 8)) 6 (Int32.ofNat (jli (jDl (jtr L D o) (jit (L o) / 8)) (jit (L o) % 8) false))) := hx1.trans (xqF_x (jfx_I (by unfold xqZ jrc; omega)))
      have ht2 : ∀ j, j < o + 1 → jI (jsI (jsI m 47 o (Int64.toInt32 (L o))) (jrc (jit (L o) / 8)) 6 (Int32.ofNat (jli (jDl (jtr L D o) (jit (L o) / 8)) (jit (L o) % 8) false))) 47 j = Int64.toInt32 (L j) := fun j hj => by
        rw [jsI_no (by unfold jrc; omega), jsI_g]
        by_cases q : j = o
        · rw [if_pos ⟨rfl, q⟩, q]
        · rw [if_neg (fun z => q z.2)]
          exact ht j (by omega)
      generalize jsI (jsI m 47 o (Int64.toInt32 (L o))) (jrc (jit (L o) / 8)) 6 (Int32.ofNat (jli (jDl (jtr L D o) (jit (L o) / 8)) (jit (L o) % 8) false)) = m2 at hs1 hB2 hx2 ht2
      obtain ⟨m3, c1, c2, c3⟩ := xq_isEnough (F := F) hF hB2 (x := x)
      have hx3 : xqF xqZ m m3 := hx2.trans (c2.weak (fun a i q => Or.inl q))
      have h2s3 : jI m3 (89 + 2 * s) 2 = Int32.ofNat n := by rw [hx3.I (by unfold xqZ xqH; omega)]; exact h2s
      have hV3 : ∀ i, jL m3 (90 + 2 * s) i = L i := fun i => by rw [hx3.L (by unfold xqZ xqH; omega)]; exact hV i
      have ht3 : ∀ j, j < o + 1 → jI m3 47 j = Int64.toInt32 (L j) := fun j hj => by rw [c2.I (by unfold xqH; omega)]; exact ht2 j hj
      rw [if_pos rfl]
      cases e2 : jenu (jtr L D (o + 1)) x with
      | true =>
        obtain ⟨-, -, n3, n4⟩ := ji_m20 (o := o + 1) (by omega)
        rw [if_pos rfl]
        refine ⟨m3, hst _ ?_, hx3, c3, ht3⟩
        dsimp only
        rw [e, if_neg (show ¬ jbi true = 0 by decide), hs1, jb_some, jgd_t hB2.2.1.1.1, c1, jb_some, e2]
        dsimp only
        rw [if_neg (show ¬ jbi true = 0 by decide), xq_strip_stop c3 hs n3 (by omega), if_neg n4]
      | false =>
        rw [if_neg (show ¬ (false = true) by decide)]
        obtain ⟨m', d1, d2, d3, d4⟩ := ih (o + 1) f m3 (by omega) (by omega) c3 h2s3 hV3 ht3
        refine ⟨m', hst _ ?_, hx3.trans d2, d3, d4⟩
        rw [e, if_neg (show ¬ jbi true = 0 by decide), hs1, jb_some, jgd_t hB2.2.1.1.1, c1, jb_some, e2]
        dsimp only
        rw [if_pos (show jbi false = 0 from rfl)]
        exact d1
theorem jtr_ok {L : Nat → Int64} (hD : jDok D) : ∀ (o : Nat), (∀ j, j < o → jlvi (jtr L D j) (L j) = true) → jDok (jtr L D o) := by
  intro o
  induction o with
  | zero => intro _; exact hD
  | succ o ih =>
    intro h
    have h0 := ih (fun j hj => h j (by omega))
    obtain ⟨-, v2, v3, v4, v5⟩ := jlvi_d h0 (h o (by omega))
    exact jDok_l h0 v3 (jli_lt (h0.2.2.1 _ v3).2.2.2.1 v5) (fun q => absurd v2 (by omega))
theorem xq_shut_l9 {L : Nat → Int64} (hD : jDok D) {o' : Nat} (ho : o' ≤ 12) (hlv : ∀ j, j < o' → jlvi (jtr L D j) (L j) = true) : ∀ (t c f : Nat) (m : jMe), c + t = o' → t < f → xqB (jtr L D t) w m → jI m 32 13 = Int32.ofNat c → (∀ j, j < o' → jI m 47 j = Int64.toInt32 (L j)) → (∀ j, j < c → jI m 48 j = Int64.toInt32 (L (o' - 1 - j))) → ∃ m', c_X9_shut_l9 F f m 32 (Int32.ofNat t - 1) = some m' ∧ xqF xqZ m m' ∧ xqB D w m' ∧ xSl (o', fun j => Int64.toInt32 (L (o' - 1 - j))) m' := by
  intro t
  induction t with
  | zero =>
    intro c f m h1 h2 hB hc ht hsl
    obtain ⟨f, rfl⟩ := jsucc h2
    refine ⟨m, ?_, xqF.rfl, hB, ho, by rw [hc, show c = o' by omega], fun j hj => hsl j (by omega)⟩
    show c_X9_shut_l9_b F _ m _ _ = _
    unfold c_X9_shut_l9_b
    rw [if_pos jdown0]
  | succ t ih =>
    intro c f m h1 h2 hB hc ht hsl
    obtain ⟨f, rfl⟩ := jsucc h2
    have hL := hB.2.1.1
    have h4 := hB.2.1.2.2.2.2
    have hDt : jDok (jtr L D t) := jtr_ok hD t (fun j hj => hlv j (by omega))
    obtain ⟨⟨v0, v1⟩, v2, v3, v4, v5⟩ := jlvi_d hDt (hlv t (by omega))
    have hs1 : c_X9_setLiveItem F m 32 (Int64.toInt32 (L t)) (1 : Int32) = _ := xq_setLiveItem (b := true) hB v0 v1 v5
    have hB2 := xqB_l (b := true) hB v3 v5
    rw [show jUl (jtr L D (t + 1)) (jit (L t) / 8) (jli (jDl (jtr L D (t + 1)) (jit (L t) / 8)) (jit (L t) % 8) true) = jtr L D t from jwD_back (hDt.2.2.1 _ v3) v5 v4] at hB2
    have hx2 : xqF xqZ m (jsI m (jrc (jit (L t) / 8)) 6 (Int32.ofNat (jli (jDl (jtr L D (t + 1)) (jit (L t) / 8)) (jit (L t) % 8) true))) := xqF_x (jfx_I (by unfold xqZ jrc; omega))
    have hkeep : ∀ a i, (a = 32 ∨ a = 47 ∨ a = 48) → jI (jsI m (jrc (jit (L t) / 8)) 6 (Int32.ofNat (jli (jDl (jtr L D (t + 1)) (jit (L t) / 8)) (jit (L t) % 8) true))) a i = jI m a i := fun a i q => jsI_no (by unfold jrc; omega)
    generalize jsI m (jrc (jit (L t) / 8)) 6 (Int32.ofNat (jli (jDl (jtr L D (t + 1)) (jit (L t) / 8)) (jit (L t) % 8) true)) = m1 at hs1 hB2 hx2 hkeep
    have hL1 := hB2.2.1.1
    have h41 := hB2.2.1.2.2.2.2
    have hc1 : jI m1 32 13 = Int32.ofNat c := by rw [hkeep _ _ (Or.inl rfl)]; exact hc
    have ht1 : ∀ j, j < o' → jI m1 47 j = Int64.toInt32 (L j) := fun j hj => by rw [hkeep _ _ (Or.inr (Or.inl rfl))]; exact ht j hj
    generalize hm3 : jsI (jsI m1 48 c (Int64.toInt32 (L t))) 32 13 (Int32.ofNat (c + 1)) = m3
    have hx13 : jfx (fun a i => a = 48 ∨ (a = 32 ∧ i = 13)) m1 m3 := by
      rw [← hm3]
      exact (jfx_I (S := fun a i => a = 48 ∨ (a = 32 ∧ i = 13)) (Or.inl rfl)).trans (jfx_I (S := fun a i => a = 48 ∨ (a = 32 ∧ i = 13)) (Or.inr ⟨rfl, rfl⟩))
    have hB3 : xqB (jtr L D t) w m3 := xqB_fx (xqF_x hx13) (fun a i q => by unfold xqR at q; omega) hB2
    obtain ⟨m', d1, d2, d3, d4⟩ := ih (c + 1) f m3 (by omega) (by omega) hB3 (by rw [← hm3, jsI_y]) (fun j hj => by rw [hx13.I (by omega)]; exact ht1 j hj) (fun j hj => by
      rw [← hm3, jsI_no (by omega), jsI_g]
      by_cases q : j = c
      · rw [if_pos ⟨rfl, q⟩, q, show o' - 1 - c = t by omega]
      · rw [if_neg (fun z => q z.2), hkeep _ _ (Or.inr (Or.inr rfl))]
        exact hsl j (by omega))
    refine ⟨m', ?_, (hx2.trans ((xqF_x hx13).weak (fun a i q => by unfold xqZ; omega))).trans d2, d3, d4⟩
    show c_X9_shut_l9_b F _ m _ _ = _
    unfold c_X9_shut_l9_b
    rw [jdown_s, if_neg (ji_ge0 (by omega)), jgd_t hL.1, hL.2.2.2.2.2.2.2.1, jgd_t h4.2.2.2.2.2.2.2.2.2.1, h4.2.2.2.2.2.2.2.2.2.2.1, jgd_t (ji_int (by omega) (by omega)), ji_n (by omega), ht t (by omega), hs1, jb_some, jgd_t hL1.1, hL1.2.2.2.2.2.2.2.1, jgd_t h41.2.2.2.2.2.2.2.2.2.1, h41.2.2.2.2.2.2.2.2.2.2.1, jgd_t (ji_int (by omega) (by omega)), hL1.2.2.2.2.2.2.2.2.1, jgd_t h41.2.2.2.2.2.2.2.2.2.2.2.1, h41.2.2.2.2.2.2.2.2.2.2.2.2, hc1, jgd_t (ji_int (by omega) (by omega)), ji_n (by omega), ht1 t (by omega), jsI_no (show ¬ (32 = 48 ∧ 13 = c) by omega), hc1, show Int32.ofNat c + 1 = Int32.ofNat (c + 1) from ji_add c 1, hm3, jdown]
    exact d1
theorem xq_strip (hF : 2000 < F) {m : jMe} (h : xqQ D w m) {H : jHt} {L0 : Nat × (Nat → Int32)} (hH : xHm H m) (hS : xSl L0 m) {x1 : Int32} {x2 : Int64} : ∃ m', c_X9_strip F m 32 x1 x2 = some ((jstr D H L0 x1 x2).1, m') ∧ xqF xqZ m m' ∧ xqQ D w m' ∧ xSl (jstr D H L0 x1 x2).2 m' := by
  have hB := h.1
  have hL := hB.2.1.1
  have h2 := hB.2.1.2.2.1
  unfold c_X9_strip jstr
  rw [xq_isSheet, jb_some]
  cases e1 : jin x1 4 with
  | false =>
    rw [if_pos (show jbi false = 0 from rfl), if_neg (show ¬ (false = true ∧ _) from fun q => by cases q.1)]
    exact ⟨m, rfl, xqF.rfl, h, hS⟩
  | true =>
    obtain ⟨s, rfl, hs2, hs⟩ := jin_nat e1
    obtain ⟨p1, p2⟩ := xq_sh hB hs
    obtain ⟨k1, l2, k3, k4, k5, k6⟩ := hH s hs
    rw [if_neg (show ¬ jbi true = 0 by decide), ji_n hs2]
    by_cases e2 : 0 ≤ x2
    · rw [if_pos (jc_0le.mpr e2), if_pos (show true = true ∧ 0 ≤ x2 from ⟨rfl, e2⟩), jgd_t hL.1, hB.2.2.2.2.1.2.2.2]
      by_cases hq0 : jDq D = 0
      · rw [if_pos ((jDq_0 hB.1).mpr hq0), if_pos hq0]
        exact ⟨m, rfl, xqF.rfl, h, hS⟩
      rw [if_neg (fun h => hq0 ((jDq_0 hB.1).mp h)), if_neg hq0, hL.2.2.2.1, jgd_t h2.2.2.1, h2.2.2.2.1, jgd_t (ji_int hs2 hs), p1, jgd_t p2.1, k1]
      cases e3 : H.1 s with
      | false => exact ⟨m, rfl, xqF.rfl, h, hS⟩
      | true =>
        have k4 := k4 e3
        rw [if_pos (show true = true from rfl), if_pos (show true = true from rfl), if_neg (show ¬ Int32.ofNat (H.2.1 s) = -1 from ji_ne1 (by omega)), jgd_t (ji_int hs2 hs), l2]
        by_cases e4 : H.2.2.1 s ≤ 12
        · rw [if_pos (show Int32.ofNat (H.2.2.1 s) ≤ (12 : Int32) from ji_lep (b := 12) (by omega) (by omega) e4), if_pos e4]
          obtain ⟨m1, a1, a2, a3, a4⟩ := xq_strip_l68 (F := F) (D := D) hF (L := jL m (90 + 2 * s)) hs e4 (x := x2) (H.2.2.1 s) 0 F m (by omega) (by omega) hB l2 (fun _ => rfl) (fun j hj => absurd hj (Nat.not_lt_zero j))
          have a1 : c_X9_strip_l68 F F m 32 (Int32.ofNat s) x2 (0 : Int32) (-1 : Int32) (0 : Int32) = _ := a1
          have hf := jstp_f (L := jL m (90 + 2 * s)) (D := D) (x := x2) (H.2.2.1 s) 0
          have hcc : jstp (jL m (90 + 2 * s)) x2 D (H.2.2.1 s) 0 = jstp (H.2.2.2 s) x2 D (H.2.2.1 s) 0 := jstp_c _ 0 (fun i hi => k6 i (by omega))
          have hx2 : xqF xqZ m1 (jsI m1 32 13 (0 : Int32)) := xqF_x (jfx_I (by unfold xqZ; omega))
          have hB2 : xqB (jtr (jL m (90 + 2 * s)) D (jstp (jL m (90 + 2 * s)) x2 D (H.2.2.1 s) 0).1) w (jsI m1 32 13 (0 : Int32)) := xqB_fx (S := fun a i => a = 32 ∧ i = 13) (xqF_x (jfx_I ⟨rfl, rfl⟩)) (fun a i q => by unfold xqR at q; omega) a3
          obtain ⟨m2, b1, b2, b3, b4⟩ := xq_shut_l9 (F := F) (w := w) hB.1 (o' := (jstp (jL m (90 + 2 * s)) x2 D (H.2.2.1 s) 0).1) (by omega) (fun j hj => hf.2.2 j (Nat.zero_le j) hj) (jstp (jL m (90 + 2 * s)) x2 D (H.2.2.1 s) 0).1 0 F (jsI m1 32 13 (0 : Int32)) (by omega) (by omega) hB2 jsI_y (fun j hj => by rw [jsI_no (by omega)]; exact a4 j hj) (fun j hj => absurd hj (Nat.not_lt_zero j))
          rw [a1, jb_some]
          unfold c_X9_strip_j167 c_X9_shut
          dsimp only
          rw [jgd_t a3.2.1.1.1, jgd_t a3.2.1.1.1, b1, jb_some, jb_some]
          have hx : xqF xqZ m m2 := (a2.trans hx2).trans b2
          have hQ2 : xqQ D w m2 := by
            obtain ⟨-, st, s1, s2⟩ := h
            exact ⟨b3, st, by rw [hx.I (by unfold xqZ xqH; omega)]; exact s1, fun q => xqJ_fx hx (fun a i q1 q2 z => by unfold xqZ xqH at z; omega) b3 (s2 q)⟩
          have hS2 : xSl ((jstp (H.2.2.2 s) x2 D (H.2.2.1 s) 0).1, fun i => Int64.toInt32 (H.2.2.2 s ((jstp (H.2.2.2 s) x2 D (H.2.2.1 s) 0).1 - 1 - i))) m2 := by
            rw [← hcc]
            obtain ⟨z1, z2, z3⟩ := b4
            refine ⟨z1, z2, fun i hi => ?_⟩
            have hi : i < (jstp (jL m (90 + 2 * s)) x2 D (H.2.2.1 s) 0).1 := hi
            rw [z3 i hi]
            show Int64.toInt32 (jL m (90 + 2 * s) _) = Int64.toInt32 (H.2.2.2 s _)
            rw [k6 _ (by omega)]
          rw [hcc]
          refine ⟨m2, ?_, hx, hQ2, hS2⟩
          by_cases e0 : (jstp (H.2.2.2 s) x2 D (H.2.2.1 s) 0).2 = 0
          · rw [if_pos e0, if_pos rfl, if_pos e0]
          · have hne : ¬ (jstp (H.2.2.2 s) x2 D (H.2.2.1 s) 0).2 = -1 := by
              have : ∀ (t o : Nat), o + t ≤ 12 → ¬ (jstp (H.2.2.2 s) x2 D t o).2 = -1 := by
                intro t
                induction t with
                | zero => intro o _; exact (show ¬ (0 : Int32) = -1 by decide)
                | succ t iht =>
                  intro o ho
                  rw [jstp]
                  split
                  · split
                    · exact (ji_m20 (o := o + 1) (by omega)).2.2.1
                    · exact iht (o + 1) (by omega)
                  · exact (ji_m20 (o := o) (by omega)).1
              exact this _ 0 (by omega)
            rw [if_neg e0, if_neg hne, if_neg e0]
        · rw [if_neg (show ¬ Int32.ofNat (H.2.2.1 s) ≤ (12 : Int32) from ji_len (b := 12) (by omega) (by omega) e4), if_neg e4]
          exact ⟨m, rfl, xqF.rfl, h, hS⟩
    · rw [if_neg (fun q => e2 (jc_0le.mp q)), if_neg (show ¬ (true = true ∧ 0 ≤ x2) from fun q => e2 q.2)]
      exact ⟨m, rfl, xqF.rfl, h, hS⟩
end XSTRIP2
