/-! rows that pass, as the class tells them -/
theorem jset_set (m : jMe) (a : Nat) (f g : Nat → Int32) : jset (jset m a f) a g = jset m a g := by
  have : jat (jat (jI m) a f) a g = jat (jI m) a g := by
    funext b
    unfold jat
    by_cases h : b = a
    · rw [if_pos h, if_pos h]
    · rw [if_neg h, if_neg h, if_neg h]
  show (jN m, jT m, jK m, jZ m, jat (jat (jI m) a f) a g, jL m, jP m) = _
  rw [this]
  rfl
/-- THE RULE's text: its cell tb, its steps' c, its stack's s -/
def jTX (D : jD) (tb c s n : Nat) (m : jMe) : Prop := (jK m tb = 39 ∧ jP m tb 0 = c ∧ jP m tb 1 = s ∧ jK m c = 1 ∧ jZ m c = n ∧ jK m s = 1 ∧ jZ m s = 64 ∧ n < 1000 ∧ c ≠ s) ∧ (s = 99 ∨ 129 ≤ s) ∧ (c = 100 ∨ 129 ≤ c) ∧ ∀ r k f cp, jtell ((List.range' 0 n).map (jI m c)) r k f cp = jDt D (jDr D) r k f cp
theorem jTX_of {D : jD} {tb c s n : Nat} {m m' : jMe} (hK : jK m' = jK m) (hZ : jZ m' = jZ m) (hP : jP m' tb = jP m tb) (hI : jI m' c = jI m c) (h : jTX D tb c s n m) : jTX D tb c s n m' := by
  unfold jTX at h ⊢
  rw [hK, hZ, hP, hI]
  exact h
theorem jLr_of {m m' : jMe} {r : Nat} (hK : jK m' = jK m) (hZ : jZ m' = jZ m) (hP : jP m' = jP m) (h : jLr m r) : jLr m' r := by
  unfold jLr at h ⊢
  rw [hK, hZ, hP]
  exact h
section PASS
variable {F b : Nat} {D : jD}
theorem q_passing_l5 (hF : 2000 < F) {r tb c s n : Nat} (hr : r < 4) : ∀ (t k g : Nat) (m : jMe), k + t = jDz D r → t < g → jTX D tb c s n m → jLr m r → jDR D r → jCr D m r → ∃ f, c_X4_passing_l5 F g m (jrc r) tb (Int32.ofNat r) (Int32.ofNat (jbw k (jpb D r))) (Int32.ofNat k) = some (jset m s f, Int32.ofNat (jbw (jDz D r) (jpb D r))) := by
  intro t
  induction t with
  | zero =>
    intro k g m h1 h2 hT hL hD hC
    obtain ⟨g, rfl⟩ := jsucc h2
    have hz := hD.2.2.1
    have hk : k = jDz D r := by omega
    subst hk
    refine ⟨jI m s, ?_⟩
    rw [jset_self]
    show c_X4_passing_l5_b F _ m _ _ _ _ _ = _
    unfold c_X4_passing_l5_b
    rw [jgd_t hL.1, hC.2.2.2.1, if_pos (ji_lep (by omega) (by omega) (by omega))]
  | succ t ih =>
    intro k g m h1 h2 hT hL hD hC
    obtain ⟨g, rfl⟩ := jsucc h2
    have hz := hD.2.2.1
    have hT0 := hT
    obtain ⟨⟨t1, t2, t3, t4, t5, t6, t7, t8, t9⟩, t10, t11, t12⟩ := hT
    have hLt : jLt (r := r) m tb c s n := ⟨t1, t2, t3, t4, t5, t6, t7, t8, t9, by unfold jrc; omega, by unfold jrv; omega, by unfold jrk; omega⟩
    obtain ⟨f1, hv⟩ := q_valueFor hF hLt hL hD hC (show k < jDz D r by omega)
    rw [t12] at hv
    have hbl := jbw_lt (n := k) (p := jpb D r)
    have h8 := jp2 (i := k) (j := 7) (by omega)
    have hst : ∀ z, (if jbi ((jDl D r).testBit k) = 0 then c_X4_passing_l5 F g m (jrc r) tb (Int32.ofNat r) (Int32.ofNat (jbw k (jpb D r))) (Int32.ofNat (k + 1)) else (if jDt D (jDr D) r k (jDw D r k) (Int32.ofNat (jDc D r k)) = 0 then c_X4_passing_l5 F g (jset m s f1) (jrc r) tb (Int32.ofNat r) (Int32.ofNat (jbw k (jpb D r))) (Int32.ofNat (k + 1)) else c_X4_passing_l5 F g (jset m s f1) (jrc r) tb (Int32.ofNat r) (Int32.ofNat (jbw k (jpb D r) ||| 2 ^ k)) (Int32.ofNat (k + 1)))) = z → c_X4_passing_l5 F (g + 1) m (jrc r) tb (Int32.ofNat r) (Int32.ofNat (jbw k (jpb D r))) (Int32.ofNat k) = z := by
      intro z h
      rw [← h]
      show c_X4_passing_l5_b F _ m _ _ _ _ _ = _
      unfold c_X4_passing_l5_b
      rw [jgd_t hL.1, hC.2.2.2.1, if_neg (ji_len (by omega) (by omega) (by omega)), q_isLive hL hD hC (by omega), jb_some, jgd_t t1, hv, jb_some, jset_or (by omega) (by omega), show Int32.ofNat k + 1 = Int32.ofNat (k + 1) from ji_add k 1]
    have hT1 : jTX D tb c s n (jset m s f1) := jTX_of (m := m) rfl rfl rfl (jset_ne t9) hT0
    have hL1 : jLr (jset m s f1) r := jLr_of (m := m) rfl rfl rfl hL
    have hC1 : jCr D (jset m s f1) r := jCr_of (jset_ne (by unfold jrc; omega)) (jset_ne (by unfold jrv; omega)) (jset_ne (by unfold jrk; omega)) hC
    have hb : jbw (k + 1) (jpb D r) = jbw k (jpb D r) ||| (if jpb D r k = true then 2 ^ k else 0) := rfl
    have hpb : jpb D r k = ((jDl D r).testBit k && !decide (jDt D (jDr D) r k (jDw D r k) (Int32.ofNat (jDc D r k)) = 0)) := rfl
    cases el : (jDl D r).testBit k with
    | false =>
      rw [el, Bool.false_and] at hpb
      rw [hpb, if_neg (by decide), Nat.or_zero] at hb
      obtain ⟨f2, y1⟩ := ih (k + 1) g m (by omega) (by omega) hT0 hL hD hC
      refine ⟨f2, hst _ ?_⟩
      rw [el, if_pos (by decide), ← hb]
      exact y1
    | true =>
      rw [el, Bool.true_and] at hpb
      obtain ⟨f2, y1⟩ := ih (k + 1) g (jset m s f1) (by omega) (by omega) hT1 hL1 hD hC1
      refine ⟨f2, hst _ ?_⟩
      rw [el, if_neg (by decide)]
      rw [jset_set] at y1
      by_cases e : jDt D (jDr D) r k (jDw D r k) (Int32.ofNat (jDc D r k)) = 0
      · rw [decide_eq_true e] at hpb
        rw [hpb, if_neg (by decide), Nat.or_zero] at hb
        rw [if_pos e, ← hb]
        exact y1
      · rw [decide_eq_false e] at hpb
        rw [hpb, if_pos (by decide)] at hb
        rw [if_neg e, ← hb]
        exact y1
theorem jbw_z {r : Nat} (hD : jDR D r) : jbw (jDz D r) (jpb D r) = jpw D r := by
  refine Nat.eq_of_testBit_eq (fun i => ?_)
  rw [jpw_bit hD, jbw_bit]
  cases e : jpb D r i with
  | false => simp
  | true => simp [jpb_lt hD e]
theorem q_passing (hF : 2000 < F) {r tb c s n : Nat} (hr : r < 4) {m : jMe} (hT : jTX D tb c s n m) (hL : jLr m r) (hD : jDR D r) (hC : jCr D m r) : ∃ f, c_X4_passing F m (jrc r) tb (Int32.ofNat r) = some (Int32.ofNat (jpw D r), jset m s f) := by
  have hz := hD.2.2.1
  obtain ⟨f, h⟩ := q_passing_l5 hF hr (jDz D r) 0 F m (by omega) (by omega) hT hL hD hC
  refine ⟨f, ?_⟩
  unfold c_X4_passing
  have h : c_X4_passing_l5 F F m (jrc r) tb (Int32.ofNat r) (0 : Int32) (0 : Int32) = _ := h
  rw [h, jb_some]
  dsimp only
  rw [jbw_z hD]
/-- what is told of rows as a join at b is told, by a text with stack s -/
def jSq (b s : Nat) : Nat → Prop := fun a => a = s ∨ a = b + 11
theorem q_tell_l32 (hF : 2000 < F) {tb c s n : Nat} (hq : jDq D < 16) : ∀ (t a g : Nat) (m : jMe), a + t = 4 → t < g → jIn D b m → jTX D tb c s n m → (∀ r, r < a → jI m (b + 11) r = Int32.ofNat (if (jDq D).testBit r = true then jpw D r else 0)) → ∃ m', c_X2_tell_l32 F g m b 33 tb (Int32.ofNat (jDq D)) (Int32.ofNat a) = some (m', b) ∧ jfr (jSq b s) m m' ∧ (∀ r, r < 4 → jI m' (b + 11) r = Int32.ofNat (if (jDq D).testBit r = true then jpw D r else 0)) := by
  intro t
  induction t with
  | zero =>
    intro a g m h1 h2 hI hT hm
    obtain ⟨g, rfl⟩ := jsucc h2
    refine ⟨m, ?_, jfr.rfl, fun r hr => hm r (by omega)⟩
    show c_X2_tell_l32_b F _ m _ _ _ _ _ = _
    unfold c_X2_tell_l32_b
    rw [jl_4, if_pos (ji_lep (by omega) (by omega) (by omega))]
  | succ t ih =>
    intro a g m h1 h2 hI hT hm
    obtain ⟨g, rfl⟩ := jsucc h2
    have hI0 := hI
    obtain ⟨i1, i2, i3, ⟨i4, ib⟩, i5, i6⟩ := hI
    have hT0 := hT
    obtain ⟨⟨t1, t2, t3, t4, t5, t6, t7, t8, t9⟩, t10, t11, t12⟩ := hT
    have hpa := i1.2.2.2.2.2.2.2.2.2.2.2.2.2.2.2.1
    obtain ⟨r1, r2⟩ := i3.2.2 a (by omega)
    obtain ⟨f, hp⟩ := q_passing hF (show a < 4 by omega) hT0 r2 (i6 a (by omega)) (i5 a (by omega))
    have hst : ∀ z, (if jbi ((jDq D).testBit a) = 0 then c_X2_tell_l32 F g (jsI m (b + 11) a (Int32.ofNat 0)) b 33 tb (Int32.ofNat (jDq D)) (Int32.ofNat (a + 1)) else c_X2_tell_l32 F g (jsI (jset m s f) (b + 11) a (Int32.ofNat (jpw D a))) b 33 tb (Int32.ofNat (jDq D)) (Int32.ofNat (a + 1))) = z → c_X2_tell_l32 F (g + 1) m b 33 tb (Int32.ofNat (jDq D)) (Int32.ofNat a) = z := by
      intro z h
      rw [← h]
      show c_X2_tell_l32_b F _ m _ _ _ _ _ = _
      unfold c_X2_tell_l32_b c_X2_tell_j67_l32
      rw [jl_4, if_neg (ji_len (by omega) (by omega) (by omega)), jgd_t i1.1, q_isIn (by omega) (by omega), jb_some, i1.2.2.2.2.2.2.2.1, jgd_t hpa.1, hpa.2, jgd_t (ji_int (by omega) (by omega)), ji_n (by omega), jgd_t i3.1, i3.2.1, jgd_t (ji_int (by omega) (by omega)), r1, jgd_t r2.1, hp, jb_some]
      have e1 : jK (jset m s f) (b + 11) = 1 := hpa.1
      have e2 : jZ (jset m s f) (b + 11) = 4 := hpa.2
      rw [jgd_t e1, e2, jgd_t (ji_int (by omega) (by omega)), show Int32.ofNat a + 1 = Int32.ofNat (a + 1) from ji_add a 1]
      rfl
    cases eq : (jDq D).testBit a with
    | false =>
      have hf : jfr (jSq b s) m (jsI m (b + 11) a (Int32.ofNat 0)) := jsI_f (Or.inr rfl)
      have hI1 : jIn D b (jsI m (b + 11) a (Int32.ofNat 0)) := jIn_fr (S := (· = b + 11)) (fun a ha => by omega) (jsI_f rfl) hI0
      obtain ⟨m', y1, y2, y3⟩ := ih (a + 1) g _ (by omega) (by omega) hI1 (jTX_of (m := m) rfl rfl rfl (jsI_n (by omega)) hT0) (fun r hr => by
        rw [jsI_e]
        by_cases e : r = a
        · subst e
          rw [jupd_e, eq, if_neg (by decide)]
        · rw [jupd_n e]
          exact hm r (by omega))
      refine ⟨m', hst _ ?_, hf.trans y2, y3⟩
      rw [eq, if_pos (by decide)]
      exact y1
    | true =>
      generalize hm1 : jsI (jset m s f) (b + 11) a (Int32.ofNat (jpw D a)) = m1 at hst
      have hf : jfr (jSq b s) m m1 := by
        rw [← hm1]
        exact (jset_f (S := jSq b s) (Or.inl rfl)).trans (jsI_f (Or.inr rfl))
      have hIx : ∀ x, x ≠ s → x ≠ b + 11 → jI m1 x = jI m x := fun x h1 h2 => hf.2.2.2.2.2.1 x (by unfold jSq; omega)
      have hI1 : jIn D b m1 := jIn_of hf.2.2.1 hf.2.2.2.1 hf.2.2.2.2.1 (fun x hx => hIx x (by omega) (by omega)) hI0
      obtain ⟨m', y1, y2, y3⟩ := ih (a + 1) g m1 (by omega) (by omega) hI1 (jTX_of hf.2.2.1 hf.2.2.2.1 (by rw [hf.2.2.2.2.1]) (hIx _ t9 (by omega)) hT0) (fun r hr => by
        rw [← hm1, jsI_e]
        by_cases e : r = a
        · subst e
          rw [jupd_e, eq, if_pos rfl]
        · rw [jupd_n e, jset_ne (by omega)]
          exact hm r (by omega))
      refine ⟨m', hst _ ?_, hf.trans y2, y3⟩
      rw [eq, if_neg (by decide)]
      exact y1
end PASS
