/-! numbers, draws, as the reference tells them -/
section YDRAW
variable {F : Nat} {D : jD} {S : jTS}
theorem jbn_z {x : Nat} : ∀ (t s : Nat), jbn x t s = s + jbn x t s - s := fun t s => by omega
/-- how many bits: halves, till nothing is left -/
def jhb : Nat → Nat → Nat
  | 0, _ => 0
  | t + 1, x => if x = 0 then 0 else jhb t (x / 2) + 1
theorem jhb_e : ∀ (t s x : Nat), jbn x t s = s + jhb t (x / 2 ^ s) := by
  intro t
  induction t with
  | zero => intro s x; rfl
  | succ t ih =>
    intro s x
    rw [jbn, jhb, ih]
    by_cases h : x / 2 ^ s = 0
    · simp [h]
    · simp only [h, if_false, if_true, not_false_eq_true, ite_false, ite_true]
      rw [Nat.pow_succ, ← Nat.div_div_eq_div_mul]
      first | omega | (simp; omega)
theorem jlushr1 {n : Nat} (hn : n < 9223372036854775808) : jlushr (Int64.ofNat n) (1 : Int32) = Int64.ofNat (n / 2) := jlushr_of (s := 1) hn (by omega)
theorem y_below_l7 {m : jMe} {n : Nat} : ∀ (t s x f : Nat), x < 2 ^ t → t < f → t ≤ 63 → c_X10_below_l7 F f m 101 (Int64.ofNat n) (Int32.ofNat s) (Int64.ofNat x) = some (m, 101, Int64.ofNat n, Int32.ofNat (s + jhb t x)) := by
  intro t
  induction t with
  | zero =>
    intro s x f h1 h2 h3
    obtain ⟨f, rfl⟩ := jsucc h2
    have hx : x = 0 := by omega
    subst hx
    show c_X10_below_l7_b F _ m _ _ _ _ = _
    unfold c_X10_below_l7_b
    rw [if_pos (show lg_cmp (Int64.ofNat 0) 0 = 0 from jc_eq0.mpr rfl)]
    rfl
  | succ t ih =>
    intro s x f h1 h2 h3
    obtain ⟨f, rfl⟩ := jsucc h2
    have h63 := jp2 (i := t + 1) (j := 63) (by omega)
    have h63' : (2 : Nat) ^ 63 = 9223372036854775808 := by decide
    have hx : x < 9223372036854775808 := by omega
    show c_X10_below_l7_b F _ m _ _ _ _ = _
    unfold c_X10_below_l7_b
    rw [jhb]
    by_cases h : x = 0
    · subst h
      rw [if_pos (show lg_cmp (Int64.ofNat 0) 0 = 0 from jc_eq0.mpr rfl), if_pos rfl]
      rfl
    · rw [if_neg (show ¬ lg_cmp (Int64.ofNat x) 0 = 0 from fun q => h ((jq_eq (b := 0) (by unfold jMX; omega) (by omega)).mp (jc_eq0.mp q))), if_neg h, jlushr1 hx, show Int32.ofNat s + 1 = Int32.ofNat (s + 1) from ji_add s 1]
      dsimp only
      rw [ih (s + 1) (x / 2) f (by rw [Nat.pow_succ] at h1; omega) (by omega) (by omega)]
      rw [show s + 1 + jhb t (x / 2) = s + (jhb t (x / 2) + 1) by omega]
theorem jhb_le : ∀ (t x : Nat), jhb t x ≤ t := by
  intro t
  induction t with
  | zero => intro x; exact Nat.le_refl _
  | succ t ih =>
    intro x
    rw [jhb]
    split
    · omega
    · have := ih (x / 2); omega
theorem y_below_l45 {n s tr : Nat} (hs : s ≤ 63) : ∀ (t i f v : Nat) (m : jMe) (z : Int32), i + t = s → t < f → jLM m → jI m 101 43 = z → ∃ m', c_X10_below_l45 F f m 101 (Int64.ofNat n) (Int32.ofNat s) (Int64.ofNat v) (Int32.ofNat tr) (Int32.ofNat i) = some (m', 101, Int64.ofNat n, Int32.ofNat s, Int64.ofNat (jbs jnx jb1 t z v).1, Int32.ofNat tr) ∧ jfx (fun a i => a = 101 ∧ i = 43) m m' ∧ jI m' 101 43 = (jbs jnx jb1 t z v).2 := by
  intro t
  induction t with
  | zero =>
    intro i f v m z h1 h2 hL hz
    obtain ⟨f, rfl⟩ := jsucc h2
    refine ⟨m, ?_, jfx.rfl, hz⟩
    show c_X10_below_l45_b F _ m _ _ _ _ _ _ = _
    unfold c_X10_below_l45_b
    rw [if_pos (ji_lep (by omega) (by omega) (by omega))]
    rfl
  | succ t ih =>
    intro i f v m z h1 h2 hL hz
    obtain ⟨f, rfl⟩ := jsucc h2
    have f1 : jfx (fun a i => a = 101 ∧ i = 43) m (jsI m 101 43 (jnx z)) := jfx_I ⟨rfl, rfl⟩
    obtain ⟨m', a1, a2, a3⟩ := ih (i + 1) f (2 * v + jb1 (jnx z)) _ (jnx z) (by omega) (by omega) (jLM_fx f1 hL) jsI_y
    rw [jbs_s]
    refine ⟨m', ?_, f1.trans a2, a3⟩
    show c_X10_below_l45_b F _ m _ _ _ _ _ _ = _
    unfold c_X10_below_l45_b
    have hb := jb1_le (jnx z)
    rw [if_neg (ji_len (by omega) (by omega) (by omega)), jgd_t hL.1, jsI_y, hz, jlet_m]
    show c_X10_below_l45 F f (jsI m 101 43 (jnx z)) 101 (Int64.ofNat n) (Int32.ofNat s) (((2 : Int64) * Int64.ofNat v) + (Int32.toInt64 ((jushr (jnx z) (16 : Int32)) &&& (1 : Int32)))) (Int32.ofNat tr) (Int32.ofNat i + (1 : Int32)) = _
    rw [jb1_e, jt64 (by omega), show (2 : Int64) = Int64.ofNat 2 from rfl, jq_mul, jq_add, show Int32.ofNat i + 1 = Int32.ofNat (i + 1) from ji_add i 1]
    exact a1
theorem y_below_l32 (hF : 1000 < F) {n s : Nat} (hs : s ≤ 63) (hn : n ≤ jMX) : ∀ (t k f v : Nat) (m : jMe) (z : Int32), k + t = 30 → t < f → v ≤ jMX → jLM m → jI m 101 43 = z → ∃ m' zz, c_X10_below_l32 F f m 101 (Int64.ofNat n) (Int32.ofNat s) (Int64.ofNat v) (Int32.ofNat k) = some zz ∧ jfx (fun a i => a = 101 ∧ i = 43) m m' ∧ jI m' 101 43 = (jbe jnx jb1 n s t z v).2 ∧ (zz = .inl (Int64.ofNat (jbe jnx jb1 n s t z v).1, m') ∨ ∃ v', zz = .inr (m', Int64.ofNat n, Int64.ofNat v') ∧ v' ≤ jMX ∧ (jbe jnx jb1 n s t z v).1 = v' % n) := by
  intro t
  induction t with
  | zero =>
    intro k f v m z h1 h2 hv hL hz
    obtain ⟨f, rfl⟩ := jsucc h2
    refine ⟨m, _, ?_, jfx.rfl, hz, Or.inr ⟨v, rfl, hv, rfl⟩⟩
    show c_X10_below_l32_b F _ m _ _ _ _ _ = _
    unfold c_X10_below_l32_b
    rw [if_pos (show (30 : Int32) ≤ Int32.ofNat k from ji_lep (a := 30) (by omega) (by omega) (by omega))]
  | succ t ih =>
    intro k f v m z h1 h2 hv hL hz
    obtain ⟨f, rfl⟩ := jsucc h2
    obtain ⟨m1, a1, a2, a3⟩ := y_below_l45 (F := F) (n := n) (s := s) (tr := k) hs s 0 F 0 m z (by omega) (by omega) hL hz
    have a1 : c_X10_below_l45 F F m 101 (Int64.ofNat n) (Int32.ofNat s) (0 : Int64) (Int32.ofNat k) (0 : Int32) = _ := a1
    have hL1 := jLM_fx a2 hL
    have hlt := jbs_lt (nx := jnx) (bt := jb1) jb1_le s z 0
    have h63 := jp2 hs
    have h63' : (2 : Nat) ^ 63 = 9223372036854775808 := by decide
    have hbm : (jbs jnx jb1 s z 0).1 ≤ jMX := by unfold jMX; omega
    have hst : ∀ zz, (if n ≤ (jbs jnx jb1 s z 0).1 then c_X10_below_l32 F f m1 101 (Int64.ofNat n) (Int32.ofNat s) (Int64.ofNat (jbs jnx jb1 s z 0).1) (Int32.ofNat (k + 1)) else some (.inl (Int64.ofNat (jbs jnx jb1 s z 0).1, m1))) = zz → c_X10_below_l32 F (f + 1) m 101 (Int64.ofNat n) (Int32.ofNat s) (Int64.ofNat v) (Int32.ofNat k) = zz := by
      intro zz h
      rw [← h]
      show c_X10_below_l32_b F _ m _ _ _ _ _ = _
      unfold c_X10_below_l32_b
      rw [if_neg (show ¬ (30 : Int32) ≤ Int32.ofNat k from ji_len (a := 30) (by omega) (by omega) (by omega)), a1, jb_some]
      dsimp only
      rw [show Int32.ofNat k + 1 = Int32.ofNat (k + 1) from ji_add k 1]
      by_cases e : n ≤ (jbs jnx jb1 s z 0).1
      · rw [if_pos (jc_0le.mpr ((jq_le hn hbm).mpr e)), if_pos e]
      · rw [if_neg (fun h => e ((jq_le hn hbm).mp (jc_0le.mp h))), if_neg e]
    rw [jbe]
    by_cases e : n ≤ (jbs jnx jb1 s z 0).1
    · rw [if_neg (by omega)]
      obtain ⟨m', zz, b1, b2, b3, b4⟩ := ih (k + 1) f (jbs jnx jb1 s z 0).1 m1 (jbs jnx jb1 s z 0).2 (by omega) (by omega) hbm hL1 a3
      exact ⟨m', zz, hst _ (by rw [if_pos e]; exact b1), a2.trans b2, b3, b4⟩
    · rw [if_pos (by omega)]
      exact ⟨m1, _, hst _ (if_neg e), a2, a3, Or.inl rfl⟩
theorem y_below (hF : 1000 < F) {n : Nat} (hn : n ≤ jMX) (h1 : 1 ≤ n) {m : jMe} {z : Int32} (hL : jLM m) (hz : jI m 101 43 = z) : ∃ m', c_X10_below F m 101 (Int64.ofNat n) = some (Int64.ofNat (jbelow n z).1, m') ∧ jfx (fun a i => a = 101 ∧ i = 43) m m' ∧ jI m' 101 43 = (jbelow n z).2 := by
  have h63' : (2 : Nat) ^ 63 = 9223372036854775808 := by decide
  have a1 := y_below_l7 (F := F) (m := m) (n := n) 63 0 (n - 1) F (by unfold jMX at hn; omega) (by omega) (Nat.le_refl _)
  have he : 0 + jhb 63 (n - 1) = jbn (n - 1) 63 0 := by
    rw [jhb_e, Nat.pow_zero, Nat.div_one]
  rw [he] at a1
  have hb := (jbn_le (x := n - 1) 63 0).2
  obtain ⟨m', zz, b1, b2, b3, b4⟩ := y_below_l32 (F := F) hF (n := n) (s := jbn (n - 1) 63 0) (by omega) hn 30 0 F 0 m z (by omega) (by omega) (by unfold jMX; omega) hL hz
  have a1 : c_X10_below_l7 F F m 101 (Int64.ofNat n) (0 : Int32) (Int64.ofNat (n - 1)) = _ := a1
  have b1 : c_X10_below_l32 F F m 101 (Int64.ofNat n) (Int32.ofNat (jbn (n - 1) 63 0)) (0 : Int64) (0 : Int32) = _ := b1
  refine ⟨m', ?_, b2, b3⟩
  unfold c_X10_below
  rw [show (1 : Int64) = Int64.ofNat 1 from rfl, jq_sub h1, a1, jb_some]
  dsimp only
  rw [b1]
  rcases b4 with rfl | ⟨v', rfl, hv, e⟩
  · rfl
  · rw [jb2_r]
    dsimp only
    have hne : ¬ Int64.ofNat n = 0 := fun h => by
      rw [show (0 : Int64) = Int64.ofNat 0 from rfl, jq_eq hn (by omega)] at h
      omega
    rw [jgd_t hne, jq_rem hv hn h1]
    show some (Int64.ofNat (v' % n), m') = some (Int64.ofNat (jbelow n z).1, m')
    unfold jbelow
    rw [e]
abbrev jyFd (m m' : jMe) : Prop := jfx (fun a i => jSpp a i ∨ a = 117 ∨ a = 118 ∨ (a = 101 ∧ (i = 31 ∨ i = 41 ∨ i = 43 ∨ i = 44))) m m'
theorem y_isDrawn_l10 (hF : 1000 < F) (hDS : jDS D S) (hq0 : jDq D ≠ 0) (h0 : 0 < jsp D 4) : ∀ (t c f : Nat) (m : jMe) (z : Int32), c + t = 20 → t < f → jYg D S m → jI m 101 43 = z → jI m 101 44 = Int32.ofNat c → ∃ zz m', c_X10_isDrawn_l10 F f m 101 = some zz ∧ jyFd m m' ∧ jYg D S m' ∧ jI m' 101 44 = Int32.ofNat (jdrw D t z c).2 ∧ match (jdrw D t z c).1 with
    | none => zz = .inl (0, m')
    | some R => zz = .inr m' ∧ jyRw D (fun x => (jDq D).testBit x) R m' := by
  intro t
  induction t with
  | zero =>
    intro c f m z h1 h2 hY hz hc
    obtain ⟨f, rfl⟩ := jsucc h2
    have hL := hY.1.1.1
    have hs := hY.2.2.2.2.1
    have hsm := hY.2.2.2.2.2.1
    refine ⟨_, m, ?_, jfx.rfl, hY, hc, rfl⟩
    show c_X10_isDrawn_l10_b F _ m _ = _
    unfold c_X10_isDrawn_l10_b
    rw [jgd_t hL.1, hs, if_neg (fun h => by
      rw [jc_eq0, show (0 : Int64) = Int64.ofNat 0 from rfl, jq_eq hsm (by omega)] at h
      omega), hc, if_pos (show (20 : Int32) ≤ Int32.ofNat c from ji_lep (a := 20) (by omega) (by omega) (by omega))]
  | succ t ih =>
    intro c f m z h1 h2 hY hz hc
    obtain ⟨f, rfl⟩ := jsucc h2
    have hL := hY.1.1.1
    have hs := hY.2.2.2.2.1
    have hsm := hY.2.2.2.2.2.1
    have f0 : jfx (fun a i => a = 101 ∧ i = 44) m (jsI m 101 44 (Int32.ofNat (c + 1))) := jfx_I ⟨rfl, rfl⟩
    have hY0 : jYg D S (jsI m 101 44 (Int32.ofNat (c + 1))) := jYg_fx f0 (fun a i h => by unfold jSyg jSr at h; omega) hY
    obtain ⟨m1, a1, a2, a3⟩ := y_below (F := F) hF hsm (by omega) hY0.1.1.1 (z := z) (by rw [jsI_no (by omega)]; exact hz)
    have hY1 := jYg_fx a2 (fun a i h => by unfold jSyg jSr at h; omega) hY0
    have hlt : (jbelow (jsp D 4) z).1 < jsp D 4 := jbe_lt h0 30 z 0
    obtain ⟨m2, b1, b2, b3, b4⟩ := y_isGood (F := F) hF hDS hq0 hlt hY1
    have fr2 : jyFd m m2 := ((f0.weak (fun a i h => by omega)).trans (a2.weak (fun a i h => by omega))).trans (b2.weak (fun a i h => by rcases h with h | h | h | h; exact Or.inl h; all_goals (right; omega)))
    have h43 : jI m2 101 43 = (jbelow (jsp D 4) z).2 := by rw [b2.I (by unfold jSpp; omega)]; exact a3
    have h44 : jI m2 101 44 = Int32.ofNat (c + 1) := by rw [b2.I (by unfold jSpp; omega), a2.I (by omega), jsI_y]
    have hst : ∀ zz, (if jbi (jlead D (jbelow (jsp D 4) z).1).isSome = 0 then c_X10_isDrawn_l10 F f m2 101 else some (.inr m2)) = zz → c_X10_isDrawn_l10 F (f + 1) m 101 = zz := by
      intro zz h
      rw [← h]
      show c_X10_isDrawn_l10_b F _ m _ = _
      unfold c_X10_isDrawn_l10_b
      rw [jgd_t hL.1, hs, if_neg (fun h => by
        rw [jc_eq0, show (0 : Int64) = Int64.ofNat 0 from rfl, jq_eq hsm (by omega)] at h
        omega), hc, if_neg (show ¬ (20 : Int32) ≤ Int32.ofNat c from ji_len (a := 20) (by omega) (by omega) (by omega)), show Int32.ofNat c + 1 = Int32.ofNat (c + 1) from ji_add c 1, jL_sI, hs, a1, jb_some]
      dsimp only
      rw [jgd_t hY1.1.1.1.1, b1, jb_some]
    rw [jdrw]
    cases hl : jlead D (jbelow (jsp D 4) z).1 with
    | none =>
      rw [hl] at hst
      obtain ⟨zz, m', c1, c2, c3, c4⟩ := ih (c + 1) f m2 (jbelow (jsp D 4) z).2 (by omega) (by omega) b3 h43 h44
      exact ⟨zz, m', hst _ (by rw [if_pos (show jbi (none : Option (Nat → Nat)).isSome = 0 from rfl)]; exact c1), fr2.trans c2, c3, c4⟩
    | some R =>
      rw [hl] at hst
      exact ⟨_, m2, hst _ (if_neg (show ¬ jbi (some R).isSome = 0 from (show ¬ jbi true = 0 by decide))), fr2, b3, h44, rfl, b4 R hl⟩
theorem y_isDrawn (hF : 1000 < F) (hDS : jDS D S) (hq0 : jDq D ≠ 0) {m : jMe} (hY : jYg D S m) {z : Int32} : ∃ m', c_X10_isDrawn F m 101 z = some (jbi (jdraw D z).1.isSome, m') ∧ jyFd m m' ∧ jYg D S m' ∧ jI m' 101 44 = Int32.ofNat (jdraw D z).2 ∧ ∀ R, (jdraw D z).1 = some R → jyRw D (fun x => (jDq D).testBit x) R m' := by
  have hL := hY.1.1.1
  have hs := hY.2.2.2.2.1
  have hsm := hY.2.2.2.2.2.1
  generalize hm1 : jsI (jsI m 101 43 z) 101 44 (0 : Int32) = m1
  have f1 : jfx (fun a i => a = 101 ∧ (i = 43 ∨ i = 44)) m m1 := by
    rw [← hm1]
    exact (jfx_I (S := fun a i => a = 101 ∧ (i = 43 ∨ i = 44)) ⟨rfl, Or.inl rfl⟩).trans (jfx_I ⟨rfl, Or.inr rfl⟩)
  have hY1 : jYg D S m1 := jYg_fx f1 (fun a i h => by unfold jSyg jSr at h; omega) hY
  have g44 : jI m1 101 44 = Int32.ofNat 0 := by rw [← hm1, jsI_y]; rfl
  have fr1 : jyFd m m1 := f1.weak (fun a i h => by omega)
  unfold c_X10_isDrawn jdraw
  rw [jgd_t hL.1, hm1]
  by_cases h0 : jsp D 4 = 0
  · rw [if_pos h0]
    obtain ⟨F', rfl⟩ := jsucc hF
    refine ⟨m1, ?_, fr1, hY1, g44, fun R h => by cases h⟩
    have : c_X10_isDrawn_l10 (F' + 1) (F' + 1) m1 101 = some (.inl (0, m1)) := by
      show c_X10_isDrawn_l10_b (F' + 1) _ m1 _ = _
      unfold c_X10_isDrawn_l10_b
      rw [jgd_t hY1.1.1.1.1, hY1.2.2.2.2.1, h0, if_pos (show lg_cmp (Int64.ofNat 0) 0 = 0 from jc_eq0.mpr rfl)]
    rw [this]
    rfl
  · rw [if_neg h0]
    obtain ⟨zz, m', c1, c2, c3, c4, c5⟩ := y_isDrawn_l10 (F := F) hF hDS hq0 (by omega) 20 0 F m1 z (by omega) (by omega) hY1 (by rw [← hm1, jsI_no (by omega), jsI_y]) g44
    refine ⟨m', ?_, fr1.trans c2, c3, c4, fun R hR => ?_⟩
    · rw [c1]
      cases h : (jdrw D 20 z 0).1 with
      | none =>
        rw [h] at c5
        rw [c5]
        rfl
      | some R =>
        rw [h] at c5
        rw [c5.1]
        rfl
    · rw [hR] at c5
      exact c5.2
theorem y_digitsNow_l4 {m : jMe} (hR : jRf D S m) (hq : jDq D < 16) {R : Nat → Nat} (hw : jyRw D (fun x => (jDq D).testBit x) R m) : ∀ (t r f v : Nat), r + t = 4 → t < f → c_X10_digitsNow_l4 F m f 101 (Int32.ofNat v) (Int32.ofNat r) = some (Int32.ofNat (jdg D R t r v)) := by
  have hL := hR.1
  intro t
  induction t with
  | zero =>
    intro r f v h1 h2
    obtain ⟨f, rfl⟩ := jsucc h2
    show c_X10_digitsNow_l4_b F _ m _ _ _ = _
    unfold c_X10_digitsNow_l4_b
    rw [if_pos (show (4 : Int32) ≤ Int32.ofNat r from ji_lep (a := 4) (by omega) (by omega) (by omega))]
    rfl
  | succ t ih =>
    intro r f v h1 h2
    obtain ⟨f, rfl⟩ := jsucc h2
    show c_X10_digitsNow_l4_b F _ m _ _ _ = _
    unfold c_X10_digitsNow_l4_b
    rw [jdg, if_neg (show ¬ (4 : Int32) ≤ Int32.ofNat r from ji_len (a := 4) (by omega) (by omega) (by omega)), jgd_t hL.1, y_isIn hL hR.2.1 hq (by omega), jb_some, jp_117 hL, jgd_t (jk_117 hL), jz_117 hL, jgd_t (ji_int (by omega) (by omega)), ji_n (by omega), jlet_m, show Int32.ofNat r + 1 = Int32.ofNat (r + 1) from ji_add r 1]
    by_cases e : (jDq D).testBit r = true
    · rw [e, if_neg (show ¬ jbi true = 0 by decide), if_pos rfl, (hw r (by omega) e).1, show (10 : Int32) = Int32.ofNat 10 from rfl, ji_mul, ji_add, show Int32.ofNat (10 * v + R r) + 1 = Int32.ofNat (10 * v + R r + 1) from ji_add _ 1, Nat.mul_comm 10 v]
      exact ih (r + 1) f _ (by omega) (by omega)
    · have e' : (jDq D).testBit r = false := by cases z : (jDq D).testBit r with | false => rfl | true => exact absurd z e
      rw [e', if_pos (show jbi false = 0 from rfl), if_neg (by decide)]
      exact ih (r + 1) f v (by omega) (by omega)
theorem y_digitsNow (hF : 100 < F) {m : jMe} (hR : jRf D S m) (hq : jDq D < 16) {R : Nat → Nat} (hw : jyRw D (fun x => (jDq D).testBit x) R m) : c_X10_digitsNow F m 101 = some (Int32.ofNat (jdg D R 4 0 0)) := by
  unfold c_X10_digitsNow
  have h := y_digitsNow_l4 (F := F) hR hq hw 4 0 F 0 (by omega) (by omega)
  have h : c_X10_digitsNow_l4 F m F 101 (0 : Int32) (0 : Int32) = _ := h
  rw [h, jb_some]
theorem y_valueNow_l2 {m : jMe} (hR : jRf D S m) (hD : jDok D) {R : Nat → Nat} (hw : jyRw D (fun x => (jDq D).testBit x) R m) {a : Nat} (ha : a < 6) : ∀ (t r f : Nat), r + t = 4 → t < f → c_X10_valueNow_l2 F m f 101 (Int32.ofNat a) (Int32.ofNat r) = some (match jfa D a t r with | none => .inr () | some r => .inl (Int32.ofNat (jDv D r (R r) a))) := by
  have hL := hR.1
  have hq := jDok_q hD
  intro t
  induction t with
  | zero =>
    intro r f h1 h2
    obtain ⟨f, rfl⟩ := jsucc h2
    show c_X10_valueNow_l2_b F _ m _ _ _ = _
    unfold c_X10_valueNow_l2_b
    rw [if_pos (show (4 : Int32) ≤ Int32.ofNat r from ji_lep (a := 4) (by omega) (by omega) (by omega))]
    rfl
  | succ t ih =>
    intro r f h1 h2
    obtain ⟨f, rfl⟩ := jsucc h2
    have hDr := hD.2.2.1 r (by omega)
    show c_X10_valueNow_l2_b F _ m _ _ _ = _
    unfold c_X10_valueNow_l2_b
    rw [jfa, if_neg (show ¬ (4 : Int32) ≤ Int32.ofNat r from ji_len (a := 4) (by omega) (by omega) (by omega)), jgd_t hL.1, y_isIn hL hR.2.1 hq (by omega), jb_some, jp_106 hL, jgd_t (jk_106 hL), jz_106 hL, jgd_t (ji_int (by omega) (by omega)), ji_n (by omega), (hR.2.1.2.2.2 r (by omega)).2.1, jshr_1 hDr.2.1 (by omega), jp_117 hL, jgd_t (jk_117 hL), jz_117 hL, jgd_t (ji_int (by omega) (by omega)), show Int32.ofNat r + 1 = Int32.ofNat (r + 1) from ji_add r 1]
    dsimp only
    rw [ih (r + 1) f (by omega) (by omega)]
    by_cases e : (jDq D).testBit r = true
    · obtain ⟨w1, w2⟩ := hw r (by omega) e
      have hz := hDr.2.2.1
      rw [e, if_neg (show ¬ jbi true = 0 by decide)]
      by_cases e2 : (jDa D r).testBit a = true
      · rw [e2, if_pos (show jbi true = 1 from rfl), w1, y_valD hL hR.2.1 (by omega) w2 (by omega) ha, jb_some, if_pos ⟨rfl, rfl⟩]
        unfold jDw
        rw [if_pos e2]
      · have e2' : (jDa D r).testBit a = false := by cases z : (jDa D r).testBit a with | false => rfl | true => exact absurd z e2
        rw [e2', if_neg (show ¬ jbi false = 1 by decide), if_neg (fun h => by cases h.2)]
    · have e' : (jDq D).testBit r = false := by cases z : (jDq D).testBit r with | false => rfl | true => exact absurd z e
      rw [e', if_pos (show jbi false = 0 from rfl), if_neg (fun h => by cases h.1)]
theorem y_valueNow (hF : 100 < F) {m : jMe} (hR : jRf D S m) (hD : jDok D) {R : Nat → Nat} (hw : jyRw D (fun x => (jDq D).testBit x) R m) {a : Nat} (ha : a < 6) : c_X10_valueNow F m 101 (Int32.ofNat a) = some (jav D R a) := by
  unfold c_X10_valueNow jav
  have h := y_valueNow_l2 (F := F) hR hD hw ha 4 0 F (by omega) (by omega)
  have h : c_X10_valueNow_l2 F m F 101 (Int32.ofNat a) (0 : Int32) = _ := h
  rw [h]
  cases jfa D a 4 0 <;> rfl
end YDRAW
