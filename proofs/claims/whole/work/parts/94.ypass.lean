/-! texts that are kept; rows that pass, as the reference tells them: told once, kept by a key -/
/-- texts: how many, their bytes, their sizes -/
abbrev jTS : Type := Nat × (Nat → Nat → Nat) × (Nat → Nat)
def jTc (S : jTS) (t : Nat) : List Int32 := match jzrd (S.2.1 t) (S.2.2 t) with
  | .inl _ => []
  | .inr l => l
def jTSok (S : jTS) : Prop := 1 ≤ S.1 ∧ S.1 ≤ 6 ∧ ∀ t, t < S.1 → S.2.2 t ≤ 160 ∧ (∀ i, i < S.2.2 t → S.2.1 t i < 256) ∧ ∃ l, jzrd (S.2.1 t) (S.2.2 t) = .inr l
def jTm (S : jTS) (m : jMe) : Prop := jI m 101 3 = Int32.ofNat S.1 ∧ (∀ t, t < S.1 → jI m 103 t = Int32.ofNat (S.2.2 t) ∧ ∀ i, i < S.2.2 t → jI m 102 (160 * t + i) = Int32.ofNat (S.2.1 t i)) ∧ ∃ r k, r < 4 ∧ k < 8 ∧ jI m 101 15 = Int32.ofNat r ∧ jI m 101 16 = Int32.ofNat k
def jkf (w : Nat → Nat) : Nat → Nat → Nat → Nat
  | 0, _, x => x
  | t + 1, a, x => jkf w t (a + 1) (x * 11 + w a)
def jkey (t r : Nat) (w : Nat → Nat) (k cp : Nat) : Nat := (jkf w 6 0 (t * 4 + r) * 8 + k) * 2147483648 + cp
def jwv (x : Nat) : Int32 := if x = 0 then -1 else Int32.ofNat (x - 1)
/-- what is kept of rows -/
def jMm (S : jTS) (m : jMe) : Prop := ∀ p, p < 256 → jL m 111 p = 0 ∨ ∃ t r k w cp, t < S.1 ∧ r < 4 ∧ k < 8 ∧ (∀ a, w a ≤ 10) ∧ cp < 2147483648 ∧ jL m 111 p = Int64.ofNat (jkey t r w k cp + 1) ∧ jI m 112 p = jtell (jTc S t) r k (fun a => jwv (w a)) (Int32.ofNat cp)
def jRf (D : jD) (S : jTS) (m : jMe) : Prop := jLM m ∧ jCm D m ∧ jTm S m ∧ jMm S m
def jDS (D : jD) (S : jTS) : Prop := jDok D ∧ jTSok S ∧ jDr D < S.1 ∧ ∀ t, t < S.1 → ∀ r k f cp, jDt D t r k f cp = jtell (jTc S t) r k f cp
def jSr (a i : Nat) : Prop := (a = 101 ∧ (i = 3 ∨ i = 4 ∨ i = 10 ∨ i = 14 ∨ i = 15 ∨ i = 16)) ∨ (102 ≤ a ∧ a ≤ 112 ∧ a ≠ 104)
theorem jRf_fx {Q : Nat → Nat → Prop} {D : jD} {S : jTS} {m m' : jMe} (h : jfx Q m m') (hQ : ∀ a i, jSr a i → ¬ Q a i) (k : jRf D S m) : jRf D S m' := by
  obtain ⟨k1, k2, k3, k4⟩ := k
  have hI : ∀ a i, jSr a i → jI m' a i = jI m a i := fun a i q => h.I (hQ a i q)
  have hL : ∀ a i, jSr a i → jL m' a i = jL m a i := fun a i q => h.L (hQ a i q)
  refine ⟨jLM_fx h k1, jCm_of (fun a i q => hI a i (by unfold jSm at q; unfold jSr; omega)) k2, ?_, fun p hp => ?_⟩
  · obtain ⟨g1, g2, r, k, g3, g4, g5, g6⟩ := k3
    refine ⟨by rw [hI _ _ (by unfold jSr; omega)]; exact g1, fun t ht => ⟨by rw [hI _ _ (by unfold jSr; omega)]; exact (g2 t ht).1, fun i hi => by rw [hI _ _ (by unfold jSr; omega)]; exact (g2 t ht).2 i hi⟩, r, k, g3, g4, by rw [hI _ _ (by unfold jSr; omega)]; exact g5, by rw [hI _ _ (by unfold jSr; omega)]; exact g6⟩
  · rw [hL _ _ (by unfold jSr; omega), hI _ _ (by unfold jSr; omega)]
    exact k4 p hp
theorem jtell_c {l : List Int32} {r k : Nat} {f g : Nat → Int32} {cp : Int32} (h : ∀ a, a < 6 → f a = g a) : jtell l r k f cp = jtell l r k g cp := by
  have e : jenv r k f cp = jenv r k g cp := by
    funext w
    unfold jenv
    by_cases h1 : w = 6
    · rw [if_pos h1, if_pos h1]
    rw [if_neg h1, if_neg h1]
    by_cases h2 : w = 7
    · rw [if_pos h2, if_pos h2]
    rw [if_neg h2, if_neg h2]
    by_cases h3 : w = 8
    · rw [if_pos h3, if_pos h3]
    rw [if_neg h3, if_neg h3]
    by_cases h4 : jin w 6 = true
    · rw [if_pos h4, if_pos h4]
      obtain ⟨a, rfl, ha, ha6⟩ := jin_nat h4
      rw [ji_n ha]
      exact h a ha6
    · rw [if_neg h4, if_neg h4]
  unfold jtell
  rw [e]
theorem jkf_lt {w : Nat → Nat} (hw : ∀ a, w a ≤ 10) : ∀ (t a x : Nat), jkf w t a x < (x + 1) * 11 ^ t := by
  intro t
  induction t with
  | zero => intro a x; unfold jkf; omega
  | succ t ih =>
    intro a x
    unfold jkf
    have h := ih (a + 1) (x * 11 + w a)
    have h2 := hw a
    have h3 : (x * 11 + w a + 1) * 11 ^ t ≤ ((x + 1) * 11) * 11 ^ t := Nat.mul_le_mul_right _ (by omega)
    have h4 : (x + 1) * 11 ^ (t + 1) = ((x + 1) * 11) * 11 ^ t := by rw [Nat.pow_succ, Nat.mul_assoc, Nat.mul_comm (11 ^ t) 11]
    omega
theorem jkf_inj {w w' : Nat → Nat} (hw : ∀ a, w a ≤ 10) (hw' : ∀ a, w' a ≤ 10) : ∀ (t a x x' : Nat), jkf w t a x = jkf w' t a x' → x = x' ∧ ∀ y, a ≤ y → y < a + t → w y = w' y := by
  intro t
  induction t with
  | zero => intro a x x' h; exact ⟨h, fun y h1 h2 => by omega⟩
  | succ t ih =>
    intro a x x' h
    obtain ⟨h1, h2⟩ := ih (a + 1) _ _ h
    have g1 := hw a
    have g2 := hw' a
    refine ⟨by omega, fun y h3 h4 => ?_⟩
    by_cases e : y = a
    · subst e; omega
    · exact h2 y (by omega) (by omega)
theorem jkey_lt {t r k cp : Nat} {w : Nat → Nat} (ht : t < 6) (hr : r < 4) (hk : k < 8) (hw : ∀ a, w a ≤ 10) (hc : cp < 2147483648) : jkey t r w k cp + 1 ≤ jMX := by
  have h := jkf_lt hw 6 0 (t * 4 + r)
  have h2 : (t * 4 + r + 1) * 11 ^ 6 ≤ 24 * 11 ^ 6 := Nat.mul_le_mul_right _ (by omega)
  have h3 : (24 : Nat) * 11 ^ 6 = 42517464 := by decide
  unfold jkey jMX
  generalize jkf w 6 0 (t * 4 + r) = x at h ⊢
  omega
theorem jkey_inj {t r k cp t' r' k' cp' : Nat} {w w' : Nat → Nat} (hr : r < 4) (hr' : r' < 4) (hk : k < 8) (hk' : k' < 8) (hw : ∀ a, w a ≤ 10) (hw' : ∀ a, w' a ≤ 10) (hc : cp < 2147483648) (hc' : cp' < 2147483648) (h : jkey t r w k cp = jkey t' r' w' k' cp') : t = t' ∧ r = r' ∧ k = k' ∧ cp = cp' ∧ ∀ a, a < 6 → w a = w' a := by
  unfold jkey at h
  have h1 : jkf w 6 0 (t * 4 + r) = jkf w' 6 0 (t' * 4 + r') ∧ k = k' ∧ cp = cp' := by
    generalize jkf w 6 0 (t * 4 + r) = x at h ⊢
    generalize jkf w' 6 0 (t' * 4 + r') = y at h ⊢
    omega
  obtain ⟨h2, h3⟩ := jkf_inj hw hw' 6 0 _ _ h1.1
  exact ⟨by omega, by omega, h1.2.1, h1.2.2, fun a ha => h3 a (Nat.zero_le _) (by omega)⟩
theorem jlushr56 (x : Int64) : ∃ n, n < 256 ∧ Int64.toInt32 (jlushr x (56 : Int32)) = Int32.ofNat n := by
  refine ⟨x.toUInt64.toNat / 2 ^ 56, ?_, ?_⟩
  · have : x.toUInt64.toNat < 18446744073709551616 := UInt64.toNat_lt _
    omega
  · have hlt : x.toUInt64.toNat < 18446744073709551616 := UInt64.toNat_lt _
    have e : jlushr x (56 : Int32) = Int64.ofNat (x.toUInt64.toNat / 2 ^ 56) := by
      apply jtl_inj
      unfold jlushr
      have h1 : (56 : Int32).toInt64 = Int64.ofNat 56 := jt64 (n := 56) (by omega)
      rw [h1, UInt64.toUInt64_toInt64, UInt64.toNat_shiftRight, UInt64.toNat_and, jtl_of (by omega), jtl_of (by omega), show (Int64.toUInt64 63).toNat = 2 ^ 6 - 1 from rfl, Nat.and_two_pow_sub_one_eq_mod, Nat.shiftRight_eq_div_pow]
    rw [e, Int64.toInt32_ofNat']
def jkw (D : jD) (r k a : Nat) : Nat := if (jDa D r).testBit a then jDv D r k a + 1 else 0
section YPASS
variable {F : Nat} {D : jD} {S : jTS}
theorem jkw_le {r k : Nat} (hD : jDR D r) (hk : k < jDz D r) : ∀ a, jkw D r k a ≤ 10 := by
  intro a
  have := (hD.2.2.2.2 k hk).1 a
  unfold jkw
  split <;> omega
theorem jkw_v {r k : Nat} (a : Nat) : jwv (jkw D r k a) = jDw D r k a := by
  unfold jwv jkw jDw
  cases (jDa D r).testBit a with
  | false => rfl
  | true => rw [if_pos rfl, if_neg (by omega), if_pos rfl, Nat.add_sub_cancel]
theorem jkw_64 {r k : Nat} (hD : jDR D r) (hk : k < jDz D r) (a : Nat) : Int32.toInt64 (jDw D r k a) + (1 : Int64) = Int64.ofNat (jkw D r k a) := by
  have := (hD.2.2.2.2 k hk).1 a
  unfold jkw jDw
  cases (jDa D r).testBit a with
  | false =>
    show Int32.toInt64 (-1) + (1 : Int64) = Int64.ofNat 0
    decide
  | true => rw [if_pos rfl, if_pos rfl, jt64 (by omega), show (1 : Int64) = Int64.ofNat 1 from rfl, jq_add]
theorem y_isPassing_l32 {m : jMe} (hL : jLM m) (hC : jCm D m) {r k : Nat} (hr : r < 4) (hk : k < jDz D r) (hD : jDR D r) : ∀ (t a x f : Nat), a + t = 6 → t < f → c_X10_isPassing_l32 F f m 101 (Int32.ofNat r) (Int32.ofNat k) (Int64.ofNat x) (Int32.ofNat a) = some (m, 101, Int32.ofNat r, Int32.ofNat k, Int64.ofNat (jkf (jkw D r k) t a x)) := by
  have hz := hD.2.2.1
  intro t
  induction t with
  | zero =>
    intro a x f h1 h2
    obtain ⟨f, rfl⟩ := jsucc h2
    show c_X10_isPassing_l32_b F _ m _ _ _ _ _ = _
    unfold c_X10_isPassing_l32_b
    rw [if_pos (show (6 : Int32) ≤ Int32.ofNat a from ji_lep (a := 6) (by omega) (by omega) (by omega))]
    rfl
  | succ t ih =>
    intro a x f h1 h2
    obtain ⟨f, rfl⟩ := jsucc h2
    show c_X10_isPassing_l32_b F _ m _ _ _ _ _ = _
    unfold c_X10_isPassing_l32_b
    rw [if_neg (show ¬ (6 : Int32) ≤ Int32.ofNat a from ji_len (a := 6) (by omega) (by omega) (by omega)), jgd_t hL.1, y_valD hL hC hr hk (by omega) (by omega), jb_some, Int64.add_assoc, jkw_64 hD hk, show (11 : Int64) = Int64.ofNat 11 from rfl, jq_mul, jq_add, jl_1, ji_add]
    exact ih (a + 1) _ f (by omega) (by omega)
/-- places that change as rows are told whether they pass -/
def jSpp (a i : Nat) : Prop := (a = 101 ∧ 15 ≤ i ∧ i ≤ 25) ∨ a = 111 ∨ a = 112
theorem y_isPassing_j151 {m : jMe} (hL : jLM m) {p : Nat} (hp : p < 256) {v : Int32} (hv : jI m 112 p = v) : c_X10_isPassing_j151 F m 101 (Int32.ofNat p) = some (jbi (!decide (v = 0)), m) := by
  unfold c_X10_isPassing_j151
  rw [jgd_t hL.1, jp_112 hL, jgd_t (jk_112 hL), jz_112 hL, jgd_t (ji_int (by omega) hp), ji_n (by omega), hv]
  by_cases e : v = 0
  · rw [if_pos e, decide_eq_true e]
    rfl
  · rw [if_neg e, decide_eq_false e]
    rfl
theorem y_isPassing (hF : 1000 < F) (hDS : jDS D S) {r k : Nat} (hr : r < 4) (hk : k < jDz D r) {m : jMe} (hR : jRf D S m) : ∃ m', c_X10_isPassing F m 101 (Int32.ofNat r) (Int32.ofNat k) = some (jbi (jpb D r k), m') ∧ jfx jSpp m m' ∧ jRf D S m' := by
  obtain ⟨hD, hS, hrl, hDt⟩ := hDS
  obtain ⟨hL, hC, hT, hM⟩ := hR
  have hDr := hD.2.2.1 r hr
  have hz := hDr.2.2.1
  obtain ⟨c1, c2, c3⟩ := (hC.2.2.2 r hr).2.2.2 k hk
  have hcp := (hDr.2.2.2.2 k hk).2.2
  have hS6 := hS.2.1
  unfold c_X10_isPassing
  rw [jgd_t hL.1, jp_110 hL, jgd_t (jk_110 hL), jz_110 hL, show (8 : Int32) = Int32.ofNat 8 from rfl, ji_mul, ji_add, jgd_t (ji_int (by omega) (by omega)), ji_n (by omega), c3]
  cases hlv : (jDl D r).testBit k with
  | false =>
    refine ⟨m, ?_, jfx.rfl, hL, hC, hT, hM⟩
    rw [if_pos (show jbi false = 0 from rfl)]
    unfold jpb
    rw [hlv]
    rfl
  | true =>
    have hkey : jpb D r k = !decide (jtell (jTc S (jDr D)) r k (jDw D r k) (Int32.ofNat (jDc D r k)) = 0) := by
      unfold jpb
      rw [hlv, Bool.true_and, hDt _ hrl]
    rw [if_neg (show ¬ jbi true = 0 by decide), hC.2.1, jt64 (by omega), jt64 (by omega), show (4 : Int64) = Int64.ofNat 4 from rfl, jq_mul, jq_add, jl_0, y_isPassing_l32 hL hC hr hk hDr 6 0 _ F (by omega) (by omega), jb_some]
    dsimp only
    rw [jgd_t hL.1, jp_109 hL, jgd_t (jk_109 hL), jz_109 hL, ji_mul, ji_add, jgd_t (ji_int (by omega) (by omega)), ji_n (by omega), c2, jt64 (by omega), jt64 (by omega), show (8 : Int64) = Int64.ofNat 8 from rfl, show (2147483648 : Int64) = Int64.ofNat 2147483648 from rfl, jq_mul, jq_add, jq_mul, jq_add, jlet_m]
    show ∃ m', (jlet (Int64.toInt32 (jlushr (Int64.ofNat (jkey (jDr D) r (jkw D r k) k (jDc D r k)) * (7046029254386353131 : Int64)) (56 : Int32))) _) = _ ∧ _
    rw [jlet_m]
    have hkw := jkw_le hDr hk
    have hklt := jkey_lt (t := jDr D) (r := r) (k := k) (cp := jDc D r k) (by omega) hr (by omega) hkw (by omega)
    generalize hK : jkey (jDr D) r (jkw D r k) k (jDc D r k) = K at hklt
    obtain ⟨p, hp, hpe⟩ := jlushr56 (Int64.ofNat K * (7046029254386353131 : Int64))
    have hKe : ∀ x : Int64, (jkf (jkw D r k) 6 0 (jDr D * 4 + r) * 8 + k) * 2147483648 + jDc D r k = K := fun _ => hK
    rw [hpe, jp_111 hL, jgd_t (jk_111 hL), jz_111 hL, jgd_t (ji_int (by omega) hp), ji_n (by omega), hKe 0, show (1 : Int64) = Int64.ofNat 1 from rfl, jq_add]
    by_cases hm : jL m 111 p = Int64.ofNat (K + 1)
    · rw [if_pos (show lg_cmp (jL m 111 p) (Int64.ofNat (K + 1)) = Int32.ofNat 0 from jc_eq0.mpr hm)]
      refine ⟨m, ?_, jfx.rfl, hL, hC, hT, hM⟩
      rcases hM p hp with h0 | ⟨t', r', k', w', cp', g1, g2, g3, g4, g5, g6, g7⟩
      · rw [h0, show (0 : Int64) = Int64.ofNat 0 from rfl, jq_eq (by omega) hklt] at hm
        omega
      · have hlt' := jkey_lt (t := t') (r := r') (k := k') (cp := cp') (by omega) g2 g3 g4 g5
        rw [g6, jq_eq hlt' hklt, ← hK] at hm
        obtain ⟨e1, e2, e3, e4, e5⟩ := jkey_inj g2 hr g3 (by omega) g4 hkw g5 (by omega) (show jkey t' r' w' k' cp' = jkey (jDr D) r (jkw D r k) k (jDc D r k) by omega)
        subst e1 e2 e3 e4
        rw [y_isPassing_j151 hL hp g7, hkey]
        have : jtell (jTc S (jDr D)) r' k' (fun a => jwv (w' a)) (Int32.ofNat (jDc D r' k')) = jtell (jTc S (jDr D)) r' k' (jDw D r' k') (Int32.ofNat (jDc D r' k')) := jtell_c (fun a ha => by rw [e5 a ha, jkw_v])
        rw [this]
    · rw [if_neg (show ¬ lg_cmp (jL m 111 p) (Int64.ofNat (K + 1)) = Int32.ofNat 0 from fun h => hm (jc_eq0.mp h))]
      generalize hm1 : jsI (jsI m 101 15 (Int32.ofNat r)) 101 16 (Int32.ofNat k) = m1
      have f1 : jfx jSpp m m1 := by
        rw [← hm1]
        exact (jfx_I (S := jSpp) (Or.inl ⟨rfl, by omega, by omega⟩)).trans (jfx_I (Or.inl ⟨rfl, by omega, by omega⟩))
      have hL1 := jLM_fx f1 hL
      obtain ⟨t1, t2, -⟩ := hT
      obtain ⟨s1, s2, l, s3⟩ := hS.2.2 _ hrl
      have hE1 : jyE r k (jDw D r k) (Int32.ofNat (jDc D r k)) m1 := by
        refine ⟨hr, by omega, ?_, ?_, fun a ha => ?_, ?_⟩
        · rw [← hm1, jsI_no (by omega), jsI_y]
        · rw [← hm1, jsI_y]
        · rw [f1.I (by unfold jSpp; omega)]
          exact c1 a ha
        · rw [f1.I (by unfold jSpp; omega)]
          exact c2
      obtain ⟨v, m2, a1, a2, a3⟩ := y_read (F := F) (b := S.2.1 (jDr D)) (n := S.2.2 (jDr D)) hF hL1 (show jDr D < 6 by omega) (by rw [f1.I (by unfold jSpp; omega)]; exact (t2 _ hrl).1) s1 (fun i hi => ⟨by rw [f1.I (by unfold jSpp; omega)]; exact (t2 _ hrl).2 i hi, s2 i hi⟩) hE1
      have a2' : jfx jSpp m1 m2 := a2.weak (fun a i h => Or.inl ⟨h.1, by omega, by omega⟩)
      rw [s3] at a3
      have hTc : jTc S (jDr D) = l := by
        unfold jTc
        rw [s3]
      have hL2 := jLM_fx a2 hL1
      have h14 : jI m1 101 4 = Int32.ofNat (jDr D) := by
        rw [f1.I (by unfold jSpp; omega)]
        exact hC.2.1
      rw [h14, a1, jb_some]
      dsimp only
      rw [jP_sI]
      have hP1 : jP m1 101 27 = 112 := jp_112 hL1
      rw [hP1, jgd_t (jk_112 hL2), jz_112 hL2, jgd_t (ji_int (by omega) hp), jgd_t hL2.1, jp_111 hL2, jgd_t (jk_111 hL2), jz_111 hL2, jgd_t (ji_int (by omega) hp), jlet_m]
      generalize hm3 : jsL (jsI m2 112 p v) 111 p (Int64.ofNat (K + 1)) = m3
      have f3 : jfx jSpp m2 m3 := by
        rw [← hm3]
        exact (jfx_I (S := jSpp) (Or.inr (Or.inr rfl))).trans (jfx_L (Or.inr (Or.inl rfl)))
      have f13 := (f1.trans a2').trans f3
      have hL3 := jLM_fx f3 hL2
      have hv3 : jI m3 112 p = v := by rw [← hm3, jI_sL, jsI_y]
      refine ⟨m3, ?_, f13, hL3, jCm_fx f13 (fun a i h => by unfold jSm at h; unfold jSpp; omega) hC, ⟨by rw [f13.I (by unfold jSpp; omega)]; exact t1, fun t ht => ⟨by rw [f13.I (by unfold jSpp; omega)]; exact (t2 t ht).1, fun i hi => by rw [f13.I (by unfold jSpp; omega)]; exact (t2 t ht).2 i hi⟩, r, k, hr, by omega, ?_, ?_⟩, fun x hx => ?_⟩
      · rw [y_isPassing_j151 hL3 hp hv3, hkey, hTc, a3.2]
      · rw [← hm3, jI_sL, jsI_no (by omega), a2.I (by omega)]
        exact hE1.2.2.1
      · rw [← hm3, jI_sL, jsI_no (by omega), a2.I (by omega)]
        exact hE1.2.2.2.1
      · by_cases e : x = p
        · subst e
          refine Or.inr ⟨jDr D, r, k, jkw D r k, jDc D r k, hrl, hr, by omega, hkw, by omega, ?_, ?_⟩
          · rw [← hm3, jsL_y, hK]
          · rw [hv3, a3.2, hTc]
            exact jtell_c (fun a ha => (jkw_v a).symm)
        · have e1 : jL m3 111 x = jL m 111 x := by
            rw [← hm3, jsL_no (fun h => e h.2), jL_sI, a2.L (by omega), ← hm1, jL_sI, jL_sI]
          have e2 : jI m3 112 x = jI m 112 x := by
            rw [← hm3, jI_sL, jsI_no (fun h => e h.2), a2.I (by omega), ← hm1, jsI_no (by omega), jsI_no (by omega)]
          rw [e1, e2]
          exact hM x hx
end YPASS
