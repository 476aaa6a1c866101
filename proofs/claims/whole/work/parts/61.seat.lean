/-! rows that stand, as the class holds them -/
theorem jSL_eq {D : jD} {r a : Nat} (hD : jDR D r) (ha : (jDa D r).testBit a = true) : a < 6 := by
  rcases Nat.lt_or_ge a 6 with q | q
  · exact q
  · rw [Nat.testBit_lt_two_pow (Nat.lt_of_lt_of_le hD.2.1 (jp2 q))] at ha
    cases ha
/-- attributes of those that stand -/
def jSs (D : jD) (P : Nat → Bool) (a : Nat) : Bool := (List.range 4).any fun r => P r && (jDa D r).testBit a
theorem jSs_iff {D : jD} {P : Nat → Bool} {a : Nat} : jSs D P a = true ↔ ∃ r, r < 4 ∧ P r = true ∧ (jDa D r).testBit a = true := by
  unfold jSs
  simp only [List.any_eq_true, List.mem_range, Bool.and_eq_true]
/-- those of P stand with rows R -/
def jsd (D : jD) (P : Nat → Bool) (R : Nat → Nat) (b : Nat) (m : jMe) : Prop := (∀ a, a < 8 → jnb (jI m b 17) a = if jSs D P a then 15 else 0) ∧ (∀ a r, a < 8 → r < 4 → P r = true → (jDa D r).testBit a = true → jnb (jI m b 16) a = jDv D r (R r) a) ∧ (∀ a, a < 8 → jSs D P a = false → jnb (jI m b 16) a = 0) ∧ (∀ r, r < 4 → P r = true → jI m (b + 12) r = Int32.ofNat (R r) ∧ R r < jDz D r)
theorem jsd_of {D : jD} {P : Nat → Bool} {R : Nat → Nat} {b : Nat} {m m' : jMe} (h1 : jI m' b = jI m b) (h2 : jI m' (b + 12) = jI m (b + 12)) (h : jsd D P R b m) : jsd D P R b m' := by
  unfold jsd at h ⊢
  rw [h1, h2]
  exact h
/-- what may change as a position is led -/
def jSle (b : Nat) : Nat → Prop := fun a => a = b ∨ a = b + 12 ∨ a = b + 13
section SEAT
variable {F b : Nat} {D : jD}
theorem q_seat {m : jMe} {r k : Nat} {P : Nat → Bool} {R : Nat → Nat} (hI : jIn D b m) (hr : r < 4) (hk : k < jDz D r) (hP : P r = false) (hs : jsd D P R b m) (hm : jmg D r k (jSs D P) (jnb (jI m b 16)) = true) : ∃ m', c_X2_seat F m b (Int32.ofNat r) (Int32.ofNat k) = some m' ∧ jfr (jSle b) m m' ∧ jL m' = jL m ∧ (∀ j, j ≠ 16 → j ≠ 17 → jI m' b j = jI m b j) ∧ jsd D (fun x => P x || x == r) (fun x => if x = r then k else R x) b m' := by
  obtain ⟨i1, i2, i3, i4, i5, i6⟩ := hI
  obtain ⟨r1, r2⟩ := i3.2.2 r hr
  have hz := (i6 r hr).2.2.1
  have hp := i1.2.2.2.2.2.2.2.2.2.2.2.2.2.2.2.2.1
  have hC := i5 r hr
  obtain ⟨s1, s2, s3, s4⟩ := hs
  refine ⟨jsI (jsI (jsI m (b + 12) r (Int32.ofNat k)) b 16 (jI m b 16 ||| jI m (jrv r) k)) b 17 (jI m b 17 ||| jI m (jrc r) 4), ?_, ?_, ?_, fun j h1 h2 => ?_, ?_⟩
  · unfold c_X2_seat
    rw [jgd_t i1.1, i1.2.2.2.2.2.2.2.2.1, jgd_t hp.1, hp.2, jgd_t (ji_int (by omega) hr), ji_n (by omega)]
    simp only [jP_sI, i2, i3.2.1, r1, r2.2.1, r2.2.2.2.2.1]
    rw [jgd_t i3.1, jgd_t (ji_int (by omega) hr), jgd_t r2.1, jgd_t r2.2.2.2.1, jgd_t (ji_int (by omega) (by omega)), ji_n (by omega), jlet_m]
    have e1 : jI (jsI m (b + 12) r (Int32.ofNat k)) b = jI m b := jsI_n (by omega)
    have e2 : jI (jsI m (b + 12) r (Int32.ofNat k)) (jrv r) = jI m (jrv r) := jsI_n (by unfold jrv; have := i4.2; omega)
    rw [e1, e2]
    simp only [jP_sI, jK_sI, jZ_sI, i2, i3.2.1, r1]
    rw [jgd_t i1.1, jgd_t i3.1, jgd_t (ji_int (by omega) hr), jgd_t r2.1, jsI_e, jupd_n (by omega), e1]
    have e3 : jI (jsI (jsI m (b + 12) r (Int32.ofNat k)) b 16 (jI m b 16 ||| jI m (jrv r) k)) (jrc r) = jI m (jrc r) := by
      rw [jsI_n (by unfold jrc; have := i4.2; omega), jsI_n (by unfold jrc; have := i4.2; omega)]
    rw [e3]
  · exact ((jsI_f (S := jSle b) (Or.inr (Or.inl rfl))).trans (jsI_f (Or.inl rfl))).trans (jsI_f (Or.inl rfl))
  · rw [jL_sI, jL_sI, jL_sI]
  · rw [jsI_e, jupd_n h2, jsI_e, jupd_n h1, jsI_n (by omega)]
  · have e17 : jI (jsI (jsI (jsI m (b + 12) r (Int32.ofNat k)) b 16 (jI m b 16 ||| jI m (jrv r) k)) b 17 (jI m b 17 ||| jI m (jrc r) 4)) b 17 = jI m b 17 ||| jI m (jrc r) 4 := by rw [jsI_e, jupd_e]
    have e16 : jI (jsI (jsI (jsI m (b + 12) r (Int32.ofNat k)) b 16 (jI m b 16 ||| jI m (jrv r) k)) b 17 (jI m b 17 ||| jI m (jrc r) 4)) b 16 = jI m b 16 ||| jI m (jrv r) k := by rw [jsI_e, jupd_n (by omega), jsI_e, jupd_e]
    have e12 : jI (jsI (jsI (jsI m (b + 12) r (Int32.ofNat k)) b 16 (jI m b 16 ||| jI m (jrv r) k)) b 17 (jI m b 17 ||| jI m (jrc r) 4)) (b + 12) = jupd (jI m (b + 12)) r (Int32.ofNat k) := by rw [jsI_n (by omega), jsI_n (by omega), jsI_e]
    have hSs : ∀ a, jSs D (fun x => P x || x == r) a = (jSs D P a || (jDa D r).testBit a) := by
      intro a
      rw [Bool.eq_iff_iff, jSs_iff, Bool.or_eq_true, jSs_iff]
      constructor
      · rintro ⟨x, h1, h2, h3⟩
        rcases Bool.or_eq_true .. ▸ h2 with h2 | h2
        · exact Or.inl ⟨x, h1, h2, h3⟩
        · have : x = r := by simpa using h2
          subst this
          exact Or.inr h3
      · rintro (⟨x, h1, h2, h3⟩ | h)
        · exact ⟨x, h1, by rw [h2]; rfl, h3⟩
        · exact ⟨r, hr, by simp, h⟩
    have hmm := jmg_iff.mp hm
    unfold jsd
    rw [e17, e16, e12]
    have hcell : ∀ a, a < 8 → jnb (jI m b 16 ||| jI m (jrv r) k) a = jnb (jI m b 16) a ||| jDv D r k a := by
      intro a ha
      rw [jnb_or, (hC.2.2.2.2.2 k hk).1 a ha]
    have hv0 : ∀ a, (jDa D r).testBit a = false → jDv D r k a = 0 := ((i6 r hr).2.2.2.2 k hk).2.1
    refine ⟨fun a ha => ?_, fun a x ha hx hPx hax => ?_, fun a ha hsa => ?_, fun x hx hPx => ?_⟩
    · rw [jnb_or15 (s1 a ha) (hC.2.2.1 a ha), hSs]
    · dsimp only at hPx ⊢
      rw [hcell a ha]
      by_cases ex : x = r
      · subst ex
        rw [if_pos rfl]
        by_cases q : jSs D P a = true
        · rw [← hmm a (jSL_eq (i6 x hx) hax) hax q, Nat.or_self]
        · have q : jSs D P a = false := by simpa using q
          rw [s3 a ha q, Nat.zero_or]
      · rw [if_neg ex]
        have hPx : P x = true := by
          rw [Bool.or_eq_true] at hPx
          rcases hPx with h | h
          · exact h
          · exact absurd (by simpa using h) ex
        have hsv := s2 a x ha hx hPx hax
        cases hra : (jDa D r).testBit a with
        | false => rw [hv0 a hra, Nat.or_zero, hsv]
        | true =>
          rw [hmm a (jSL_eq (i6 x hx) hax) hra (jSs_iff.mpr ⟨x, hx, hPx, hax⟩), Nat.or_self, hsv]
    · rw [hSs, Bool.or_eq_false_iff] at hsa
      rw [hcell a ha, s3 a ha hsa.1, hv0 a hsa.2, Nat.or_self]
    · dsimp only at hPx ⊢
      by_cases ex : x = r
      · subst ex
        rw [jupd_e, if_pos rfl]
        exact ⟨rfl, hk⟩
      · rw [jupd_n ex, if_neg ex]
        have hPx : P x = true := by
          rw [Bool.or_eq_true] at hPx
          rcases hPx with h | h
          · exact h
          · exact absurd (by simpa using h) ex
        exact s4 x hx hPx
theorem jpk1_c {r : Nat} {M M' : Nat → Bool} : ∀ (t k p : Nat), (∀ x, k ≤ x → x < k + t → M x = M' x) → jpk1 D r M t k p = jpk1 D r M' t k p := by
  intro t
  induction t with
  | zero => intro k p h; rfl
  | succ t ih =>
    intro k p h
    unfold jpk1
    rw [h k (Nat.le_refl _) (by omega), ih (k + 1) p (fun x h1 h2 => h x (by omega) (by omega)), ih (k + 1) (p - jW1 D r k) (fun x h1 h2 => h x (by omega) (by omega))]
theorem q_leadInto_l10 {r : Nat} (hr : r < 4) {m : jMe} {P : Nat → Bool} {R : Nat → Nat} (hI : jIn D b m) (hP : P r = false) (hs : jsd D P R b m) (hw : jWd D b m r) : ∀ (t k f p x q : Nat), k + t = jDz D r → t < f → p ≤ jMX → jpk1 D r (fun y => jmg D r y (jSs D P) (jnb (jI m b 16))) t k p = some (x, q) → ∃ m', c_X2_leadInto_l10 F f m b (Int32.ofNat r) (Int64.ofNat p) (Int32.ofNat k) = some (.inl (1, m')) ∧ jfr (jSle b) m m' ∧ (∀ j, j ≠ 16 → j ≠ 17 → jI m' b j = jI m b j) ∧ jL m' b = jL m b ∧ jL m' (b + 13) = jupd (jL m (b + 13)) r (Int64.ofNat q) ∧ jsd D (fun y => P y || y == r) (fun y => if y = r then x else R y) b m' := by
  have hI0 := hI
  obtain ⟨i1, i2, i3, i4, i5, i6⟩ := hI
  obtain ⟨r1, r2⟩ := i3.2.2 r hr
  have hz := (i6 r hr).2.2.1
  have hwt := i1.2.2.2.2.2.2.2.2.2.2.1
  have hld := i1.2.2.2.2.2.2.2.2.2.2.2.2.2.2.2.2.2.1
  intro t
  induction t with
  | zero => intro k f p x q h1 h2 h3 h4; cases h4
  | succ t ih =>
    intro k f p x q h1 h2 h3 h4
    obtain ⟨f, rfl⟩ := jsucc h2
    have hk : k < jDz D r := by omega
    obtain ⟨w1, w2⟩ := hw k hk
    have hst : ∀ z, (if jbi (jmg D r k (jSs D P) (jnb (jI m b 16))) = 0 then c_X2_leadInto_l10 F f m b (Int32.ofNat r) (Int64.ofNat p) (Int32.ofNat (k + 1)) else (if 0 ≤ (lg_cmp (Int64.ofNat p) (Int64.ofNat (jW1 D r k))) then c_X2_leadInto_l10 F f m b (Int32.ofNat r) (Int64.ofNat p - Int64.ofNat (jW1 D r k)) (Int32.ofNat (k + 1)) else jb (c_X2_seat F (jsL m (b + 13) r (Int64.ofNat p)) b (Int32.ofNat r) (Int32.ofNat k)) fun t19 => some (.inl ((1 : Int32), t19)))) = z → c_X2_leadInto_l10 F (f + 1) m b (Int32.ofNat r) (Int64.ofNat p) (Int32.ofNat k) = z := by
      intro z h
      rw [← h]
      show c_X2_leadInto_l10_b F _ m _ _ _ _ = _
      unfold c_X2_leadInto_l10_b
      rw [jgd_t i1.1, i2, jgd_t i3.1, i3.2.1, jgd_t (ji_int (by omega) hr), ji_n (by omega), r1, jgd_t r2.1, (i5 r hr).2.2.2.1, if_neg (ji_len (by omega) (by omega) (by omega)), jgd_t (ji_int (by omega) hr), q_matches r2 (i6 r hr) (i5 r hr) hk hs.1, jb_some, i1.2.2.1, jgd_t hwt.1, hwt.2, jl_8, ji_mul, ji_add, jgd_t (ji_int (by omega) (by omega)), ji_n (by omega), w1, i1.2.2.2.2.2.2.2.2.2.1, jgd_t hld.1, hld.2, jgd_t (ji_int (by omega) hr), show Int32.ofNat k + 1 = Int32.ofNat (k + 1) from ji_add k 1]
    unfold jpk1 at h4
    by_cases em : jmg D r k (jSs D P) (jnb (jI m b 16)) = true
    · rw [if_pos em] at h4
      have hcmp : 0 ≤ lg_cmp (Int64.ofNat p) (Int64.ofNat (jW1 D r k)) ↔ ¬ p < jW1 D r k := by
        rw [jc_0le, jq_le w2 h3]
        omega
      by_cases ep : p < jW1 D r k
      · rw [if_pos ep] at h4
        cases h4
        generalize hm1 : jsL m (b + 13) r (Int64.ofNat p) = m1
        have hf1 : jfr (jSle b) m m1 := by
          rw [← hm1]
          exact jsL_f (Or.inr (Or.inr rfl))
        have hIe : jI m1 = jI m := by rw [← hm1, jI_sL]
        have hI1 : jIn D b m1 := jIn_fr (S := jSle b) (fun a ha => by unfold jSle at ha; omega) hf1 hI0
        obtain ⟨m', y1, y2, y3, y4, y5⟩ := q_seat (F := F) hI1 hr hk hP (jsd_of (by rw [hIe]) (by rw [hIe]) hs) (by rw [hIe]; exact em)
        refine ⟨m', hst _ ?_, hf1.trans y2, fun j j1 j2 => by rw [y4 j j1 j2, hIe], ?_, ?_, y5⟩
        · rw [em, if_neg (by decide), if_neg (fun h => hcmp.mp h ep), hm1, y1, jb_some]
        · rw [y3, ← hm1, jsL_n (by omega)]
        · rw [y3, ← hm1, jsL_e]
      · rw [if_neg ep] at h4
        obtain ⟨m', y1, y2⟩ := ih (k + 1) f (p - jW1 D r k) x q (by omega) (by omega) (by omega) h4
        refine ⟨m', hst _ ?_, y2⟩
        rw [em, if_neg (by decide), if_pos (hcmp.mpr ep), jq_sub (by omega)]
        exact y1
    · rw [if_neg em] at h4
      obtain ⟨m', y1, y2⟩ := ih (k + 1) f p x q (by omega) (by omega) h3 h4
      refine ⟨m', hst _ ?_, y2⟩
      have em : jmg D r k (jSs D P) (jnb (jI m b 16)) = false := by simpa using em
      rw [em, if_pos (by decide)]
      exact y1
theorem q_leadChildren_l17 {r k : Nat} (hr : r < 4) (hk : k < 8) (hq : jDq D < 16) : ∀ (t f p : Nat) (m : jMe), t ≤ 4 → t < f → p ≤ jMX → jIn D b m → jTM D (b + 1) m → jUd D b m r k → (∀ c, c < 4 → jkid D c r = true → 0 < jS1 D r k c) → ∃ m', c_X2_leadChildren_l17 F f m b (Int32.ofNat r) (Int32.ofNat k) (Int64.ofNat p) (Int32.ofNat t - 1) = some m' ∧ jfr (· = b + 13) m m' ∧ jI m' = jI m ∧ (∀ c, jL m' (b + 13) c = if c < t ∧ jkid D c r = true then Int64.ofNat (jcl1 D r k t p c) else jL m (b + 13) c) := by
  intro t
  induction t with
  | zero =>
    intro f p m h1 h2 h3 hI hM hU hS
    obtain ⟨f, rfl⟩ := jsucc h2
    refine ⟨m, ?_, jfr.rfl, rfl, fun c => by rw [if_neg (by omega)]⟩
    show c_X2_leadChildren_l17_b F _ m _ _ _ _ _ = _
    unfold c_X2_leadChildren_l17_b
    rw [if_pos jdown0]
  | succ t ih =>
    intro f p m h1 h2 h3 hI hM hU hS
    obtain ⟨f, rfl⟩ := jsucc h2
    have hI0 := hI
    obtain ⟨i1, i2, i3, i4, i5, i6⟩ := hI
    have hlt := i1.2.2.2.2.2.2.2.2.2.2.2.2.2.2.2.2.2.2
    have hun := i1.2.2.2.2.2.2.2.2.2.2.2.2.1
    have hld := i1.2.2.2.2.2.2.2.2.2.2.2.2.2.2.2.2.2.1
    have hst : ∀ z, (if jbi (jkid D t r) = 0 then c_X2_leadChildren_j59_l17 F (fun m y0 y1 y2 y3 y5 => c_X2_leadChildren_l17 F f m y0 y1 y2 y3 y5) m b (Int32.ofNat r) (Int32.ofNat k) (Int64.ofNat p) (Int32.ofNat t) (0 : Int64) else c_X2_leadChildren_j59_l17 F (fun m y0 y1 y2 y3 y5 => c_X2_leadChildren_l17 F f m y0 y1 y2 y3 y5) m b (Int32.ofNat r) (Int32.ofNat k) (Int64.ofNat p) (Int32.ofNat t) (jL m (b + 8) ((r * 8 + k) * 4 + t))) = z → c_X2_leadChildren_l17 F (f + 1) m b (Int32.ofNat r) (Int32.ofNat k) (Int64.ofNat p) (Int32.ofNat (t + 1) - 1) = z := by
      intro z h
      rw [← h]
      show c_X2_leadChildren_l17_b F _ m _ _ _ _ _ = _
      unfold c_X2_leadChildren_l17_b
      rw [jdown_s, if_neg (ji_ge0 (by omega)), jgd_t i1.1, i1.2.1, jgd_t hlt.1, hlt.2.2.1, jgd_t hlt.2.2.2.2.2.2.2.1, hlt.2.2.2.2.2.2.2.2.1, jgd_t (ji_int (by omega) hr), ji_n (by omega), hM.2.2.2.1 r hr, q_isIn (by omega) (by have := jkidw_16 hq (r := r); omega), jb_some, jkid_w hq (by omega), i1.2.2.2.2.1, jgd_t hun.1, hun.2, jl_8, ji_mul, ji_add, jl_4, ji_mul, ji_add, jgd_t (ji_int (by omega) (by omega)), ji_n (by omega)]
    cases ek : jkid D t r with
    | false =>
      obtain ⟨m', y1, y2, y3, y4⟩ := ih f p m (by omega) (by omega) h3 hI0 hM hU hS
      refine ⟨m', hst _ ?_, y2, y3, fun c => ?_⟩
      · rw [ek, if_pos (by decide)]
        unfold c_X2_leadChildren_j59_l17
        rw [if_pos (show lg_cmp (0 : Int64) 0 ≤ 0 by decide), jdown]
        exact y1
      · rw [y4]
        have hj : jcl1 D r k (t + 1) p c = jcl1 D r k t p c := by
          rw [show jcl1 D r k (t + 1) p c = if jkid D t r = true then (if c = t then p % jS1 D r k t else jcl1 D r k t (p / jS1 D r k t) c) else jcl1 D r k t p c from rfl, ek, if_neg (by decide)]
        rw [hj]
        by_cases e1 : c < t ∧ jkid D c r = true
        · rw [if_pos e1, if_pos ⟨by omega, e1.2⟩]
        · rw [if_neg e1]
          by_cases e2 : c < t + 1 ∧ jkid D c r = true
          · have : c = t := by
              rcases Nat.lt_succ_iff_lt_or_eq.mp e2.1 with h | h
              · exact absurd ⟨h, e2.2⟩ e1
              · exact h
            subst this
            rw [ek] at e2
            cases e2.2
          · rw [if_neg e2]
    | true =>
      obtain ⟨u1, u2, u3⟩ := hU t (by omega) ek
      have hS0 := hS t (by omega) ek
      generalize hm1 : jsL m (b + 13) t (Int64.ofNat (p % jS1 D r k t)) = m1
      have hf1 : jfr (· = b + 13) m m1 := by
        rw [← hm1]
        exact jsL_f rfl
      have hIe : jI m1 = jI m := by rw [← hm1, jI_sL]
      have hI1 : jIn D b m1 := jIn_fr (S := (· = b + 13)) (fun a ha => by omega) hf1 hI0
      have hM1 : jTM D (b + 1) m1 := jTM_of (fun a _ _ => by rw [hIe]) hM
      have hU1 : jUd D b m1 r k := by
        intro x hx hkx
        rw [← hm1, jsL_n (by omega)]
        exact hU x hx hkx
      obtain ⟨m', y1, y2, y3, y4⟩ := ih f (p / jS1 D r k t) m1 (by omega) (by omega) (Nat.le_trans (Nat.div_le_self _ _) h3) hI1 hM1 hU1 hS
      have hne : ¬ Int64.ofNat (jS1 D r k t) = 0 := fun h => by
        have := (jq_eq u1 (Nat.zero_le _)).mp h
        omega
      refine ⟨m', hst _ ?_, hf1.trans y2, by rw [y3, hIe], fun c => ?_⟩
      · rw [ek, if_neg (by decide), u3]
        unfold c_X2_leadChildren_j59_l17
        rw [if_neg (fun h => by
          have h : lg_cmp (Int64.ofNat (jS1 D r k t)) (Int64.ofNat 0) ≤ 0 := h
          rw [jc_le0, jq_le u1 (Nat.zero_le _)] at h
          omega), jgd_t i1.1, jgd_t hne, i1.2.2.2.2.2.2.2.2.2.1, jgd_t hld.1, hld.2, jgd_t (ji_int (by omega) (by omega)), jgd_t hne, ji_n (by omega), jq_rem h3 u1 hS0, jq_div h3 u1, hm1, jdown]
        exact y1
      · rw [y4, ← hm1, jsL_e]
        have hj : jcl1 D r k (t + 1) p c = if c = t then p % jS1 D r k t else jcl1 D r k t (p / jS1 D r k t) c := by
          rw [show jcl1 D r k (t + 1) p c = if jkid D t r = true then (if c = t then p % jS1 D r k t else jcl1 D r k t (p / jS1 D r k t) c) else jcl1 D r k t p c from rfl, ek, if_pos rfl]
        rw [hj]
        by_cases e0 : c = t
        · subst e0
          rw [if_neg (by omega), if_pos ⟨by omega, ek⟩, if_pos rfl, jupd_e]
        · rw [jupd_n e0, if_neg e0]
          by_cases e1 : c < t ∧ jkid D c r = true
          · rw [if_pos e1, if_pos ⟨by omega, e1.2⟩]
          · rw [if_neg e1, if_neg (fun h => e1 ⟨by omega, h.2⟩)]
end SEAT
