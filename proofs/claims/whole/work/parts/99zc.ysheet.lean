/-! taken, count; items of sheets, as the reference tells them -/
section YSHEET
variable {F : Nat} {D : jD} {S : jTS}
def jtkn (D : jD) (x1 x2 : Int32) : Int32 := if jbt2 x2 0 5 = true then (if jin x1 (jDn D) = true then (if jisa (jDk D x1.toNatClampNeg) x2.toNatClampNeg = true then Int32.ofNat (jDk D x1.toNatClampNeg) else -13) else -11) else -2
theorem y_taken (hF : 100 < F) (hD : jDok D) {m : jMe} (hQ : jyQ D S m) {x1 x2 : Int32} : c_X10_taken F m 101 x1 x2 = some (jtkn D x1 x2) := by
  have hL := hQ.1.1
  have hn := hD.1
  unfold c_X10_taken jtkn
  rw [show c_X10_in F m (Int32.toInt64 x2) (0 : Int64) (5 : Int64) = some (jbi (jbt2 x2 0 5)) from q_in_int (lo := 0) (hi := 5) (by omega) (by omega), jb_some]
  cases e1 : jbt2 x2 0 5 with
  | false => rfl
  | true =>
    obtain ⟨k, rfl, hk, _, hk5⟩ := jbt2_nat e1
    rw [if_neg (show ¬ jbi true = 0 by decide), if_pos rfl, jgd_t hL.1, y_isRelation hL hQ.1.2.1 hD, jb_some, ji_n hk]
    cases e2 : jin x1 (jDn D) with
    | false => rfl
    | true =>
      obtain ⟨r, rfl, hr1, hr2⟩ := jin_nat e2
      have hr4 : r < 4 := by omega
      rw [if_neg (show ¬ jbi true = 0 by decide), if_pos rfl, ji_n hr1, jp_105 hL, jgd_t (jk_105 hL), jz_105 hL, jgd_t (ji_int (by omega) hr4), jgd_t (ji_int (by omega) hr4), (hQ.1.2.1.2.2.2 r hr4).1, y_isUnder hF (by omega) (hD.2.2.1 r hr4).1, jb_some]
      cases jisa (jDk D r) k <;> rfl
def jsz (D : jD) (w : Bool) (r : Nat) : Nat := if w = true then jDz D r else jpop 8 (jDl D r)
theorem y_count_l29 (hF : 100 < F) {m : jMe} (hR : jRf D S m) (hD : jDok D) {w : Bool} : ∀ (t r f : Nat), r + t = jDn D → t < f → c_X10_count_l29 F m f 101 (if w = true then 1 else 2) (Int32.ofNat (jsum r (jsz D w))) (Int32.ofNat r) = some (Int32.ofNat (jsum (jDn D) (jsz D w))) := by
  have hL := hR.1
  have hn := hD.1
  intro t
  induction t with
  | zero =>
    intro r f h1 h2
    obtain ⟨f, rfl⟩ := jsucc h2
    show c_X10_count_l29_b F _ m _ _ _ _ = _
    unfold c_X10_count_l29_b
    rw [jgd_t hL.1, hR.2.1.1, if_pos (ji_lep (by omega) (by omega) (by omega)), show r = jDn D by omega]
  | succ t ih =>
    intro r f h1 h2
    obtain ⟨f, rfl⟩ := jsucc h2
    have ih := ih (r + 1) f (by omega) (by omega)
    rw [jsum_s] at ih
    have hr4 : r < 4 := by omega
    have hDr := hD.2.2.1 r hr4
    have hl := jz256 hDr.2.2.2.1 hDr.2.2.1
    show c_X10_count_l29_b F _ m _ _ _ _ = _
    unfold c_X10_count_l29_b
    rw [jgd_t hL.1, hR.2.1.1, if_neg (ji_len (by omega) (by omega) (by omega)), jp_107 hL, jgd_t (jk_107 hL), jz_107 hL, jgd_t (ji_int (by omega) hr4), ji_n (by omega), (hR.2.1.2.2.2 r hr4).2.2.1, y_liveOf hF hR hD hr4, jb_some, q_bitsOf hF hl, jb_some, ji_add, ji_add, show Int32.ofNat r + 1 = Int32.ofNat (r + 1) from ji_add r 1]
    unfold jsz at ih ⊢
    cases w with
    | true =>
      rw [if_pos (show (if true = true then (1 : Int32) else 2) = 1 from rfl)]
      exact ih
    | false =>
      rw [if_neg (show ¬ (if false = true then (1 : Int32) else 2) = 1 by decide)]
      exact ih
def jcnt1 (D : jD) (s n c k : Nat) : Int32 := if k = 1 then Int32.ofNat (jsum (jDn D) (jsz D true)) else if k = 2 then Int32.ofNat (jsum (jDn D) (jsz D false)) else if k = 0 then Int32.ofNat (jDn D) else if k = 3 then Int32.ofNat s else if k = 4 then Int32.ofNat n else if k = 5 then Int32.ofNat (jDr D) else if k = 6 then Int32.ofNat (jDq D) else Int32.ofNat c
theorem y_count (hF : 100 < F) (hD : jDok D) {B : Nat × (Nat → Nat)} {L : Nat × (Nat → Int32)} {m : jMe} (hQ : jyQ D S m) (hT : jyTp B m) (hS : jySl L m) {x1 : Int32} : c_X10_count F m 101 x1 = some (if jbt2 x1 0 7 = true then jcnt1 D S.1 B.1 L.1 x1.toNatClampNeg else -2) := by
  have hL := hQ.1.1
  have hn := hD.1
  unfold c_X10_count
  rw [show c_X10_in F m (Int32.toInt64 x1) (0 : Int64) (7 : Int64) = some (jbi (jbt2 x1 0 7)) from q_in_int (lo := 0) (hi := 7) (by omega) (by omega), jb_some]
  cases e1 : jbt2 x1 0 7 with
  | false => rfl
  | true =>
    obtain ⟨k, rfl, hk, _, hk7⟩ := jbt2_nat e1
    rw [if_neg (show ¬ jbi true = 0 by decide), if_pos rfl, ji_n hk]
    unfold jcnt1
    by_cases k1 : k = 1
    · have h := y_count_l29 (F := F) hF hQ.1 hD (w := true) (jDn D) 0 F (by omega) (by omega)
      have h : c_X10_count_l29 F m F 101 (1 : Int32) (0 : Int32) (0 : Int32) = _ := h
      rw [if_pos k1, k1, if_pos (show Int32.ofNat 1 = 1 from rfl)]
      show (jb (c_X10_count_l29 F m F 101 (1 : Int32) (0 : Int32) (0 : Int32)) fun e15 => some e15) = _
      rw [h, jb_some]
    rw [if_neg k1, if_neg (show ¬ Int32.ofNat k = 1 from ji_eqn (b := 1) (by omega) (by omega) k1)]
    by_cases k2 : k = 2
    · have h := y_count_l29 (F := F) hF hQ.1 hD (w := false) (jDn D) 0 F (by omega) (by omega)
      have h : c_X10_count_l29 F m F 101 (2 : Int32) (0 : Int32) (0 : Int32) = _ := h
      rw [if_pos k2, k2, if_pos (show Int32.ofNat 2 = 2 from rfl)]
      show (jb (c_X10_count_l29 F m F 101 (2 : Int32) (0 : Int32) (0 : Int32)) fun e15 => some e15) = _
      rw [h, jb_some]
    rw [if_neg k2, if_neg (show ¬ Int32.ofNat k = 2 from ji_eqn (b := 2) (by omega) (by omega) k2)]
    simp only [jgd_t hL.1, hQ.1.2.1.1, hQ.1.2.2.1.1, hT.1, hQ.1.2.1.2.1, hQ.1.2.1.2.2.1, hS.2.1]
    rcases (by omega : k = 0 ∨ k = 3 ∨ k = 4 ∨ k = 5 ∨ k = 6 ∨ k = 7) with rfl | rfl | rfl | rfl | rfl | rfl <;> rfl
/-- sheets: whether they are there, their sorts, sizes, items -/
abbrev jHt : Type := (Nat → Bool) × (Nat → Nat) × (Nat → Nat) × (Nat → Nat → Int64)
def jyHm (H : jHt) (m : jMe) : Prop := ∀ s, s < 4 → jI m 125 s = jbi (H.1 s) ∧ H.2.2.1 s ≤ 40 ∧ (H.1 s = false → H.2.2.1 s = 0) ∧ (H.1 s = true → jI m 126 s = Int32.ofNat (H.2.1 s) ∧ H.2.1 s ≤ 2 ∧ jI m 127 s = Int32.ofNat (H.2.2.1 s)) ∧ ∀ i, i < H.2.2.1 s → jL m 128 (40 * s + i) = H.2.2.2 s i
theorem y_isSheet {m : jMe} {x : Int32} : c_X10_isSheet F m x = some (jbi (jin x 4)) := by
  unfold c_X10_isSheet
  rw [show c_X10_in F m (Int32.toInt64 x) (0 : Int64) (3 : Int64) = some (jbi (jbt2 x 0 3)) from q_in_int (lo := 0) (hi := 3) (by omega) (by omega), jb_some, jbt_jin]
  cases jin x 4 <;> rfl
def jitm (H : jHt) (x1 x2 : Int32) : Int64 := if (jin x1 4 && jin x2 (H.2.2.1 x1.toNatClampNeg)) = true then H.2.2.2 x1.toNatClampNeg x2.toNatClampNeg else -4611686018427387904
theorem y_item {H : jHt} {m : jMe} (hL : jLM m) (hH : jyHm H m) {x1 x2 : Int32} : c_X10_item F m 101 x1 x2 = some (jitm H x1 x2) := by
  unfold c_X10_item jitm
  rw [y_isSheet, jb_some]
  cases e1 : jin x1 4 with
  | false => rfl
  | true =>
    obtain ⟨s, rfl, hs1, hs4⟩ := jin_nat e1
    obtain ⟨h1, h2, h3, h4, h5⟩ := hH s hs4
    rw [if_neg (show ¬ jbi true = 0 by decide), jgd_t hL.1, jp_125 hL, jgd_t (jk_125 hL), jz_125 hL, jgd_t (ji_int (by omega) hs4), ji_n hs1, h1, Bool.true_and]
    cases e2 : H.1 s with
    | false =>
      have : jin x2 (H.2.2.1 s) = false := by
        rw [h3 e2]
        cases h : jin x2 0 with
        | false => rfl
        | true =>
          obtain ⟨k, _, _, q⟩ := jin_nat h
          omega
      rw [if_pos (show jbi false = 0 from rfl), this, if_neg (by decide)]
    | true =>
      obtain ⟨g1, g2, g3⟩ := h4 e2
      rw [if_neg (show ¬ jbi true = 0 by decide), jp_127 hL, jgd_t (jk_127 hL), jz_127 hL, jgd_t (ji_int (by omega) hs4), g3, q_in_jin (by omega), jb_some]
      cases e3 : jin x2 (H.2.2.1 s) with
      | false => rfl
      | true =>
        obtain ⟨i, rfl, hi1, hi2⟩ := jin_nat e3
        rw [if_neg (show ¬ jbi true = 0 by decide), if_pos rfl, jp_128 hL, jgd_t (jk_128 hL), jz_128 hL, show (40 : Int32) = Int32.ofNat 40 from rfl, ji_mul, ji_add, jgd_t (ji_int (by omega) (by omega)), ji_n (by omega), h5 i hi2, ji_n hi1]
end YSHEET
