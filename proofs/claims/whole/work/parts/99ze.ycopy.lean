/-! items copied, as the reference does it -/
section YCOPY
variable {F : Nat} {D : jD} {S : jTS}
/-- items moved from q on to p on, n of them -/
def jmov (p q n : Nat) (g : Nat → Int64) (x : Nat) : Int64 := if p ≤ x ∧ x < p + n then g (q + (x - p)) else g x
theorem y_copy_up {m0 : jMe} {a b c d n : Nat} (ha : a < 4) (hc : c < 4) (hb : b + n ≤ 40) (hd : d + n ≤ 40) (hov : 40 * c + d ≤ 40 * a + b ∨ 40 * a + b + n ≤ 40 * c + d) : ∀ (t k f : Nat) (m : jMe), k + t = n → t < f → jLM m → (∀ x, jL m 128 x = jmov (40 * c + d) (40 * a + b) k (jL m0 128) x) → ∃ m', c_X10_copy_l121 F f m 101 (Int32.ofNat a) (Int32.ofNat b) (Int32.ofNat c) (Int32.ofNat d) (Int32.ofNat n) (0 : Int32) (Int32.ofNat k) = some (m', Int32.ofNat n) ∧ jfx (fun a _ => a = 128) m m' ∧ ∀ x, jL m' 128 x = jmov (40 * c + d) (40 * a + b) n (jL m0 128) x := by
  intro t
  induction t with
  | zero =>
    intro k f m h1 h2 hL hm
    obtain ⟨f, rfl⟩ := jsucc h2
    refine ⟨m, ?_, jfx.rfl, fun x => by rw [hm x, show k = n by omega]⟩
    show c_X10_copy_l121_b F _ m _ _ _ _ _ _ _ _ = _
    unfold c_X10_copy_l121_b
    rw [if_pos (ji_lep (by omega) (by omega) (by omega))]
  | succ t ih =>
    intro k f m h1 h2 hL hm
    obtain ⟨f, rfl⟩ := jsucc h2
    show ∃ m', c_X10_copy_l121_b F _ m _ _ _ _ _ _ _ _ = _ ∧ _
    unfold c_X10_copy_l121_b c_X10_copy_j145_l121
    rw [if_neg (ji_len (by omega) (by omega) (by omega)), if_pos (show (0 : Int32) = 0 from rfl), jgd_t hL.1, jp_128 hL, jgd_t (jk_128 hL), jz_128 hL, show (40 : Int32) = Int32.ofNat 40 from rfl, ji_mul, ji_mul, ji_add, ji_add, ji_add, ji_add, jgd_t (ji_int (by omega) (by omega)), jgd_t (ji_int (by omega) (by omega)), ji_n (by omega), ji_n (by omega), show Int32.ofNat k + 1 = Int32.ofNat (k + 1) from ji_add k 1]
    have hv : jL m 128 (40 * a + b + k) = jL m0 128 (40 * a + b + k) := by
      rw [hm]
      unfold jmov
      rw [if_neg (by omega)]
    rw [hv]
    have fx : jfx (fun a _ => a = 128) m (jsL m 128 (40 * c + d + k) (jL m0 128 (40 * a + b + k))) := jfx_L rfl
    obtain ⟨m', a1, a2, a3⟩ := ih (k + 1) f (jsL m 128 (40 * c + d + k) (jL m0 128 (40 * a + b + k))) (by omega) (by omega) (jLM_fx fx hL) (fun x => by
      rw [jsL_g, hm]
      unfold jmov
      by_cases e : x = 40 * c + d + k
      · rw [if_pos ⟨rfl, e⟩, if_pos (by omega), e, show 40 * a + b + (40 * c + d + k - (40 * c + d)) = 40 * a + b + k by omega]
      · rw [if_neg (fun h => e h.2)]
        by_cases e2 : 40 * c + d ≤ x ∧ x < 40 * c + d + k
        · rw [if_pos e2, if_pos (by omega)]
        · rw [if_neg e2, if_neg (by omega)])
    exact ⟨m', a1, fx.trans a2, a3⟩
theorem y_copy_dn {m0 : jMe} {a b d n : Nat} (ha : a < 4) (hb : b + n ≤ 40) (hd : d + n ≤ 40) (hov : b < d) : ∀ (t k f : Nat) (m : jMe), k + t = n → t < f → jLM m → (∀ x, jL m 128 x = if 40 * a + d + (n - k) ≤ x ∧ x < 40 * a + d + n then jL m0 128 (40 * a + b + (x - (40 * a + d))) else jL m0 128 x) → ∃ m', c_X10_copy_l121 F f m 101 (Int32.ofNat a) (Int32.ofNat b) (Int32.ofNat a) (Int32.ofNat d) (Int32.ofNat n) (1 : Int32) (Int32.ofNat k) = some (m', Int32.ofNat n) ∧ jfx (fun a _ => a = 128) m m' ∧ ∀ x, jL m' 128 x = jmov (40 * a + d) (40 * a + b) n (jL m0 128) x := by
  intro t
  induction t with
  | zero =>
    intro k f m h1 h2 hL hm
    obtain ⟨f, rfl⟩ := jsucc h2
    refine ⟨m, ?_, jfx.rfl, fun x => ?_⟩
    · show c_X10_copy_l121_b F _ m _ _ _ _ _ _ _ _ = _
      unfold c_X10_copy_l121_b
      rw [if_pos (ji_lep (by omega) (by omega) (by omega))]
    · rw [hm x]
      unfold jmov
      rw [show n - k = 0 by omega, Nat.add_zero]
  | succ t ih =>
    intro k f m h1 h2 hL hm
    obtain ⟨f, rfl⟩ := jsucc h2
    show ∃ m', c_X10_copy_l121_b F _ m _ _ _ _ _ _ _ _ = _ ∧ _
    unfold c_X10_copy_l121_b c_X10_copy_j145_l121
    rw [if_neg (ji_len (by omega) (by omega) (by omega)), if_neg (show ¬ (1 : Int32) = 0 by decide), jgd_t hL.1, jp_128 hL, jgd_t (jk_128 hL), jz_128 hL, show Int32.ofNat k + 1 = Int32.ofNat (k + 1) from ji_add k 1, show Int32.ofNat n - 1 = Int32.ofNat (n - 1) from by rw [show (1 : Int32) = Int32.ofNat 1 from rfl, ji_sub (by omega)], ji_sub (by omega), show (40 : Int32) = Int32.ofNat 40 from rfl, ji_mul, ji_add, ji_add, ji_add, ji_add, jgd_t (ji_int (by omega) (by omega)), jgd_t (ji_int (by omega) (by omega)), ji_n (by omega), ji_n (by omega)]
    have hv : jL m 128 (40 * a + b + (n - 1 - k)) = jL m0 128 (40 * a + b + (n - 1 - k)) := by
      rw [hm, if_neg (by omega)]
    rw [hv]
    have fx : jfx (fun a _ => a = 128) m (jsL m 128 (40 * a + d + (n - 1 - k)) (jL m0 128 (40 * a + b + (n - 1 - k)))) := jfx_L rfl
    obtain ⟨m', a1, a2, a3⟩ := ih (k + 1) f (jsL m 128 (40 * a + d + (n - 1 - k)) (jL m0 128 (40 * a + b + (n - 1 - k)))) (by omega) (by omega) (jLM_fx fx hL) (fun x => by
      rw [jsL_g, hm]
      by_cases e : x = 40 * a + d + (n - 1 - k)
      · rw [if_pos ⟨rfl, e⟩, if_pos (by omega), e, show 40 * a + b + (40 * a + d + (n - 1 - k) - (40 * a + d)) = 40 * a + b + (n - 1 - k) by omega]
      · rw [if_neg (fun h => e h.2)]
        by_cases e2 : 40 * a + d + (n - k) ≤ x ∧ x < 40 * a + d + n
        · rw [if_pos e2, if_pos (by omega)]
        · rw [if_neg e2, if_neg (by omega)])
    exact ⟨m', a1, fx.trans a2, a3⟩
theorem ji_sneg {s n : Nat} (hs : s ≤ 40) (hn : n < 2147483648) (h : s < n) : Int32.ofNat s - Int32.ofNat n < 0 := by
  rw [Int32.lt_iff_toInt_lt, Int32.toInt_sub, Int32.toInt_ofNat_of_lt (by omega), Int32.toInt_ofNat_of_lt (by omega)]
  have h1 : ((s : Int) - (n : Int)).bmod (2 ^ 32) = (s : Int) - (n : Int) := Int.bmod_eq_of_le (by omega) (by omega)
  rw [h1]
  show (s : Int) - (n : Int) < 0
  omega
theorem ji_room {s n b : Nat} (hs : s ≤ 40) (hn : n < 2147483648) (hb : b < 2147483648) : (Int32.ofNat b ≤ Int32.ofNat s - Int32.ofNat n) ↔ b + n ≤ s := by
  by_cases e : n ≤ s
  · rw [ji_sub e, ji_le hb (by omega)]
    omega
  · have h1 := ji_sneg hs hn (by omega)
    refine ⟨fun h => ?_, fun h => by omega⟩
    exact absurd (Int32.lt_of_le_of_lt (Int32.le_trans (ji_0le hb) h) h1) Int32.lt_irrefl
def jHm (H : jHt) (a b c d n : Nat) : jHt := (H.1, H.2.1, H.2.2.1, fun x y => if x = c ∧ d ≤ y ∧ y < d + n then H.2.2.2 a (b + (y - d)) else H.2.2.2 x y)
theorem jyHm_m {H : jHt} {m m' : jMe} {a b c d n : Nat} (ha : a < 4) (hc : c < 4) (hb : b + n ≤ H.2.2.1 a) (hd : d + n ≤ H.2.2.1 c) (hH : jyHm H m) (hfx : jfx (fun a _ => a = 128) m m') (h : ∀ x, jL m' 128 x = jmov (40 * c + d) (40 * a + b) n (jL m 128) x) : jyHm (jHm H a b c d n) m' := by
  intro x hx
  obtain ⟨h1, h2, h3, h4, h5⟩ := hH x hx
  have hc2 := (hH c hc).2.1
  have ha2 := (hH a ha).2.1
  refine ⟨by rw [hfx.I (by omega)]; exact h1, h2, h3, fun e => by rw [hfx.I (by omega), hfx.I (by omega)]; exact h4 e, fun y hy => ?_⟩
  have hy : y < H.2.2.1 x := hy
  show _ = if x = c ∧ d ≤ y ∧ y < d + n then H.2.2.2 a (b + (y - d)) else H.2.2.2 x y
  rw [h]
  unfold jmov
  by_cases e : x = c ∧ d ≤ y ∧ y < d + n
  · obtain ⟨e1, e2, e3⟩ := e
    subst e1
    rw [if_pos (show x = x ∧ d ≤ y ∧ y < d + n from ⟨rfl, e2, e3⟩), if_pos (by omega), show 40 * a + b + (40 * x + y - (40 * x + d)) = 40 * a + (b + (y - d)) by omega]
    exact (hH a ha).2.2.2.2 _ (by omega)
  · rw [if_neg e, if_neg (by
      by_cases ex : x = c
      · subst ex
        omega
      · omega)]
    exact h5 y hy
def jcpy (H : jHt) (x1 x2 x3 x4 x5 : Int32) : Int32 × jHt := if (jin x1 4 && jin x3 4) = true then (if (H.1 x1.toNatClampNeg && H.1 x3.toNatClampNeg) = true then (if H.2.1 x1.toNatClampNeg = H.2.1 x3.toNatClampNeg then (if (decide (0 ≤ x5) && (decide (0 ≤ x2) && decide (0 ≤ x4))) = true ∧ x2.toNatClampNeg + x5.toNatClampNeg ≤ H.2.2.1 x1.toNatClampNeg ∧ x4.toNatClampNeg + x5.toNatClampNeg ≤ H.2.2.1 x3.toNatClampNeg then (x5, jHm H x1.toNatClampNeg x2.toNatClampNeg x3.toNatClampNeg x4.toNatClampNeg x5.toNatClampNeg) else (-12, H)) else (-13, H)) else (-11, H)) else (-2, H)
theorem y_copy (hF : 100 < F) {H : jHt} {m : jMe} (hL : jLM m) (hH : jyHm H m) {x1 x2 x3 x4 x5 : Int32} : ∃ m', c_X10_copy F m 101 x1 x2 x3 x4 x5 = some ((jcpy H x1 x2 x3 x4 x5).1, m') ∧ jfx (fun a _ => a = 128) m m' ∧ jyHm (jcpy H x1 x2 x3 x4 x5).2 m' := by
  unfold c_X10_copy jcpy
  rw [y_isSheet, jb_some, y_isSheet, jb_some]
  cases e1 : jin x1 4 with
  | false => exact ⟨m, rfl, jfx.rfl, hH⟩
  | true =>
    cases e2 : jin x3 4 with
    | false => exact ⟨m, rfl, jfx.rfl, hH⟩
    | true =>
      obtain ⟨a, rfl, ha1, ha4⟩ := jin_nat e1
      obtain ⟨c, rfl, hc1, hc4⟩ := jin_nat e2
      obtain ⟨a1, a2, a3, a4, a5⟩ := hH a ha4
      obtain ⟨c1, c2, c3, c4, c5⟩ := hH c hc4
      rw [if_neg (show ¬ jbi true = 0 by decide), if_neg (show ¬ jbi true = 0 by decide), if_pos (show (true && true) = true from rfl), jgd_t hL.1, jp_125 hL, jgd_t (jk_125 hL), jz_125 hL, jgd_t (ji_int (by omega) ha4), ji_n ha1, ji_n hc1, a1, c1]
      cases e3 : H.1 a with
      | false => exact ⟨m, rfl, jfx.rfl, hH⟩
      | true =>
        rw [if_neg (show ¬ jbi true = 0 by decide), jgd_t (ji_int (by omega) hc4)]
        cases e4 : H.1 c with
        | false => exact ⟨m, rfl, jfx.rfl, hH⟩
        | true =>
          obtain ⟨g1, g2, g3⟩ := a4 e3
          obtain ⟨k1, k2, k3⟩ := c4 e4
          rw [if_neg (show ¬ jbi true = 0 by decide), if_pos (show (true && true) = true from rfl), jp_126 hL, jgd_t (jk_126 hL), jz_126 hL, jgd_t (ji_int (by omega) ha4), jgd_t (ji_int (by omega) hc4), g1, k1]
          by_cases es : H.2.1 a = H.2.1 c
          · rw [if_pos (show Int32.ofNat (H.2.1 a) = Int32.ofNat (H.2.1 c) by rw [es]), if_pos es]
            by_cases n5 : x5 < 0
            · rw [if_pos n5, decide_eq_false (Int32.not_le.mpr n5), Bool.false_and, if_neg (fun h => by cases h.1)]
              exact ⟨m, rfl, jfx.rfl, hH⟩
            obtain ⟨n, rfl, hn⟩ := ji_nat n5
            rw [if_neg n5, decide_eq_true (ji_0le hn), Bool.true_and]
            by_cases n2 : x2 < 0
            · rw [if_pos n2, decide_eq_false (Int32.not_le.mpr n2), Bool.false_and, if_neg (fun h => by cases h.1)]
              exact ⟨m, rfl, jfx.rfl, hH⟩
            obtain ⟨b, rfl, hb⟩ := ji_nat n2
            rw [if_neg n2, decide_eq_true (ji_0le hb), Bool.true_and]
            by_cases n4 : x4 < 0
            · rw [if_pos n4, decide_eq_false (Int32.not_le.mpr n4), if_neg (fun h => by cases h.1)]
              exact ⟨m, rfl, jfx.rfl, hH⟩
            obtain ⟨d, rfl, hd⟩ := ji_nat n4
            rw [if_neg n4, decide_eq_true (ji_0le hd), jp_127 hL, jgd_t (jk_127 hL), jz_127 hL, jgd_t (ji_int (by omega) ha4), jgd_t (ji_int (by omega) hc4), g3, k3, ji_n hn, ji_n hb, ji_n hd]
            by_cases r1 : b + n ≤ H.2.2.1 a
            · rw [if_neg (Int32.not_lt.mpr ((ji_room a2 hn hb).mpr r1))]
              by_cases r2 : d + n ≤ H.2.2.1 c
              · rw [if_pos ((ji_room c2 hn hd).mpr r2), if_pos (show true = true ∧ b + n ≤ H.2.2.1 a ∧ d + n ≤ H.2.2.1 c from ⟨rfl, r1, r2⟩)]
                have up : (40 * c + d ≤ 40 * a + b ∨ 40 * a + b + n ≤ 40 * c + d) → ∃ m', (jb (c_X10_copy_l121 F F m 101 (Int32.ofNat a) (Int32.ofNat b) (Int32.ofNat c) (Int32.ofNat d) (Int32.ofNat n) (0 : Int32) (0 : Int32)) fun e => some (e.2, e.1)) = some (Int32.ofNat n, m') ∧ jfx (fun a _ => a = 128) m m' ∧ jyHm (jHm H a b c d n) m' := fun hov => by
                  obtain ⟨m', q1, q2, q3⟩ := y_copy_up (F := F) (m0 := m) ha4 hc4 (by omega) (by omega) hov n 0 F m (by omega) (by omega) hL (fun x => by unfold jmov; rw [if_neg (by omega)])
                  have q1 : c_X10_copy_l121 F F m 101 (Int32.ofNat a) (Int32.ofNat b) (Int32.ofNat c) (Int32.ofNat d) (Int32.ofNat n) (0 : Int32) (0 : Int32) = _ := q1
                  rw [q1, jb_some]
                  exact ⟨m', rfl, q2, jyHm_m ha4 hc4 r1 r2 hH q2 q3⟩
                by_cases eac : a = c
                · rw [if_pos (show Int32.ofNat a = Int32.ofNat c by rw [eac])]
                  by_cases edb : d ≤ b
                  · rw [if_pos (ji_lep hd hb edb)]
                    exact up (Or.inl (by omega))
                  · rw [if_neg (ji_len hd hb edb)]
                    subst eac
                    obtain ⟨m', q1, q2, q3⟩ := y_copy_dn (F := F) (m0 := m) (b := b) (d := d) (n := n) ha4 (by omega) (by omega) (show b < d by omega) n 0 F m (by omega) (by omega) hL (fun x => by rw [if_neg (by omega)])
                    have q1 : c_X10_copy_l121 F F m 101 (Int32.ofNat a) (Int32.ofNat b) (Int32.ofNat a) (Int32.ofNat d) (Int32.ofNat n) (1 : Int32) (0 : Int32) = _ := q1
                    rw [q1, jb_some]
                    exact ⟨m', rfl, q2, jyHm_m ha4 ha4 r1 r2 hH q2 q3⟩
                · rw [if_neg (ji_eqn (by omega) (by omega) eac)]
                  exact up (by omega)
              · rw [if_neg (fun h => r2 ((ji_room c2 hn hd).mp h)), if_neg (show ¬ (true = true ∧ b + n ≤ H.2.2.1 a ∧ d + n ≤ H.2.2.1 c) from fun h => r2 h.2.2)]
                exact ⟨m, rfl, jfx.rfl, hH⟩
            · rw [if_pos (Int32.not_le.mp (fun h => r1 ((ji_room a2 hn hb).mp h))), if_neg (show ¬ (true = true ∧ b + n ≤ H.2.2.1 a ∧ d + n ≤ H.2.2.1 c) from fun h => r1 h.2.1)]
              exact ⟨m, rfl, jfx.rfl, hH⟩
          · rw [if_neg (ji_eqn (by omega) (by omega) es), if_neg es]
            exact ⟨m, rfl, jfx.rfl, hH⟩
end YCOPY
