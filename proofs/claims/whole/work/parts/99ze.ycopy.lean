/-! items copied, as the reference does it -/
section YCOPY
variable {F : Nat} {D : jD} {S : jTS}
/-- items moved from q on to p on, n of them -/
def jmov (p q n : Nat) (g : Nat → Int64) (x : Nat) : Int64 := if p ≤ x ∧ x < p + n then g (q + (x - p)) else g x
theorem y_copy_up {m0 : jMe} {a b c d n : Nat} (ha : a < 4) (hc : c < 4) (hb : b + n ≤ 40) (hd : d + n ≤ 40) (hov : 40 * c + d ≤ 40 * a + b ∨ 40 * a + b + n ≤ 40 * c + d) : ∀ (t k f : Nat) (m : jMe), k + t = n → t < f → jLM m → (∀ x, jL m 128 x = jmov (40 * c + d) (40 * a + b) k (jL m0 128) x) → ∃ m', c_X10_copy_l121 F f m 101 (Int32.ofNat a) (Int32.ofNat b) (Int32.ofNat c) (Int32.ofNat d) (Int32.ofNat n) (0 : Int32) (Int32.ofNat k) = some (m', Int32.ofNat n) ∧ jfx (fun a _ => a = 128) m m' ∧ ∀ x, jL m' 128 x = jmov (40 * c + d) (40 * a + b) n (jL m0 128) x := by
  intro t
  induction t with
  | zero =>
    intro k f m h1 h2 hL hm
    obtain ⟨f, rfl⟩ := jsucc h2
    refine ⟨m, ?_, jfx.rfl, fun x => by rw [hm x, show k = n by omega]⟩
    show c_X10_copy_l121_b F _ m _ _ _ _ _ _ _ _ = _
    unfold c_X10_copy_l121_b
    rw [if_pos (ji_lep (by omega) (by omega) (by omega))]
  | succ t ih =>
    intro k f m h1 h2 hL hm
    obtain ⟨f, rfl⟩ := jsucc h2
    show ∃ m', c_X10_copy_l121_b F _ m _ _ _ _ _ _ _ _ = _ ∧ _
    unfold c_X10_copy_l121_b c_X10_copy_j145_l121
    rw [if_neg (ji_len (by omega) (by omega) (by omega)), if_pos (show (0 : Int32) = 0 from rfl), jgd_t hL.1, jp_128 hL, jgd_t (jk_128 hL), jz_128 hL, show (40 : Int32) = Int32.ofNat 40 from rfl, ji_mul, ji_mul, ji_add, ji_add, ji_add, ji_add, jgd_t (ji_int (by omega) (by omega)), jgd_t (ji_int (by omega) (by omega)), ji_n (by omega), ji_n (by omega), show Int32.ofNat k + 1 = Int32.ofNat (k + 1) from ji_add k 1]
    have hv : jL m 128 (40 * a + b + k) = jL m0 128 (40 * a + b + k) := by
      rw [hm]
      unfold jmov
      rw [if_neg (by omega)]
    rw [hv]
    have fx : jfx (fun a _ => a = 128) m (jsL m 128 (40 * c + d + k) (jL m0 128 (40 * a + b + k))) := jfx_L rfl
    obtain ⟨m', a1, a2, a3⟩ := ih (k + 1) f (jsL m 128 (40 * c + d + k) (jL m0 128 (40 * a + b + k))) (by omega) (by omega) (jLM_fx fx hL) (fun x => by
      rw [jsL_g, hm]
      unfold jmov
      by_cases e : x = 40 * c + d + k
      · rw [if_pos ⟨rfl, e⟩, if_pos (by omega), e, show 40 * a + b + (40 * c + d + k - (40 * c + d)) = 40 * a + b + k by omega]
      · rw [if_neg (fun h => e h.2)]
        by_cases e2 : 40 * c + d ≤ x ∧ x < 40 * c + d + k
        · rw [if_pos e2, if_pos (by omega)]
        · rw [if_neg e2, if_neg (by omega)])
    exact ⟨m', a1, fx.trans a2, a3⟩
theorem y_copy_dn {m0 : jMe} {a b d n : Nat} (ha : a < 4) (hb : b + n ≤ 40) (hd : d + n ≤ 40) (hov : b < d) : ∀ (t k f : Nat) (m : jMe), k + t = n → t < f → jLM m → (∀ x, jL m 128 x = if 40 * a + d + (n - k) ≤ x ∧ x < 40 * a + d + n then jL m0 128 (40 * a + b + (x - (40 * a + d))) else jL m0 128 x) → ∃ m', c_X10_copy_l121 F f m 101 (Int32.ofNat a) (Int32.ofNat b) (Int32.ofNat a) (Int32.ofNat d) (Int32.ofNat n) (1 : Int32) (Int32.ofNat k) = some (m', Int32.ofNat n) ∧ jfx (fun a _ => a = 128) m m' ∧ ∀ x, jL m' 128 x = jmov (40 * a + d) (40 * a + b) n (jL m0 128) x := by
  intro t
  induction t with
  | zero =>
    intro k f m h1 h2 hL hm
    obtain ⟨f, rfl⟩ := jsucc h2
    refine ⟨m, ?_, jfx.rfl, fun x => ?_⟩
    · show c_X10_copy_l121_b F _ m _ _ _ _ _ _ _ _ = _
      unfold c_X10_copy_l121_b
      rw [if_pos (ji_lep (by omega) (by omega) (by omega))]
    · rw [hm x]
      unfold jmov
      rw [show n - k = 0 by omega, Nat.add_zero]
  | succ t ih =>
    intro k f m h1 h2 hL hm
    obtain ⟨f, rfl⟩ := jsucc h2
    show ∃ m', c_X10_copy_l121_b F _ m _ _ _ _ _ _ _ _ = _ ∧ _
    unfold c_X10_copy_l121_b c_X10_copy_j145_l121
    rw [if_neg (ji_len (by omega) (by omega) (by omega)), if_neg (show ¬ (1 : Int32) = 0 by decide), jgd_t hL.1, jp_128 hL, jgd_t (jk_128 hL), jz_128 hL, show Int32.ofNat k + 1 = Int32.ofNat (k + 1) from ji_add k 1, show Int32.ofNat n - 1 = Int32.ofNat (n - 1) from by rw [show (1 : Int32) = Int32.ofNat 1 from rfl, ji_sub (by omega)], ji_sub (by omega), show (40 : Int32) = Int32.ofNat 40 from rfl, ji_mul, ji_add, ji_add, ji_add, ji_add, jgd_t (ji_int (by omega) (by omega)), jgd_t (ji_int (by omega) (by omega)), ji_n (by omega), ji_n (by omega)]
    have hv : jL m 128 (40 * a + b + (n - 1 - k)) = jL m0 128 (40 * a + b + (n - 1 - k)) := by
      rw [hm, if_neg (by omega)]
    rw [hv]
    have fx : jfx (fun a _ => a = 128) m (jsL m 128 (40 * a + d + (n - 1 - k)) (jL m0 128 (40 * a + b + (n - 1 - k)))) := jfx_L rfl
    obtain ⟨m', a1, a2, a3⟩ := ih (k + 1) f (jsL m 128 (40 * a + d + (n - 1 - k)) (jL m0 128 (40 * a + b + (n - 1 - k)))) (by omega) (by omega) (jLM_fx fx hL) (fun x => by
      rw [jsL_g, hm]
      by_cases e : x = 40 * a + d + (n - 1 - k)
      · rw [if_pos ⟨rfl, e⟩, if_pos (by omega), e, show 40 * a + b + (40 * a + d + (n - 1 - k) - (40 * a + d)) = 40 * a + b + (n - 1 - k) by omega]
      · rw [if_neg (fun h => e h.2)]
        by_cases e2 : 40 * a + d + (n - k) ≤ x ∧ x < 40 * a + d + n
        · rw [if_pos e2, if_pos (by omega)]
        · rw [if_neg e2, if_neg (by omega)])
    exact ⟨m', a1, fx.trans a2, a3⟩
end YCOPY
