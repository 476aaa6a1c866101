/-! numbers below, as the class draws them -/
section BELOW
variable {F b : Nat}
theorem q_xbit {m : jMe} {z : Int32} (hK : jK m b = 32) (hz : jI m b 0 = z) : c_X0_bit F m b = some (Int32.ofNat (jb1 (jnx z)), jsI m b 0 (jnx z)) := by
  unfold c_X0_bit
  rw [jgd_t hK, hz, jsI_e, jupd_e, jb1_e]
  unfold jnx
  exact Eq.refl _
theorem q_below_l2 {m : jMe} {n : Nat} (hn : n ≤ jMX) (h1 : 1 ≤ n) : ∀ (t s f : Nat), s + t = 63 → t < f → c_X0_below_l2 F f m b (Int64.ofNat n) (Int32.ofNat s) = some (m, b, Int64.ofNat n, Int32.ofNat (jbn (n - 1) t s)) := by
  intro t
  induction t with
  | zero =>
    intro s f h2 h3
    obtain ⟨f, rfl⟩ := jsucc h3
    show c_X0_below_l2_b F _ m _ _ _ = _
    unfold c_X0_below_l2_b
    rw [jl_63, if_pos (ji_lep (by omega) (by omega) (by omega))]
    unfold jbn
    exact Eq.refl _
  | succ t ih =>
    intro s f h2 h3
    obtain ⟨f, rfl⟩ := jsucc h3
    have hnm : n < 9223372036854775808 := by unfold jMX at hn; omega
    have hd : (n - 1) / 2 ^ s ≤ jMX := Nat.le_trans (Nat.div_le_self _ _) (by omega)
    have hc : lg_cmp (Int64.ofNat ((n - 1) / 2 ^ s)) (0 : Int64) = 0 ↔ (n - 1) / 2 ^ s = 0 := by
      rw [jc_eq0, show (0 : Int64) = Int64.ofNat 0 from rfl, jq_eq hd (Nat.zero_le _)]
    have ih := ih (s + 1) f (by omega) (by omega)
    show c_X0_below_l2_b F _ m _ _ _ = _
    unfold c_X0_below_l2_b
    rw [jl_63, if_neg (ji_len (by omega) (by omega) (by omega)), show (1 : Int64) = Int64.ofNat 1 from rfl, jq_sub h1, jlushr_of (by omega) (by omega), show Int32.ofNat s + 1 = Int32.ofNat (s + 1) from ji_add s 1]
    unfold jbn
    by_cases e : (n - 1) / 2 ^ s = 0
    · rw [if_pos (hc.mpr e), if_pos e]
    · rw [if_neg (fun h => e (hc.mp h)), if_neg e]
      exact ih
theorem q_below_l43 {n s tr : Nat} (hs : s ≤ 63) : ∀ (t i f v : Nat) (m : jMe) (z : Int32), i + t = s → t < f → jK m b = 32 → jI m b 0 = z → v < 2 ^ i → ∃ m', c_X0_below_l43 F f m b (Int64.ofNat n) (Int32.ofNat s) (Int64.ofNat v) (Int32.ofNat tr) (Int32.ofNat i) = some (m', b, Int64.ofNat n, Int32.ofNat s, Int64.ofNat (jbs jnx jb1 t z v).1, Int32.ofNat tr) ∧ jfr (· = b) m m' ∧ jL m' = jL m ∧ jI m' b 0 = (jbs jnx jb1 t z v).2 := by
  intro t
  induction t with
  | zero =>
    intro i f v m z h1 h2 hK hz hv
    obtain ⟨f, rfl⟩ := jsucc h2
    refine ⟨m, ?_, jfr.rfl, rfl, ?_⟩
    · show c_X0_below_l43_b F _ m _ _ _ _ _ _ = _
      unfold c_X0_below_l43_b
      rw [if_pos (ji_lep (by omega) (by omega) (by omega))]
      unfold jbs
      exact Eq.refl _
    · unfold jbs
      exact hz
  | succ t ih =>
    intro i f v m z h1 h2 hK hz hv
    obtain ⟨f, rfl⟩ := jsucc h2
    have h62 := jp2 (i := i) (j := 62) (by omega)
    have hx := q_xbit (F := F) hK hz
    have hb := jb1_le (jnx z)
    rw [jbs_s]
    have ih := fun (v' : Nat) (m' : jMe) => ih (i + 1) f v' m' (jnx z)
    generalize jnx z = z1 at hx hb ih ⊢
    generalize jb1 z1 = c at hx hb ⊢
    have hv2 : 2 * v + c < 2 ^ (i + 1) := by
      rw [Nat.pow_succ]
      omega
    obtain ⟨m', y1, y2, y3, y4⟩ := ih (2 * v + c) (jsI m b 0 z1) (by omega) (by omega) hK (by rw [jsI_e, jupd_e]) hv2
    refine ⟨m', ?_, (jsI_f (S := (· = b)) rfl).trans y2, by rw [y3, jL_sI], y4⟩
    show c_X0_below_l43_b F _ m _ _ _ _ _ _ = _
    unfold c_X0_below_l43_b
    rw [if_neg (ji_len (by omega) (by omega) (by omega)), jgd_t hK, hx, jb_some]
    dsimp only
    rw [jshl1 (by omega) hb, show Int32.ofNat i + 1 = Int32.ofNat (i + 1) from ji_add i 1]
    exact y1
theorem q_below_l30 (hF : 1000 < F) {n s : Nat} (hs : s ≤ 63) (hn : n ≤ jMX) : ∀ (t k f v : Nat) (m : jMe) (z : Int32), k + t = 30 → t < f → v ≤ jMX → jK m b = 32 → jI m b 0 = z → ∃ m' zz, c_X0_below_l30 F f m b (Int64.ofNat n) (Int32.ofNat s) (Int64.ofNat v) (Int32.ofNat k) = some zz ∧ jfr (· = b) m m' ∧ jL m' = jL m ∧ jI m' b 0 = (jbe jnx jb1 n s t z v).2 ∧ (zz = .inl (Int64.ofNat (jbe jnx jb1 n s t z v).1, m') ∨ ∃ v', zz = .inr (m', Int64.ofNat n, Int64.ofNat v') ∧ (jbe jnx jb1 n s t z v).1 = v' % n ∧ v' ≤ jMX) := by
  intro t
  induction t with
  | zero =>
    intro k f v m z h1 h2 hv hK hz
    obtain ⟨f, rfl⟩ := jsucc h2
    refine ⟨m, .inr (m, Int64.ofNat n, Int64.ofNat v), ?_, jfr.rfl, rfl, ?_, Or.inr ⟨v, rfl, ?_, hv⟩⟩
    · show c_X0_below_l30_b F _ m _ _ _ _ _ = _
      unfold c_X0_below_l30_b
      rw [show (30 : Int32) = Int32.ofNat 30 from rfl, if_pos (ji_lep (by omega) (by omega) (by omega))]
    · unfold jbe
      exact hz
    · unfold jbe
      exact Eq.refl _
  | succ t ih =>
    intro k f v m z h1 h2 hv hK hz
    obtain ⟨f, rfl⟩ := jsucc h2
    obtain ⟨m1, a1, a2, a3, a4⟩ := q_below_l43 (F := F) (b := b) (n := n) (s := s) (tr := k) hs s 0 F 0 m z (by omega) (by omega) hK hz (by omega)
    have a1 : c_X0_below_l43 F F m b (Int64.ofNat n) (Int32.ofNat s) (0 : Int64) (Int32.ofNat k) (0 : Int32) = _ := a1
    have hl := jbs_lt (nx := jnx) (bt := jb1) jb1_le s z 0
    have h63 := jp2 (i := s) (j := 63) hs
    have hvm : (jbs jnx jb1 s z 0).1 ≤ jMX := by
      rw [Nat.zero_add, Nat.one_mul] at hl
      generalize (jbs jnx jb1 s z 0).1 = w at hl ⊢
      unfold jMX
      omega
    have hK1 : jK m1 b = 32 := by rw [a2.2.2.1]; exact hK
    have ih := fun (v' : Nat) (m' : jMe) (z' : Int32) => ih (k + 1) f v' m' z'
    have he : jbe jnx jb1 n s (t + 1) z v = if (jbs jnx jb1 s z 0).1 < n then jbs jnx jb1 s z 0 else jbe jnx jb1 n s t (jbs jnx jb1 s z 0).2 (jbs jnx jb1 s z 0).1 := by
      rw [jbe]
    rw [he]
    generalize jbs jnx jb1 s z 0 = w at a1 a4 hvm ⊢
    obtain ⟨w, z'⟩ := w
    dsimp only at a1 a4 hvm ⊢
    have hcmp : 0 ≤ lg_cmp (Int64.ofNat w) (Int64.ofNat n) ↔ ¬ w < n := by
      rw [jc_0le, jq_le hn hvm]
      omega
    have hst : ∀ y, (if 0 ≤ lg_cmp (Int64.ofNat w) (Int64.ofNat n) then c_X0_below_l30 F f m1 b (Int64.ofNat n) (Int32.ofNat s) (Int64.ofNat w) (Int32.ofNat (k + 1)) else some (.inl (Int64.ofNat w, m1))) = y → c_X0_below_l30 F (f + 1) m b (Int64.ofNat n) (Int32.ofNat s) (Int64.ofNat v) (Int32.ofNat k) = y := by
      intro y h
      rw [← h]
      show c_X0_below_l30_b F _ m _ _ _ _ _ = _
      unfold c_X0_below_l30_b
      rw [show (30 : Int32) = Int32.ofNat 30 from rfl, if_neg (ji_len (by omega) (by omega) (by omega)), a1, jb_some]
      dsimp only
      rw [show Int32.ofNat k + 1 = Int32.ofNat (k + 1) from ji_add k 1]
    by_cases e : w < n
    · rw [if_pos e]
      refine ⟨m1, .inl (Int64.ofNat w, m1), hst _ ?_, a2, a3, a4, Or.inl rfl⟩
      rw [if_neg (fun h => hcmp.mp h e)]
    · rw [if_neg e]
      obtain ⟨m', zz, y1, y2, y3, y4⟩ := ih w m1 z' (by omega) (by omega) hvm hK1 a4
      refine ⟨m', zz, hst _ ?_, a2.trans y2, by rw [y3, a3], y4⟩
      rw [if_pos (hcmp.mpr e)]
      exact y1
theorem q_below (hF : 1000 < F) {n : Nat} (hn : n ≤ jMX) (h1 : 1 ≤ n) {m : jMe} {z : Int32} (hK : jK m b = 32) (hz : jI m b 0 = z) : ∃ m', c_X0_below F m b (Int64.ofNat n) = some (Int64.ofNat (jbelow n z).1, m') ∧ jfr (· = b) m m' ∧ jL m' = jL m ∧ jI m' b 0 = (jbelow n z).2 := by
  have a1 := q_below_l2 (F := F) (b := b) (m := m) hn h1 63 0 F (by omega) (by omega)
  have a1 : c_X0_below_l2 F F m b (Int64.ofNat n) (0 : Int32) = _ := a1
  have hs := (jbn_le (x := n - 1) 63 0).2
  unfold jbelow
  generalize jbn (n - 1) 63 0 = s at a1 hs ⊢
  obtain ⟨m', zz, y1, y2, y3, y4, y5⟩ := q_below_l30 (F := F) (b := b) (n := n) (s := s) hF (by omega) hn 30 0 F 0 m z (by omega) (by omega) (Nat.zero_le _) hK hz
  have y1 : c_X0_below_l30 F F m b (Int64.ofNat n) (Int32.ofNat s) (0 : Int64) (0 : Int32) = _ := y1
  refine ⟨m', ?_, y2, y3, y4⟩
  unfold c_X0_below
  rw [a1, jb_some]
  dsimp only
  rw [y1]
  rcases y5 with h | ⟨v', h, h3, h4⟩
  · rw [h, jb2_l]
  · rw [h, jb2_r, h3]
    dsimp only
    have hne : ¬ Int64.ofNat n = 0 := fun h => by
      have := (jq_eq hn (Nat.zero_le _)).mp h
      omega
    rw [if_neg (fun h => by
      have h : lg_cmp (Int64.ofNat n) (Int64.ofNat 0) ≤ 0 := h
      rw [jc_le0, jq_le hn (Nat.zero_le _)] at h
      omega), jgd_t hne, jq_rem h4 hn h1]
end BELOW
