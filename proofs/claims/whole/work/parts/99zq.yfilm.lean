/-! sheets made, films, lots -/
section YSHT
variable {F : Nat} {D : jD} {S : jTS}
theorem q_in_m12 {m : jMe} {x : Int32} : c_X10_in F m (Int32.toInt64 x) (-1 : Int64) (2 : Int64) = some (jbi (decide (x = -1 ∨ jin x 3 = true))) := by
  rw [q_in]
  congr 2
  have e1 : (-1 : Int64).toInt = -1 := rfl
  have e2 : (2 : Int64).toInt = 2 := rfl
  by_cases hx : x < 0
  · have hx2 := Int32.lt_iff_toInt_lt.mp hx
    rw [show (0 : Int32).toInt = 0 from rfl] at hx2
    rw [decide_eq_true (show Int32.toInt64 x ≤ (2 : Int64) from Int64.le_iff_toInt_le.mpr (by rw [Int32.toInt_toInt64, e2]; omega)), Bool.and_true]
    refine decide_eq_decide.mpr ⟨fun h => Or.inl ?_, fun h => ?_⟩
    · have h2 := Int64.le_iff_toInt_le.mp h
      rw [Int32.toInt_toInt64, e1] at h2
      exact Int32.toInt_inj.mp (by rw [show (-1 : Int32).toInt = -1 from rfl]; omega)
    · rcases h with h | h
      · rw [h]
        decide
      · rw [jin_neg hx] at h
        cases h
  · obtain ⟨k, rfl, hk⟩ := ji_nat hx
    rw [jt64 hk, ji_in hk]
    have hk0 : (-1 : Int64) ≤ Int64.ofNat k := Int64.le_trans (show (-1 : Int64) ≤ 0 by decide) (jq_0le (by unfold jMX; omega))
    rw [decide_eq_true hk0, Bool.true_and]
    refine decide_eq_decide.mpr ⟨fun h => Or.inr ?_, fun h => ?_⟩
    · have := (jq_le (b := 2) (by unfold jMX; omega) (by unfold jMX; omega)).mp h
      exact decide_eq_true (by omega)
    · rcases h with h | h
      · exact absurd h (ji_ne1 hk)
      · have := of_decide_eq_true h
        exact (jq_le (b := 2) (by unfold jMX; omega) (by unfold jMX; omega)).mpr (by omega)
theorem y_sheet_l77 {s n : Nat} (hs : s < 4) (hn : n ≤ 40) {t2 : Nat} (ht2 : t2 < 2147483648) : ∀ (t k f : Nat) (m : jMe), k + t = n → t < f → jLM m → ∃ m', c_X10_sheet_l77 F f m 101 (Int32.ofNat s) (Int32.ofNat t2) (Int32.ofNat n) (Int32.ofNat k) = some m' ∧ jfx (fun a _ => a = 128) m m' ∧ jI m' = jI m ∧ ∀ i, jL m' 128 i = if 40 * s + k ≤ i ∧ i < 40 * s + n then 0 else jL m 128 i := by
  intro t
  induction t with
  | zero =>
    intro k f m h1 h2 hL
    obtain ⟨f, rfl⟩ := jsucc h2
    refine ⟨m, ?_, jfx.rfl, rfl, fun i => by rw [if_neg (by omega)]⟩
    show c_X10_sheet_l77_b F _ m _ _ _ _ _ = _
    unfold c_X10_sheet_l77_b
    rw [if_pos (ji_lep (by omega) (by omega) (by omega))]
  | succ t ih =>
    intro k f m h1 h2 hL
    obtain ⟨f, rfl⟩ := jsucc h2
    obtain ⟨m', a1, a2, a4, a3⟩ := ih (k + 1) f (jsL m 128 (40 * s + k) 0) (by omega) (by omega) hL
    refine ⟨m', ?_, (jfx_L (S := fun a _ => a = 128) rfl).trans a2, by rw [a4, jI_sL], fun i => ?_⟩
    · show c_X10_sheet_l77_b F _ m _ _ _ _ _ = _
      unfold c_X10_sheet_l77_b
      rw [if_neg (ji_len (by omega) (by omega) (by omega)), if_neg (ji_ge0 ht2), jgd_t hL.1, jp_128 hL, jgd_t (jk_128 hL), jz_128 hL, show (40 : Int32) * Int32.ofNat s + Int32.ofNat k = Int32.ofNat (40 * s + k) by rw [show (40 : Int32) = Int32.ofNat 40 from rfl, ji_mul, ji_add], jgd_t (ji_int (by omega) (by omega)), ji_n (by omega), show Int32.ofNat k + 1 = Int32.ofNat (k + 1) from ji_add k 1]
      exact a1
    · rw [a3, jsL_g]
      by_cases e : i = 40 * s + k
      · rw [if_neg (by omega), if_pos ⟨rfl, e⟩, if_pos (by omega)]
      · rw [if_neg (show ¬ (128 = 128 ∧ i = 40 * s + k) from fun q => e q.2)]
        by_cases e2 : 40 * s + (k + 1) ≤ i ∧ i < 40 * s + n
        · rw [if_pos e2, if_pos (by omega)]
        · rw [if_neg e2, if_neg (by omega)]
theorem jyHm_b {H : jHt} {m m' : jMe} {s t n : Nat} {b : Bool} {v : Nat → Int64} (hs : s < 4) (hH : jyHm H m) (hx : jfx (fun a i => (125 ≤ a ∧ a ≤ 127 ∧ i = s) ∨ (a = 128 ∧ 40 * s ≤ i ∧ i < 40 * s + 40)) m m') (g1 : jI m' 125 s = jbi b) (hn : n ≤ 40) (hb : b = false → n = 0) (g2 : b = true → jI m' 126 s = Int32.ofNat t ∧ t ≤ 2 ∧ jI m' 127 s = Int32.ofNat n) (hv : ∀ i, i < n → jL m' 128 (40 * s + i) = v i) : jyHm (jHb H s b t n v) m' := by
  intro x hx4
  unfold jHb
  dsimp only
  by_cases e : x = s
  · subst e
    simp only [if_pos (Eq.refl x)]
    exact ⟨g1, hn, hb, g2, hv⟩
  · simp only [if_neg e]
    obtain ⟨k1, k2, k3, k4, k5⟩ := hH x hx4
    exact ⟨by rw [hx.I (by omega)]; exact k1, k2, k3, fun q => ⟨by rw [hx.I (by omega)]; exact (k4 q).1, (k4 q).2.1, by rw [hx.I (by omega)]; exact (k4 q).2.2⟩, fun i hi => by rw [hx.L (by omega)]; exact k5 i hi⟩
theorem jyHm_fx {Q : Nat → Nat → Prop} {H : jHt} {m m' : jMe} (h : jfx Q m m') (hQ : ∀ a i, 125 ≤ a → a ≤ 128 → ¬ Q a i) (k : jyHm H m) : jyHm H m' := by
  intro s hs
  obtain ⟨k1, k2, k3, k4, k5⟩ := k s hs
  exact ⟨by rw [h.I (hQ _ _ (by omega) (by omega))]; exact k1, k2, k3, fun q => ⟨by rw [h.I (hQ _ _ (by omega) (by omega))]; exact (k4 q).1, (k4 q).2.1, by rw [h.I (hQ _ _ (by omega) (by omega))]; exact (k4 q).2.2⟩, fun i hi => by rw [h.L (hQ _ _ (by omega) (by omega))]; exact k5 i hi⟩
theorem y_sheet_j59 (hF : 1000 < F) {H : jHt} {m : jMe} (hL : jLM m) (hH : jyHm H m) {s : Nat} (hs : s < 4) {b : Bool} {x2 x3 : Int32} {t n : Nat} (hb : (b = true ∧ x2 = Int32.ofNat t ∧ t ≤ 2 ∧ x3 = Int32.ofNat n ∧ n ≤ 40) ∨ (b = false ∧ x2 < 0 ∧ t = 0 ∧ n = 0)) : ∃ m', c_X10_sheet_j59 F m 101 (Int32.ofNat s) x2 x3 (jbi b) (Int32.ofNat s) 125 = some (1, m') ∧ jfx (fun a _ => 125 ≤ a ∧ a ≤ 128) m m' ∧ jyHm (jHb H s b t n (fun _ => 0)) m' := by
  have hv : vp_nar .boolean (jbi b) = jbi b := by
    cases b
    · exact jvn_0
    · exact jvn_1
  unfold c_X10_sheet_j59
  simp only [jP_sI, jp_126 hL, jp_127 hL, hv, jgd_t (jk_125 hL), jgd_t (jk_126 hL), jgd_t (jk_127 hL), jgd_t hL.1, jz_125 hL, jz_126 hL, jz_127 hL, jgd_t (show jin (Int32.ofNat s) 4 = true from ji_int (by omega) hs), ji_n (show s < 2147483648 by omega), jlet_m]
  generalize hm1 : jsI (jsI (jsI m 125 s (jbi b)) 126 s x2) 127 s x3 = m1
  have hx1 : jfx (fun a i => (125 ≤ a ∧ a ≤ 127 ∧ i = s) ∨ (a = 128 ∧ 40 * s ≤ i ∧ i < 40 * s + 40)) m m1 := by
    rw [← hm1]
    exact ((jfx_I (S := fun a i => (125 ≤ a ∧ a ≤ 127 ∧ i = s) ∨ (a = 128 ∧ 40 * s ≤ i ∧ i < 40 * s + 40)) (by omega)).trans (jfx_I (by omega))).trans (jfx_I (by omega))
  have g1 : jI m1 125 s = jbi b := by rw [← hm1, jsI_no (by omega), jsI_no (by omega), jsI_y]
  have g2 : jI m1 126 s = x2 := by rw [← hm1, jsI_no (by omega), jsI_y]
  have g3 : jI m1 127 s = x3 := by rw [← hm1, jsI_y]
  have hL1 := jLM_fx hx1 hL
  rcases hb with ⟨rfl, rfl, ht, rfl, hn⟩ | ⟨rfl, hx, rfl, rfl⟩
  · obtain ⟨m', a1, a2, a4, a3⟩ := y_sheet_l77 (F := F) hs hn (t2 := t) (by omega) n 0 F m1 (by omega) (by omega) hL1
    have a1 : c_X10_sheet_l77 F F m1 101 (Int32.ofNat s) (Int32.ofNat t) (Int32.ofNat n) (0 : Int32) = some m' := a1
    have hx2 : jfx (fun a i => (125 ≤ a ∧ a ≤ 127 ∧ i = s) ∨ (a = 128 ∧ 40 * s ≤ i ∧ i < 40 * s + 40)) m1 m' := by
      refine ⟨a2.1, a2.2.1, a2.K, a2.Z, a2.P, fun a i q => ?_, fun a i q => ?_⟩
      · rw [a4]
      · by_cases e : a = 128
        · subst e
          rw [a3, if_neg (by omega)]
        · exact a2.L e
    rw [a1, jb_some]
    exact ⟨m', rfl, (hx1.weak (fun a i q => by omega)).trans (hx2.weak (fun a i q => by omega)), jyHm_b hs hH (hx1.trans hx2) (by rw [a4]; exact g1) hn (fun q => by cases q) (fun _ => ⟨by rw [a4]; exact g2, ht, by rw [a4]; exact g3⟩) (fun i hi => by rw [a3, if_pos (by omega)])⟩
  · have a1 : c_X10_sheet_l77 F F m1 101 (Int32.ofNat s) x2 x3 (0 : Int32) = some m1 := by
      obtain ⟨f, hf⟩ := jsucc (show 0 < F by omega)
      have : ∀ G, c_X10_sheet_l77 G (f + 1) m1 101 (Int32.ofNat s) x2 x3 (0 : Int32) = some m1 := fun G => by
        show c_X10_sheet_l77_b G _ m1 _ _ _ _ _ = _
        unfold c_X10_sheet_l77_b
        rw [if_pos hx, ite_self]
      rw [← hf] at this
      exact this F
    rw [a1, jb_some]
    exact ⟨m1, rfl, hx1.weak (fun a i q => by omega), jyHm_b hs hH hx1 g1 (by omega) (fun _ => rfl) (fun q => by cases q) (fun i hi => absurd hi (Nat.not_lt_zero i))⟩
end YSHT
