/-! what was told, both sides -/
theorem jtlb_c {D : jD} {V V' : Nat → Int64} {n : Nat} {bt : Bool} (h : ∀ i, i < n → V i = V' i) : jtlb D V n bt = jtlb D V' n bt := by
  funext v
  unfold jtlb
  rw [jotr_c (V' := V') n 0 (fun i _ hi => h i (by omega))]
section YTELLS2
variable {F : Nat} {D : jD} {S : jTS}
/-- how many texts, queries -/
def jend (D : jD) (S : jTS) (bt : Bool) : Nat := if bt = true then S.1 else 2 ^ jDn D
theorem jend_le (hDS : jDS D S) {bt : Bool} : jend D S bt ≤ 16 := by
  unfold jend
  cases bt with
  | true =>
    have := hDS.2.1.2.1
    rw [if_pos rfl]
    omega
  | false =>
    rw [if_neg (by decide)]
    exact Nat.pow_le_pow_right (n := 2) (j := 4) (by omega) hDS.1.1
theorem jend_v {bt : Bool} {v : Nat} (h : v < jend D S bt) : if bt = true then v < S.1 else v < 2 ^ jDn D := by
  unfold jend at h
  cases bt with
  | true => rw [if_pos rfl] at h ⊢; exact h
  | false => rw [if_neg (by decide)] at h ⊢; exact h
theorem y_tells_l101 (hF : 1000 < F) (hDS : jDS D S) {bt : Bool} {s n : Nat} (hs : s < 4) (hn : n ≤ 40) {x3 : Int32} {V : Nat → Int64} : ∀ (t v f u : Nat) (m : jMe), v + t = jend D S bt → t < f → jyQ (jEv D bt u) S m → jI m 127 s = Int32.ofNat n → (∀ i, jL m 128 (40 * s + i) = V i) → ∃ m' u', c_X10_tells_l101 F f m 101 (Int32.ofNat s) (if bt = true then 1 else 2) x3 (Int32.ofNat (jbw v (jtlb D V n bt))) (Int32.ofNat v) = some (m', 101, (if bt = true then 1 else 2), x3, Int32.ofNat (jbw (jend D S bt) (jtlb D V n bt))) ∧ jfx jyP2 m m' ∧ jyQ (jEv D bt u') S m' := by
  have he := jend_le (D := D) (S := S) hDS (bt := bt)
  intro t
  induction t with
  | zero =>
    intro v f u m h1 h2 hQ h2s hV
    obtain ⟨f, rfl⟩ := jsucc h2
    have hL := hQ.1.1
    refine ⟨m, u, ?_, jfx.rfl, hQ⟩
    show c_X10_tells_l101_b F _ m _ _ _ _ _ _ = _
    unfold c_X10_tells_l101_b c_X10_tells_j121_l101
    have h3 : jI m 101 3 = Int32.ofNat S.1 := hQ.1.2.2.1.1
    cases bt with
    | true =>
      have h1 : v + 0 = S.1 := h1
      rw [if_pos (show (if true = true then (1 : Int32) else 2) = 1 from rfl), jgd_t hL.1, h3, if_pos (ji_lep (by omega) (by omega) (by omega))]
      show some (m, 101, _, x3, Int32.ofNat (jbw v _)) = some (m, 101, _, x3, Int32.ofNat (jbw S.1 _))
      rw [show v = S.1 by omega]
    | false =>
      have h1 : v + 0 = 2 ^ jDn D := h1
      have h10 : jI m 101 10 = Int32.ofNat (jDn D) := hQ.1.2.1.1
      have hn4 := hDS.1.1
      rw [if_neg (show ¬ (if false = true then (1 : Int32) else 2) = 1 by decide), jgd_t hL.1, h10, jshl_1 (by omega), if_pos (ji_lep (by unfold jend at he; rw [if_neg (by decide)] at he; omega) (by omega) (by omega))]
      show some (m, 101, _, x3, Int32.ofNat (jbw v _)) = some (m, 101, _, x3, Int32.ofNat (jbw (2 ^ jDn D) _))
      rw [show v = 2 ^ jDn D by omega]
  | succ t ih =>
    intro v f u m h1 h2 hQ h2s hV
    obtain ⟨f, rfl⟩ := jsucc h2
    have hL := hQ.1.1
    have hVf : (fun i => jL m 128 (40 * s + i)) = V := funext hV
    obtain ⟨m1, a1, a2, a3, a4, a5⟩ := y_tells_st (F := F) hF hDS (bt := bt) (v := v) hs hn (jend_v (by omega)) hQ h2s (x3 := x3) (B := fun m y0 y1 y2 y3 y4 y5 => c_X10_tells_l101 F f m y0 y1 y2 y3 y4 y5)
    rw [hVf] at a1
    obtain ⟨m', u', b1, b2, b3⟩ := ih (v + 1) f v m1 (by omega) (by omega) a3 a5 (fun i => by rw [a4]; exact hV i)
    refine ⟨m', u', ?_, a2.trans b2, b3⟩
    show c_X10_tells_l101_b F _ m _ _ _ _ _ _ = _
    unfold c_X10_tells_l101_b c_X10_tells_j121_l101
    have h3 : jI m 101 3 = Int32.ofNat S.1 := hQ.1.2.2.1.1
    cases bt with
    | true =>
      have h1 : v + (t + 1) = S.1 := h1
      have h6 := hDS.2.1.2.1
      rw [if_pos (show (if true = true then (1 : Int32) else 2) = 1 from rfl), jgd_t hL.1, h3, if_neg (ji_len (by omega) (by omega) (by omega)), if_pos (show (if true = true then (1 : Int32) else 2) = 1 from rfl)]
      exact Eq.trans a1 b1
    | false =>
      have h1 : v + (t + 1) = 2 ^ jDn D := h1
      have h10 : jI m 101 10 = Int32.ofNat (jDn D) := hQ.1.2.1.1
      have hn4 := hDS.1.1
      rw [if_neg (show ¬ (if false = true then (1 : Int32) else 2) = 1 by decide), jgd_t hL.1, h10, jshl_1 (by omega), if_neg (ji_len (by unfold jend at he; rw [if_neg (by decide)] at he; omega) (by omega) (by omega)), if_neg (show ¬ (if false = true then (1 : Int32) else 2) = 1 by decide), jgd_t hL.1]
      exact Eq.trans a1 b1
theorem y_tells (hF : 1000 < F) (hDS : jDS D S) {H : jHt} {m : jMe} (hQ : jyQ D S m) (hH : jyHm H m) {x1 x2 : Int32} : ∃ m', c_X10_tells F m 101 x1 x2 = some (jtls D H S x1 x2, m') ∧ jfx jyP2 m m' ∧ jyQ D S m' := by
  have hD := hDS.1
  have hL := hQ.1.1
  unfold c_X10_tells jtls
  rw [y_isSheet, jb_some, show c_X10_in F m (Int32.toInt64 x2) (0 : Int64) (2 : Int64) = some (jbi (jbt2 x2 0 2)) from q_in_int (lo := 0) (hi := 2) (by omega) (by omega), jb_some]
  cases e1 : jin x1 4 with
  | false => exact ⟨m, rfl, jfx.rfl, hQ⟩
  | true =>
    obtain ⟨s, rfl, hs2, hs⟩ := jin_nat e1
    rw [if_neg (show ¬ jbi true = 0 by decide), Bool.true_and]
    cases e2 : jbt2 x2 0 2 with
    | false => exact ⟨m, rfl, jfx.rfl, hQ⟩
    | true =>
      obtain ⟨k, rfl, hk2, -, hk⟩ := jbt2_nat e2
      rw [if_neg (show ¬ jbi true = 0 by decide), if_pos (show true = true from rfl), jgd_t hL.1, hQ.1.2.1.2.2.1, ji_n hs2]
      by_cases hq0 : jDq D = 0
      · rw [if_pos ((jDq_0 hD).mpr hq0), if_pos hq0]
        exact ⟨m, rfl, jfx.rfl, hQ⟩
      rw [if_neg (fun h => hq0 ((jDq_0 hD).mp h)), if_neg hq0]
      rcases y_told (F := F) hF hDS (g := jgB D) jgB_iff hQ with ⟨ht, m1, a1, a2, a3, a4⟩ | ⟨ht, m1, a1, a2, a3, a4⟩
      · have hH1 : jyHm H m1 := jyHm_fx a2 (fun a i q1 q2 z => by unfold jyO at z; omega) hH
        have hL1 := a4.1.1
        obtain ⟨k1, k2, k3, k4, k5⟩ := hH1 s hs
        rw [a1, jb_some]
        dsimp only
        rw [if_neg (show ¬ (1 : Int32) = 0 by decide), jgd_t hL1.1, jp_125 hL1, jgd_t (jk_125 hL1), jz_125 hL1, jgd_t (ji_int hs2 hs), k1, if_neg (show ¬ jgB D = true by rw [ht.2]; decide)]
        cases e3 : H.1 s with
        | false => exact ⟨m1, rfl, a2.weak (fun a i q => Or.inl q), a4⟩
        | true =>
          obtain ⟨-, -, l3⟩ := k4 e3
          rw [if_neg (show ¬ jbi true = 0 by decide), if_pos (show true = true from rfl), jp_127 hL1, jgd_t (jk_127 hL1), jz_127 hL1, jgd_t (ji_int hs2 hs), l3]
          by_cases e4 : H.2.2.1 s ≤ 12
          · rw [if_pos (show Int32.ofNat (H.2.2.1 s) ≤ (12 : Int32) from ji_lep (b := 12) (by omega) (by omega) e4), if_pos e4]
            have hV : ∀ i, i < H.2.2.1 s → (fun i => jL m1 128 (40 * s + i)) i = H.2.2.2 s i := fun i hi => k5 i hi
            by_cases k0 : k = 0
            · obtain ⟨m2, b1, b2, b3⟩ := y_firstOther (F := F) hF hDS hq0 hs k2 (H.2.2.1 s) 0 F m1 (by omega) (by omega) a3 l3
              have b1 : c_X10_firstOther F m1 101 (Int32.ofNat s) = some (jotr D (fun i => jL m1 128 (40 * s + i)) (H.2.2.1 s) 0, m2) := b1
              rw [jotr_c (V' := H.2.2.2 s) _ 0 (fun i _ hi => hV i (by omega))] at b1
              rw [if_pos (show Int32.ofNat k = 0 by rw [k0]; rfl), if_pos (show Int32.ofNat k = 0 by rw [k0]; rfl), b1, jb_some]
              exact ⟨m2, rfl, (a2.weak (fun a i q => Or.inl q)).trans (jfx.weak b2 (fun a i q => Or.inl (by unfold jSpp at q; unfold jyO; omega))), jyQ_fx b2 (by unfold jSpp; omega) b3.1.1 a4⟩
            · rw [if_neg (show ¬ Int32.ofNat k = 0 from ji_eqn (b := 0) hk2 (by omega) k0), if_neg (show ¬ Int32.ofNat k = 0 from ji_eqn (b := 0) hk2 (by omega) k0)]
              have h4 : jI m1 101 4 = Int32.ofNat (jDr D) := a4.1.2.1.2.1
              have h14 : jI m1 101 14 = Int32.ofNat (jDq D) := a4.1.2.1.2.2.1
              have hfin : ∀ m2, jyQ (jUr D (jDr D)) S m2 → jyQ D S m2 := fun m2 q => q
              by_cases kk : k = 1
              · obtain ⟨m2, u', b1, b2, b3⟩ := y_tells_l101 (F := F) hF hDS (bt := true) hs k2 (x3 := Int32.ofNat (jDr D)) (V := fun i => jL m1 128 (40 * s + i)) (jend D S true) 0 F (jDr D) m1 (by omega) (by have := jend_le (D := D) (S := S) hDS (bt := true); omega) a4 l3 (fun i => rfl)
                have b1 : c_X10_tells_l101 F F m1 101 (Int32.ofNat s) (1 : Int32) (Int32.ofNat (jDr D)) (0 : Int32) (0 : Int32) = some (m2, 101, 1, Int32.ofNat (jDr D), Int32.ofNat (jbw S.1 (jtlb D (fun i => jL m1 128 (40 * s + i)) (H.2.2.1 s) true))) := b1
                rw [jtlb_c hV] at b1
                have hL2 := b3.1.1
                have h14b : jI (jsI m2 101 4 (Int32.ofNat (jDr D))) 101 14 = Int32.ofNat (jDq D) := by rw [jsI_no (by omega)]; exact b3.1.2.1.2.2.1
                have hR1 : jRf (jUr (jUr D u') (jDr D)) S (jsI m2 101 4 (Int32.ofNat (jDr D))) := jRf_t b3.1
                have hR2 : jRf (jUq (jUr (jUr D u') (jDr D)) (jDq D)) S (jsI (jsI m2 101 4 (Int32.ofNat (jDr D))) 101 14 (Int32.ofNat (jDq D))) := jRf_q hR1
                have hQ3 : jyQ D S (jsI (jsI m2 101 4 (Int32.ofNat (jDr D))) 101 14 (Int32.ofNat (jDq D))) := jyQ_101 b3 hR2 (by rw [jsI_no (by omega), jsI_no (by omega)]) (by rw [jsI_no (by omega), jsI_no (by omega)]) (by rw [jsI_no (by omega), jsI_no (by omega)])
                rw [if_pos (show Int32.ofNat k = 1 by rw [kk]; rfl), if_pos (show Int32.ofNat k = 1 by rw [kk]; rfl), h4, show Int32.ofNat k = 1 by rw [kk]; rfl, b1, jb_some]
                dsimp only
                unfold c_X10_tells_j209 c_X10_tells_j226
                rw [if_pos rfl, jgd_t hL2.1, if_neg (show ¬ (1 : Int32) = 2 by decide), jgd_t hL2.1, jgd_t (show jK (jsI m2 101 4 (Int32.ofNat (jDr D))) 101 = 42 from hL2.1), h14b]
                exact ⟨_, rfl, ((a2.weak (fun a i q => Or.inl q)).trans b2).trans ((jfx_I (S := jyP2) (Or.inr ⟨rfl, Or.inl rfl⟩)).trans (jfx_I (S := jyP2) (Or.inr ⟨rfl, Or.inr rfl⟩))), hQ3⟩
              · obtain ⟨m2, u', b1, b2, b3⟩ := y_tells_l101 (F := F) hF hDS (bt := false) hs k2 (x3 := Int32.ofNat (jDq D)) (V := fun i => jL m1 128 (40 * s + i)) (jend D S false) 0 F (jDq D) m1 (by omega) (by have := jend_le (D := D) (S := S) hDS (bt := false); omega) a4 l3 (fun i => rfl)
                have b1 : c_X10_tells_l101 F F m1 101 (Int32.ofNat s) (2 : Int32) (Int32.ofNat (jDq D)) (0 : Int32) (0 : Int32) = some (m2, 101, 2, Int32.ofNat (jDq D), Int32.ofNat (jbw (2 ^ jDn D) (jtlb D (fun i => jL m1 128 (40 * s + i)) (H.2.2.1 s) false))) := b1
                rw [jtlb_c hV] at b1
                have hL2 := b3.1.1
                have h4b : jI m2 101 4 = Int32.ofNat (jDr D) := b3.1.2.1.2.1
                have hR1 : jRf (jUr (jUq D u') (jDr D)) S (jsI m2 101 4 (Int32.ofNat (jDr D))) := jRf_t b3.1
                have hR2 : jRf (jUq (jUr (jUq D u') (jDr D)) (jDq D)) S (jsI (jsI m2 101 4 (Int32.ofNat (jDr D))) 101 14 (Int32.ofNat (jDq D))) := jRf_q hR1
                have hQ3 : jyQ D S (jsI (jsI m2 101 4 (Int32.ofNat (jDr D))) 101 14 (Int32.ofNat (jDq D))) := jyQ_101 b3 hR2 (by rw [jsI_no (by omega), jsI_no (by omega)]) (by rw [jsI_no (by omega), jsI_no (by omega)]) (by rw [jsI_no (by omega), jsI_no (by omega)])
                have hk3 : k = 2 := by omega
                rw [if_neg (show ¬ Int32.ofNat k = 1 from ji_eqn (b := 1) hk2 (by omega) kk), if_neg (show ¬ Int32.ofNat k = 1 from ji_eqn (b := 1) hk2 (by omega) kk), h14, show Int32.ofNat k = 2 by rw [hk3]; rfl, b1, jb_some]
                dsimp only
                unfold c_X10_tells_j209 c_X10_tells_j226
                rw [if_neg (show ¬ (2 : Int32) = 1 by decide), jgd_t hL2.1, jgd_t hL2.1, if_pos rfl, h4b, jgd_t (show jK (jsI m2 101 4 (Int32.ofNat (jDr D))) 101 = 42 from hL2.1)]
                exact ⟨_, rfl, ((a2.weak (fun a i q => Or.inl q)).trans b2).trans ((jfx_I (S := jyP2) (Or.inr ⟨rfl, Or.inl rfl⟩)).trans (jfx_I (S := jyP2) (Or.inr ⟨rfl, Or.inr rfl⟩))), hQ3⟩
          · rw [if_neg (show ¬ Int32.ofNat (H.2.2.1 s) ≤ (12 : Int32) from ji_len (b := 12) (by omega) (by omega) e4), if_neg e4]
            exact ⟨m1, rfl, a2.weak (fun a i q => Or.inl q), a4⟩
      · have hgt : jgB D = true := by
          cases hgg : jgB D with
          | true => rfl
          | false => exact absurd ⟨hq0, hgg⟩ ht
        rw [a1, jb_some, if_pos rfl, if_pos hgt]
        exact ⟨m1, rfl, a2.weak (fun a i q => Or.inl q), a4⟩
end YTELLS2
