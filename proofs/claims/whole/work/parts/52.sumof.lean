/-! a join at b: its cells; what it reads -/
def jLJ (m : jMe) (b : Nat) : Prop := jK m b = 34 ∧ jP m b 0 = b + 1 ∧ jP m b 1 = b + 6 ∧ jP m b 2 = b + 7 ∧ jP m b 3 = b + 8 ∧ jP m b 4 = b + 9 ∧ jP m b 8 = b + 10 ∧ jP m b 9 = b + 11 ∧ jP m b 10 = b + 12 ∧ jP m b 11 = b + 13 ∧ (jK m (b + 6) = 2 ∧ jZ m (b + 6) = 32) ∧ (jK m (b + 7) = 2 ∧ jZ m (b + 7) = 4) ∧ (jK m (b + 8) = 2 ∧ jZ m (b + 8) = 128) ∧ (jK m (b + 9) = 2 ∧ jZ m (b + 9) = 32) ∧ jK m (b + 10) = 32 ∧ (jK m (b + 11) = 1 ∧ jZ m (b + 11) = 4) ∧ (jK m (b + 12) = 1 ∧ jZ m (b + 12) = 4) ∧ (jK m (b + 13) = 2 ∧ jZ m (b + 13) = 4) ∧ jLT m (b + 1)
def jLR (m : jMe) : Prop := jK m 33 = 5 ∧ jZ m 33 = 4 ∧ ∀ r, r < 4 → jP m 33 r = jrc r ∧ jLr m r
theorem jLJ_of {m m' : jMe} {b : Nat} (hK : jK m' = jK m) (hZ : jZ m' = jZ m) (hP : ∀ k, k ≠ 12 → jP m' b k = jP m b k) (hP2 : jP m' (b + 1) = jP m (b + 1)) (h : jLJ m b) : jLJ m' b := by
  unfold jLJ jLT at h ⊢
  rw [hK, hZ, hP2, hP 0 (by omega), hP 1 (by omega), hP 2 (by omega), hP 3 (by omega), hP 4 (by omega), hP 8 (by omega), hP 9 (by omega), hP 10 (by omega), hP 11 (by omega)]
  exact h
theorem jLR_of {m m' : jMe} (hK : jK m' = jK m) (hZ : jZ m' = jZ m) (hP : ∀ a, (a = 33 ∨ (77 ≤ a ∧ a ≤ 88)) → jP m' a = jP m a) (h : jLR m) : jLR m' := by
  unfold jLR jLr at h ⊢
  rw [hK, hZ, hP 33 (Or.inl rfl)]
  refine ⟨h.1, h.2.1, fun r hr => ?_⟩
  have := h.2.2 r hr
  rw [hP (jrc r) (Or.inr (by unfold jrc; omega))]
  exact this
/-- what a join at b reads, and D -/
def jIn (D : jD) (b : Nat) (m : jMe) : Prop := jLJ m b ∧ jP m b 12 = 33 ∧ jLR m ∧ (jLs m ∧ (33 < b ∧ b < 64)) ∧ (∀ r, r < 4 → jCr D m r) ∧ (∀ r, r < 4 → jDR D r)
theorem jIn_of {D : jD} {b : Nat} {m m' : jMe} (hK : jK m' = jK m) (hZ : jZ m' = jZ m) (hP : jP m' = jP m) (hI : ∀ a, (a = 1 ∨ (77 ≤ a ∧ a ≤ 88)) → jI m' a = jI m a) (h : jIn D b m) : jIn D b m' := by
  obtain ⟨h1, h2, h3, h4, h5, h6⟩ := h
  refine ⟨jLJ_of hK hZ (fun k _ => by rw [hP]) (by rw [hP]) h1, by rw [hP, h2], jLR_of hK hZ (fun a _ => by rw [hP]) h3, ?_, fun r hr => jCr_of (hI _ (Or.inr (by unfold jrc; omega))) (hI _ (Or.inr (by unfold jrv; omega))) (hI _ (Or.inr (by unfold jrk; omega))) (h5 r hr), h6⟩
  unfold jLs at h4 ⊢
  rw [hK, hZ, hI 1 (Or.inl rfl)]
  exact h4
theorem jIn_fr {D : jD} {b : Nat} {m m' : jMe} {S : Nat → Prop} (hS : ∀ a, S a → b ≤ a ∧ a ≤ b + 13) (h : jfr S m m') (k : jIn D b m) : jIn D b m' := by
  have hb := k.2.2.2.1.2
  exact jIn_of h.2.2.1 h.2.2.2.1 h.2.2.2.2.1 (fun a ha => h.2.2.2.2.2.1 a (fun q => by have := hS a q; omega)) k
/-- only whether it is great may change -/
def jfg (b : Nat) (m m' : jMe) : Prop := jfr (· = b) m m' ∧ (∀ k, k ≠ 5 → jI m' b k = jI m b k) ∧ jL m' = jL m
theorem jfg.rfl {b : Nat} {m : jMe} : jfg b m m := ⟨jfr.rfl, fun _ _ => Eq.refl _, Eq.refl _⟩
theorem jfg.trans {b : Nat} {m m' m'' : jMe} (h : jfg b m m') (k : jfg b m' m'') : jfg b m m'' := ⟨h.1.trans k.1, fun j hj => (k.2.1 j hj).trans (h.2.1 j hj), k.2.2.trans h.2.2⟩
theorem jfg_5 {b : Nat} {m : jMe} {x : Int32} : jfg b m (jsI m b 5 x) := ⟨jsI_f (S := (· = b)) (Eq.refl _), fun k hk => by rw [jsI_e, jupd_n hk], Eq.refl _⟩
theorem jmg_c {D : jD} {r k : Nat} {S S' : Nat → Bool} {g g' : Nat → Nat} (h : ∀ a, a < 6 → S a = S' a) (h2 : ∀ a, a < 6 → g a = g' a) : jmg D r k S g = jmg D r k S' g' := by
  rw [Bool.eq_iff_iff, jmg_iff, jmg_iff]
  constructor
  · intro q a ha h3 h4
    rw [← h2 a ha]
    exact q a ha h3 (by rw [h a ha]; exact h4)
  · intro q a ha h3 h4
    rw [h2 a ha]
    exact q a ha h3 (by rw [← h a ha]; exact h4)
section SUMOF
variable {F b : Nat} {D : jD}
theorem q_plus_t {m : jMe} (hL : jK m b = 34) (hg : jI m b 5 = 1) {x y : Int64} : c_X2_plus F m b x y = some (0, jsI m b 5 1) := by
  unfold c_X2_plus
  rw [jgd_t hL, hg, if_neg (show ¬ (1 : Int32) = 0 by decide)]
  exact (q_plus_j23 (t := true) hL).trans (by rw [if_pos rfl]; rfl)
theorem q_times_t {m : jMe} (hL : jK m b = 34) (hg : jI m b 5 = 1) {x y : Int64} : c_X2_times F m b x y = some (0, jsI m b 5 1) := by
  unfold c_X2_times
  rw [jgd_t hL, hg, if_neg (show ¬ (1 : Int32) = 0 by decide)]
  exact (q_times_j29 (t := true) hL).trans (by rw [if_pos rfl]; rfl)
theorem q_sumOf_l6 {c : Nat} (hc : c < 4) {g0 gs : Int32} {S : Nat → Bool} (hgs : ∀ a, a < 8 → jnb gs a = if S a then 15 else 0) {w : Nat → Nat} : ∀ (t k f : Nat) (m : jMe) (v : Int64) (g : Bool), k + t = jDz D c → t < f → jIn D b m → jI m b 5 = jbi g → (g = false → (∀ k, k < jDz D c → jmg D c k S (jnb g0) = true → jL m (b + 6) (c * 8 + k) = Int64.ofNat (w k) ∧ w k ≤ jMX) ∧ v = Int64.ofNat (jsum k (fun k => if jmg D c k S (jnb g0) = true then w k else 0)) ∧ jsum k (fun k => if jmg D c k S (jnb g0) = true then w k else 0) ≤ jMX) → ∃ m' v' g', c_X2_sumOf_l6 F f m b (Int32.ofNat c) g0 gs v (Int32.ofNat k) = some (m', v') ∧ jfg b m m' ∧ jI m' b 5 = jbi g' ∧ (g' = false → g = false ∧ v' = Int64.ofNat (jsum (jDz D c) (fun k => if jmg D c k S (jnb g0) = true then w k else 0)) ∧ jsum (jDz D c) (fun k => if jmg D c k S (jnb g0) = true then w k else 0) ≤ jMX) ∧ (g' = true → g = true ∨ jMX < jsum (jDz D c) (fun k => if jmg D c k S (jnb g0) = true then w k else 0)) := by
  intro t
  induction t with
  | zero =>
    intro k f m v g h1 h2 hI hg hv
    obtain ⟨f, rfl⟩ := jsucc h2
    obtain ⟨i1, i2, i3, i4, i5, i6⟩ := hI
    have hk : k = jDz D c := by omega
    subst hk
    have hz := (i6 c hc).2.2.1
    obtain ⟨r1, r2⟩ := i3.2.2 c hc
    refine ⟨m, v, g, ?_, jfg.rfl, hg, fun h => ⟨h, (hv h).2⟩, fun h => Or.inl h⟩
    show c_X2_sumOf_l6_b F _ m _ _ _ _ _ _ = _
    unfold c_X2_sumOf_l6_b
    rw [jgd_t i1.1, i2, jgd_t i3.1, i3.2.1, jgd_t (ji_int (by omega) hc), ji_n (by omega), r1, jgd_t r2.1, (i5 c hc).2.2.2.1, if_pos (ji_lep (by omega) (by omega) (by omega))]
  | succ t ih =>
    intro k f m v g h1 h2 hI hg hv
    obtain ⟨f, rfl⟩ := jsucc h2
    have hI0 := hI
    obtain ⟨i1, i2, i3, i4, i5, i6⟩ := hI
    have hz := (i6 c hc).2.2.1
    obtain ⟨r1, r2⟩ := i3.2.2 c hc
    have hst : ∀ z, (if jbi (jmg D c k S (jnb g0)) = 0 then c_X2_sumOf_l6 F f m b (Int32.ofNat c) g0 gs v (Int32.ofNat (k + 1)) else jb (c_X2_plus F m b v (jL m (b + 6) (c * 8 + k))) fun t13 => c_X2_sumOf_l6 F f t13.2 b (Int32.ofNat c) g0 gs t13.1 (Int32.ofNat (k + 1))) = z → c_X2_sumOf_l6 F (f + 1) m b (Int32.ofNat c) g0 gs v (Int32.ofNat k) = z := by
      intro z h
      rw [← h]
      show c_X2_sumOf_l6_b F _ m _ _ _ _ _ _ = _
      unfold c_X2_sumOf_l6_b
      rw [jgd_t i1.1, i2, jgd_t i3.1, i3.2.1, jgd_t (ji_int (by omega) hc), ji_n (by omega), r1, jgd_t r2.1, (i5 c hc).2.2.2.1, if_neg (ji_len (by omega) (by omega) (by omega)), jgd_t (ji_int (by omega) hc), q_matches r2 (i6 c hc) (i5 c hc) (by omega) hgs, jb_some, i1.2.2.1, jgd_t i1.2.2.2.2.2.2.2.2.2.2.1.1, i1.2.2.2.2.2.2.2.2.2.2.1.2, jl_8, ji_mul, ji_add, jgd_t (ji_int (by omega) (by omega)), ji_n (by omega), show Int32.ofNat k + 1 = Int32.ofNat (k + 1) from ji_add k 1]
    cases em : jmg D c k S (jnb g0) with
    | false =>
      obtain ⟨m', v', g', y1, y2⟩ := ih (k + 1) f m v g (by omega) (by omega) hI0 hg (fun h => by
        refine ⟨(hv h).1, ?_⟩
        rw [jsum_s, em, if_neg (by decide), Nat.add_zero]
        exact (hv h).2)
      refine ⟨m', v', g', hst _ ?_, y2⟩
      rw [em, if_pos (by decide)]
      exact y1
    | true =>
      cases g with
      | true =>
        have hp := q_plus_t (F := F) (x := v) (y := jL m (b + 6) (c * 8 + k)) i1.1 hg
        obtain ⟨m', v', g', y1, y2, y3, y4, y5⟩ := ih (k + 1) f (jsI m b 5 1) 0 true (by omega) (by omega) (jIn_fr (S := (· = b)) (fun a ha => by omega) jfg_5.1 hI0) (by rw [jsI_e, jupd_e]; rfl) (fun h => by cases h)
        refine ⟨m', v', g', hst _ ?_, jfg_5.trans y2, y3, fun h => absurd (y4 h).1 (by decide), fun _ => Or.inl rfl⟩
        rw [em, if_neg (by decide), hp, jb_some]
        exact y1
      | false =>
        obtain ⟨w1, w2, w3⟩ := hv rfl
        obtain ⟨w4, w5⟩ := w1 k (by omega) em
        have hp := q_plus (F := F) i1.1 hg w3 w5
        have hs : jsum (k + 1) (fun k => if jmg D c k S (jnb g0) = true then w k else 0) = jsum k (fun k => if jmg D c k S (jnb g0) = true then w k else 0) + w k := by
          rw [jsum_s, em, if_pos rfl]
        rw [Bool.false_or] at hp
        obtain ⟨m', v', g', y1, y2, y3, y4, y5⟩ := ih (k + 1) f (jsI m b 5 (jbi (decide (jMX < jsum k (fun k => if jmg D c k S (jnb g0) = true then w k else 0) + w k)))) (if decide (jMX < jsum k (fun k => if jmg D c k S (jnb g0) = true then w k else 0) + w k) = true then 0 else Int64.ofNat (jsum k (fun k => if jmg D c k S (jnb g0) = true then w k else 0) + w k)) (decide (jMX < jsum k (fun k => if jmg D c k S (jnb g0) = true then w k else 0) + w k)) (by omega) (by omega) (jIn_fr (S := (· = b)) (fun a ha => by omega) jfg_5.1 hI0) (by rw [jsI_e, jupd_e]) (fun h => by
          rw [h, hs]
          have h := of_decide_eq_false h
          exact ⟨w1, by rw [if_neg (by decide)], by omega⟩)
        refine ⟨m', v', g', hst _ ?_, jfg_5.trans y2, y3, fun h => ⟨rfl, (y4 h).2⟩, fun h => Or.inr ?_⟩
        · rw [em, if_neg (by decide), w2, w4, hp, jb_some]
          exact y1
        · rcases y5 h with h | h
          · have h := of_decide_eq_true h
            rw [← hs] at h
            exact Nat.lt_of_lt_of_le h (jsum_mono (by omega))
          · exact h
theorem q_sumOf (hF : 100 < F) {c : Nat} (hc : c < 4) {g0 gs : Int32} {S : Nat → Bool} (hgs : ∀ a, a < 8 → jnb gs a = if S a then 15 else 0) {w : Nat → Nat} {m : jMe} {g : Bool} (hI : jIn D b m) (hg : jI m b 5 = jbi g) (hv : g = false → ∀ k, k < jDz D c → jmg D c k S (jnb g0) = true → jL m (b + 6) (c * 8 + k) = Int64.ofNat (w k) ∧ w k ≤ jMX) : ∃ m' v' g', c_X2_sumOf F m b (Int32.ofNat c) g0 gs = some (v', m') ∧ jfg b m m' ∧ jI m' b 5 = jbi g' ∧ (g' = false → g = false ∧ v' = Int64.ofNat (jsum (jDz D c) (fun k => if jmg D c k S (jnb g0) = true then w k else 0)) ∧ jsum (jDz D c) (fun k => if jmg D c k S (jnb g0) = true then w k else 0) ≤ jMX) ∧ (g' = true → g = true ∨ jMX < jsum (jDz D c) (fun k => if jmg D c k S (jnb g0) = true then w k else 0)) := by
  have hz := (hI.2.2.2.2.2 c hc).2.2.1
  obtain ⟨m', v', g', y1, y2⟩ := q_sumOf_l6 (F := F) hc hgs (w := w) (jDz D c) 0 F m 0 g (by omega) (by omega) hI hg (fun h => ⟨hv h, rfl, Nat.zero_le _⟩)
  refine ⟨m', v', g', ?_, y2⟩
  unfold c_X2_sumOf
  rw [show (0 : Int32) = Int32.ofNat 0 from rfl, y1, jb_some]
end SUMOF
