/-! weights of one relation's rows -/
theorem jpre_s {D : jD} {r k n : Nat} : jpre D r k (n + 1) = jpre D r k n * (if jkid D n r = true then jS1 D r k n else 1) := by
  unfold jpre
  rw [jprd_s, Nat.mul_assoc]
theorem jWg_st {D : jD} {root : Nat} (hT : jTre (jDa D) (jdK D) root (jpar D) (jord D)) : ∀ (n : Nat) (pre : List Nat) (r : Nat) (post : List Nat), pre.length ≤ n → jord D = pre ++ r :: post → ∀ (f f' k : Nat), n < f → n < f' → jWg D f r k = jWg D f' r k := by
  intro n
  induction n with
  | zero =>
    intro pre r post h1 h2 f f' k h3 h4
    obtain ⟨f, rfl⟩ := jsucc h3
    obtain ⟨f', rfl⟩ := jsucc h4
    have hp : pre = [] := List.eq_nil_of_length_eq_zero (by omega)
    subst hp
    unfold jWg
    have : ∀ c, c < 4 → jkid D c r = false := by
      intro c hc
      cases e : jkid D c r with
      | false => rfl
      | true =>
        unfold jkid at e
        rw [Bool.and_eq_true, beq_iff_eq] at e
        exact absurd (jTr_kid hT h2 hc e.1 e.2) (by simp)
    rw [jprd_c (fun c hc => ?_)]
    rw [this c hc, if_neg (by decide), if_neg (by decide)]
  | succ n ih =>
    intro pre r post h1 h2 f f' k h3 h4
    obtain ⟨f, rfl⟩ := jsucc (show 0 < f by omega)
    obtain ⟨f', rfl⟩ := jsucc (show 0 < f' by omega)
    unfold jWg
    rw [jprd_c (fun c hc => ?_)]
    by_cases e : jkid D c r = true
    · rw [if_pos e, if_pos e]
      refine jsum_c (fun m hm => ?_)
      unfold jkid at e
      rw [Bool.and_eq_true, beq_iff_eq] at e
      have hc' := jTr_kid hT h2 hc e.1 e.2
      obtain ⟨p1, p2, e2⟩ := List.append_of_mem hc'
      subst e2
      rw [ih p1 c (p2 ++ r :: post) (by simp at h1; omega) (by rw [h2]; simp) f f' m (by omega) (by omega)]
    · rw [if_neg e, if_neg e]
theorem jord_le {D : jD} {root : Nat} (hT : jTre (jDa D) (jdK D) root (jpar D) (jord D)) : (jord D).length ≤ 4 := by
  have h : (jord D) ⊆ List.range 4 := fun x hx => List.mem_range.mpr ((hT.2.1 x).mp hx).1
  have := List.Nodup.length_le_of_subset hT.1 h
  rw [List.length_range] at this
  exact this
theorem jW1_e {D : jD} {root : Nat} (hT : jTre (jDa D) (jdK D) root (jpar D) (jord D)) {r : Nat} (hr : r ∈ jord D) (k : Nat) : jW1 D r k = if jpb D r k = true then jpre D r k 4 else 0 := by
  obtain ⟨pre, post, e⟩ := List.append_of_mem hr
  have hlen := jord_le hT
  rw [e] at hlen
  simp only [List.length_append, List.length_cons] at hlen
  unfold jW1
  rw [show jWg D 4 r k = if jpb D r k = true then jwth D r k * jprd 4 (fun c => if jkid D c r = true then jsum (jDz D c) (fun m => if jmt D r k c m = true then jWg D 3 c m else 0) else 1) else 0 from rfl]
  by_cases q : jpb D r k = true
  · rw [if_pos q, if_pos q]
    unfold jpre
    rw [jprd_c (fun c hc => ?_)]
    by_cases e2 : jkid D c r = true
    · rw [if_pos e2, if_pos e2]
      unfold jS1 jW1
      refine jsum_c (fun m hm => ?_)
      unfold jkid at e2
      rw [Bool.and_eq_true, beq_iff_eq] at e2
      obtain ⟨p1, p2, e3⟩ := List.append_of_mem (jTr_kid hT e hc e2.1 e2.2)
      subst e3
      simp only [List.length_append, List.length_cons] at hlen
      rw [jWg_st hT p1.length p1 c (p2 ++ r :: post) (Nat.le_refl _) (by rw [e]; simp) 3 4 m (by omega) (by omega)]
    · rw [if_neg e2, if_neg e2]
  · rw [if_neg q, if_neg q]
/-- what may change as rows of one are weighed -/
def jSw (b : Nat) : Nat → Prop := fun a => a = b ∨ a = b + 6 ∨ a = b + 8
def jfw (b : Nat) (m m' : jMe) : Prop := jfr (jSw b) m m' ∧ (∀ k, k ≠ 5 → jI m' b k = jI m b k) ∧ jL m' b = jL m b
theorem jfw.rfl {b : Nat} {m : jMe} : jfw b m m := ⟨jfr.rfl, fun _ _ => Eq.refl _, Eq.refl _⟩
theorem jfw.trans {b : Nat} {m m' m'' : jMe} (h : jfw b m m') (k : jfw b m' m'') : jfw b m m'' := ⟨h.1.trans k.1, fun j hj => (k.2.1 j hj).trans (h.2.1 j hj), k.2.2.trans h.2.2⟩
theorem jfg_w {b : Nat} {m m' : jMe} (h : jfg b m m') : jfw b m m' := ⟨h.1.weak (fun a h => Or.inl h), h.2.1, by rw [h.2.2]⟩
theorem jsL_w {b a i : Nat} {m : jMe} {x : Int64} (h : a = b + 6 ∨ a = b + 8) : jfw b m (jsL m a i x) := ⟨jsL_f (S := jSw b) (by unfold jSw; omega), fun _ _ => Eq.refl _, jsL_n (by omega)⟩
/-- weights of a relation's rows are as they are thought of -/
def jWd (D : jD) (b : Nat) (m : jMe) (r : Nat) : Prop := ∀ k, k < jDz D r → jL m (b + 6) (r * 8 + k) = Int64.ofNat (jW1 D r k) ∧ jW1 D r k ≤ jMX
section WEIGH
variable {F b : Nat} {D : jD}
theorem jS1_e {m : jMe} {r k c : Nat} (hC : jCr D m r) (hk : k < jDz D r) : jsum (jDz D c) (fun x => if jmg D c x (fun a => (jDa D r).testBit a) (jnb (jI m (jrv r) k)) = true then jW1 D c x else 0) = jS1 D r k c := by
  unfold jS1 jmt
  refine jsum_c (fun x hx => ?_)
  rw [jmg_c (fun a _ => rfl) (fun a ha => ((hC.2.2.2.2.2 k hk).1 a (by omega)))]
theorem q_weigh_l42 (hF : 100 < F) {r k : Nat} (hr : r < 4) (hk : k < jDz D r) (hw : jwth D r k ≤ jMX) (hq : jDq D < 16) : ∀ (t c f : Nat) (m : jMe) (v : Int64) (g : Bool), c + t = 4 → t < f → jIn D b m → (∀ x, x < 4 → jI m (b + 1 + 2) x = Int32.ofNat (jkidw (jdP D).1 x)) → jI m b 5 = jbi g → (g = false → (∀ c, c < 4 → jkid D c r = true → jWd D b m c) ∧ v = Int64.ofNat (jpre D r k c) ∧ jpre D r k c ≤ jMX ∧ (∀ x, x < c → jkid D x r = true → jS1 D r k x ≤ jMX ∧ jpre D r k (x + 1) ≤ jMX ∧ jL m (b + 8) ((r * 8 + k) * 4 + x) = Int64.ofNat (jS1 D r k x))) → ∃ m' v' g', c_X2_weigh_l42 F f m b (Int32.ofNat r) (Int32.ofNat k) v (Int32.ofNat c) = some (m', b, Int32.ofNat r, Int32.ofNat k, v') ∧ jfw b m m' ∧ jL m' (b + 6) = jL m (b + 6) ∧ (∀ i, (∀ x, x < 4 → i ≠ (r * 8 + k) * 4 + x) → jL m' (b + 8) i = jL m (b + 8) i) ∧ jI m' b 5 = jbi g' ∧ (g' = false → g = false ∧ v' = Int64.ofNat (jpre D r k 4) ∧ jpre D r k 4 ≤ jMX ∧ (∀ x, x < 4 → jkid D x r = true → jS1 D r k x ≤ jMX ∧ jpre D r k (x + 1) ≤ jMX ∧ jL m' (b + 8) ((r * 8 + k) * 4 + x) = Int64.ofNat (jS1 D r k x))) ∧ (g' = true → g = true ∨ ∃ x, x < 4 ∧ jkid D x r = true ∧ (jMX < jS1 D r k x ∨ jMX < jpre D r k (x + 1))) := by
  intro t
  induction t with
  | zero =>
    intro c f m v g h1 h2 hI hkid hg hv
    obtain ⟨f, rfl⟩ := jsucc h2
    have hc4 : c = 4 := by omega
    subst hc4
    refine ⟨m, v, g, ?_, jfw.rfl, rfl, fun _ _ => rfl, hg, fun h => ⟨h, (hv h).2⟩, fun h => Or.inl h⟩
    show c_X2_weigh_l42_b F _ m _ _ _ _ _ = _
    unfold c_X2_weigh_l42_b
    rw [jl_4, if_pos (ji_lep (by omega) (by omega) (by omega))]
  | succ t ih =>
    intro c f m v g h1 h2 hI hkid hg hv
    obtain ⟨f, rfl⟩ := jsucc h2
    have hI0 := hI
    obtain ⟨i1, i2, i3, i4, i5, i6⟩ := hI
    have hz := (i6 r hr).2.2.1
    obtain ⟨r1, r2⟩ := i3.2.2 r hr
    have hlt := i1.2.2.2.2.2.2.2.2.2.2.2.2.2.2.2.2.2.2
    have hst : ∀ z, (if jbi (jkid D c r) = 0 then c_X2_weigh_l42 F f m b (Int32.ofNat r) (Int32.ofNat k) v (Int32.ofNat (c + 1)) else jb (c_X2_sumOf F m b (Int32.ofNat c) (jI m (jrv r) k) (jI m (jrc r) 4)) fun t29 => jgd (jK t29.2 b = 34) <| jgd (jK t29.2 (jP t29.2 b 3) = 2) <| jgd (jin (Int32.ofNat ((r * 8 + k) * 4 + c)) (jZ t29.2 (jP t29.2 b 3)) = true) <| jb (c_X2_times F (jsL t29.2 (jP t29.2 b 3) ((r * 8 + k) * 4 + c) t29.1) b v t29.1) fun t34 => c_X2_weigh_l42 F f t34.2 b (Int32.ofNat r) (Int32.ofNat k) t34.1 (Int32.ofNat (c + 1))) = z → c_X2_weigh_l42 F (f + 1) m b (Int32.ofNat r) (Int32.ofNat k) v (Int32.ofNat c) = z := by
      intro z h
      rw [← h]
      show c_X2_weigh_l42_b F _ m _ _ _ _ _ = _
      unfold c_X2_weigh_l42_b
      rw [jl_4, if_neg (ji_len (by omega) (by omega) (by omega)), jgd_t i1.1, i1.2.1, jgd_t hlt.1, hlt.2.2.1, jgd_t hlt.2.2.2.2.2.2.2.1, hlt.2.2.2.2.2.2.2.2.1, jgd_t (ji_int (by omega) hr), ji_n (by omega), hkid r hr, q_isIn (by omega) (by have := jkidw_16 hq (r := r); omega), jb_some, jkid_w hq (by omega), i2, jgd_t i3.1, i3.2.1, jgd_t (ji_int (by omega) hr), r1, jgd_t r2.1, r2.2.1, jgd_t r2.2.2.2.1, r2.2.2.2.2.1, jgd_t (ji_int (by omega) (by omega)), jgd_t (ji_int (by omega) hr), ji_n (by omega), jl_8, ji_mul, ji_add, ji_mul, ji_add, show Int32.ofNat c + 1 = Int32.ofNat (c + 1) from ji_add c 1, ji_n (by omega)]
    cases ek : jkid D c r with
    | false =>
      obtain ⟨m', v', g', y1, y2⟩ := ih (c + 1) f m v g (by omega) (by omega) hI0 hkid hg (fun h => by
        obtain ⟨v1, v2, v3, v4⟩ := hv h
        rw [jpre_s, ek, if_neg (by decide), Nat.mul_one]
        refine ⟨v1, v2, v3, fun x hx hx2 => ?_⟩
        rcases Nat.lt_succ_iff_lt_or_eq.mp hx with hx | rfl
        · exact v4 x hx hx2
        · rw [ek] at hx2
          cases hx2)
      refine ⟨m', v', g', hst _ ?_, y2⟩
      rw [ek, if_pos (by decide)]
      exact y1
    | true =>
      obtain ⟨m1, v1, g1, a1, a2, a3, a4, a5⟩ := q_sumOf hF (show c < 4 by omega) (i5 r hr).2.2.1 (g0 := jI m (jrv r) k) (w := jW1 D c) hI0 hg (fun h x hx _ => (hv h).1 c (by omega) ek x hx)
      rw [jS1_e (i5 r hr) hk] at a4 a5
      have hI1 : jIn D b m1 := jIn_fr (S := (· = b)) (fun a ha => by omega) a2.1 hI0
      have hK1 : jK (jsL m1 (b + 8) ((r * 8 + k) * 4 + c) v1) b = 34 := hI1.1.1
      have hg2 : jI (jsL m1 (b + 8) ((r * 8 + k) * 4 + c) v1) b 5 = jbi g1 := a3
      have hfw1 : jfw b m (jsL m1 (b + 8) ((r * 8 + k) * 4 + c) v1) := (jfg_w a2).trans (jsL_w (Or.inr rfl))
      have hst2 : ∀ z, (jb (c_X2_times F (jsL m1 (b + 8) ((r * 8 + k) * 4 + c) v1) b v v1) fun t34 => c_X2_weigh_l42 F f t34.2 b (Int32.ofNat r) (Int32.ofNat k) t34.1 (Int32.ofNat (c + 1))) = z → c_X2_weigh_l42 F (f + 1) m b (Int32.ofNat r) (Int32.ofNat k) v (Int32.ofNat c) = z := by
        intro z h
        refine hst z ?_
        rw [← h, ek, if_neg (by decide), a1, jb_some]
        dsimp only
        obtain ⟨j1, -, -, -, j5, -, -, -, -, -, -, -, j13, -⟩ := hI1.1
        rw [jgd_t j1, j5, jgd_t j13.1, j13.2, jgd_t (ji_int (by omega) (by omega))]
      have ht : ∃ v2 g2, c_X2_times F (jsL m1 (b + 8) ((r * 8 + k) * 4 + c) v1) b v v1 = some (v2, jsI (jsL m1 (b + 8) ((r * 8 + k) * 4 + c) v1) b 5 (jbi g2)) ∧ (g2 = false → g1 = false ∧ v2 = Int64.ofNat (jpre D r k (c + 1)) ∧ jpre D r k (c + 1) ≤ jMX) ∧ (g2 = true → g1 = true ∨ jMX < jpre D r k (c + 1)) := by
        cases g1 with
        | true => exact ⟨0, true, q_times_t hK1 hg2, (fun h => by cases h), fun _ => Or.inl rfl⟩
        | false =>
          obtain ⟨b1, b2, b3⟩ := a4 rfl
          obtain ⟨-, v2, v3, -⟩ := hv b1
          have hp := q_times (F := F) hK1 hg2 v3 b3
          have hs : jpre D r k (c + 1) = jpre D r k c * jS1 D r k c := by rw [jpre_s, ek, if_pos rfl]
          rw [← hs, Bool.false_or, ← v2, ← b2] at hp
          refine ⟨_, _, hp, fun h => ?_, fun h => Or.inr (of_decide_eq_true h)⟩
          rw [h]
          have h := of_decide_eq_false h
          exact ⟨rfl, by rw [if_neg (by decide)], by omega⟩
      obtain ⟨v2, g2, t1, t2, t3⟩ := ht
      rw [t1] at hst2
      generalize hm2 : jsI (jsL m1 (b + 8) ((r * 8 + k) * 4 + c) v1) b 5 (jbi g2) = m2 at hst2
      have hfw2 : jfw b m m2 := by
        rw [← hm2]
        exact hfw1.trans (jfg_w jfg_5)
      have hL2 : jL m2 = jL (jsL m1 (b + 8) ((r * 8 + k) * 4 + c) v1) := by
        rw [← hm2]
        rfl
      have hL6 : jL m2 (b + 6) = jL m (b + 6) := by
        rw [hL2, jsL_n (by omega), a2.2.2]
      have hL8 : jL m2 (b + 8) = jupd (jL m (b + 8)) ((r * 8 + k) * 4 + c) v1 := by
        rw [hL2, jsL_e, a2.2.2]
      have hI2 : jIn D b m2 := jIn_fr (S := jSw b) (fun a ha => by unfold jSw at ha; omega) hfw2.1 hI0
      obtain ⟨m', v', g', y1, y2, y3, y4, y5, y6, y7⟩ := ih (c + 1) f m2 v2 g2 (by omega) (by omega) hI2 (fun x hx => by rw [hfw2.1.2.2.2.2.2.1 _ (by unfold jSw; omega)]; exact hkid x hx) (by rw [← hm2, jsI_e, jupd_e]) (fun h => by
        obtain ⟨u1, u2, u3⟩ := t2 h
        obtain ⟨b1, b2, b3⟩ := a4 u1
        obtain ⟨x1, x2, x3, x4⟩ := hv b1
        refine ⟨fun c' hc' hk' => ?_, u2, u3, fun x hx hx2 => ?_⟩
        · unfold jWd
          rw [hL6]
          exact x1 c' hc' hk'
        · rw [hL8]
          by_cases e : x = c
          · subst e
            rw [jupd_e]
            exact ⟨b3, u3, b2⟩
          · rw [jupd_n (by omega)]
            exact x4 x (by omega) hx2)
      refine ⟨m', v', g', hst2 _ y1, hfw2.trans y2, y3.trans hL6, fun i hi => ?_, y5, fun h => ?_, fun h => ?_⟩
      · rw [y4 i hi, hL8, jupd_n (hi c (by omega))]
      · obtain ⟨z1, z2⟩ := y6 h
        exact ⟨(a4 (t2 z1).1).1, z2⟩
      · rcases y7 h with h | h
        · rcases t3 h with h | h
          · rcases a5 h with h | h
            · exact Or.inl h
            · exact Or.inr ⟨c, by omega, ek, Or.inl h⟩
          · exact Or.inr ⟨c, by omega, ek, Or.inr h⟩
        · exact Or.inr h
end WEIGH
