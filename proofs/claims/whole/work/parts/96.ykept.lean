/-! KEPT, PARENTS, CHILDREN, as the reference tells them -/
theorem jbw_st {p : Nat → Bool} {n : Nat} : jbw (n + 1) p = if p n = true then jbw n p ||| 2 ^ n else jbw n p := by
  show jbw n p ||| (if p n = true then 2 ^ n else 0) = _
  by_cases h : p n = true
  · rw [if_pos h, if_pos h]
  · rw [if_neg h, if_neg h, Nat.or_zero]
section YKEPT
variable {F : Nat} {A : Nat → Nat} {D : jD}
theorem y_isTree_l104 {s : Nat} (hs : s < 16) : ∀ (t a f x : Nat) (m : jMe), a + t = 4 → t < f → jLM m → jI m 101 29 = Int32.ofNat x → x < 4 → ∃ m' y, c_X10_isTree_l104 F f m 101 (Int32.ofNat s) (Int32.ofNat a) = some (m', 101) ∧ jfx (fun a i => a = 101 ∧ i = 29) m m' ∧ jI m' 101 29 = Int32.ofNat y ∧ y < 4 ∧ (∀ r, a ≤ r → r < 4 → s = 2 ^ r → y = r) ∧ ((∀ r, a ≤ r → r < 4 → s ≠ 2 ^ r) → y = x) := by
  intro t
  induction t with
  | zero =>
    intro a f x m h1 h2 hL hx hx4
    obtain ⟨f, rfl⟩ := jsucc h2
    refine ⟨m, x, ?_, jfx.rfl, hx, hx4, fun r h3 h4 => by omega, fun _ => rfl⟩
    show c_X10_isTree_l104_b F _ m _ _ _ = _
    unfold c_X10_isTree_l104_b
    rw [if_pos (show (4 : Int32) ≤ Int32.ofNat a from ji_lep (a := 4) (by omega) (by omega) (by omega))]
  | succ t ih =>
    intro a f x m h1 h2 hL hx hx4
    obtain ⟨f, rfl⟩ := jsucc h2
    have hp : ∀ a, a < 4 → 2 ^ a < 16 := by decide
    have hpa := hp a (by omega)
    have hst : ∀ z, (c_X10_isTree_l104 F f (jsI m 101 29 (Int32.ofNat (if s = 2 ^ a then a else x))) 101 (Int32.ofNat s) (Int32.ofNat (a + 1))) = z → c_X10_isTree_l104 F (f + 1) m 101 (Int32.ofNat s) (Int32.ofNat a) = z := by
      intro z h
      rw [← h]
      show c_X10_isTree_l104_b F _ m _ _ _ = _
      unfold c_X10_isTree_l104_b c_X10_isTree_j125_l104
      simp only [jgd_t hL.1]
      rw [if_neg (show ¬ (4 : Int32) ≤ Int32.ofNat a from ji_len (a := 4) (by omega) (by omega) (by omega)), jshl_1 (by omega), hx, jl_1, ji_add]
      by_cases e : s = 2 ^ a
      · rw [if_pos (by rw [e]), if_pos e]
      · rw [if_neg (ji_eqn (by omega) (by omega) e), if_neg e]
    have f1 : jfx (fun a i => a = 101 ∧ i = 29) m (jsI m 101 29 (Int32.ofNat (if s = 2 ^ a then a else x))) := jfx_I ⟨rfl, rfl⟩
    obtain ⟨m', y, b1, b2, b3, b4, b5, b6⟩ := ih (a + 1) f (if s = 2 ^ a then a else x) _ (by omega) (by omega) (jLM_fx f1 hL) jsI_y (by split <;> omega)
    refine ⟨m', y, hst _ b1, f1.trans b2, b3, b4, fun r h3 h4 h5 => ?_, fun h => ?_⟩
    · by_cases e : r = a
      · subst e
        rw [b6 (fun r' h6 h7 h8 => by
          have : 2 ^ r < 2 ^ r' := Nat.pow_lt_pow_right (by omega) (by omega)
          omega), if_pos h5]
      · exact b5 r (by omega) h4 h5
    · rw [b6 (fun r h3 h4 => h r (by omega) h4), if_neg (h a (Nat.le_refl _) (by omega))]
/-- behind a tree is told: what is known of parents, of the root -/
theorem y_isTree (hF : 100 < F) {s x : Nat} (hs : s < 16) {m : jMe} (hA : jyA A m) (hx : jI m 101 29 = Int32.ofNat x) (hx4 : x < 4) : ∃ m' y, c_X10_isTree F m 101 (Int32.ofNat s) = some (jbi (jplant A 3 s).isSome, m') ∧ jyFt m m' ∧ jI m' 101 29 = Int32.ofNat y ∧ y < 4 ∧ ∀ p, jplant A 3 s = some p → (∀ q, q ∈ p.1 → q.1 ≠ y → jI m' 113 q.1 = Int32.ofNat q.2) ∧ (∀ r, r < 4 → p.2 = 2 ^ r → y = r) ∧ jI m' 113 y = -1 := by
  have hp4 : jpop 8 s ≤ 4 := by
    have : ∀ s : Fin 16, jpop 8 s.1 ≤ 4 := by decide +kernel
    exact this ⟨_, hs⟩
  obtain ⟨z, a1, a2⟩ := y_isTree_l2 (F := F) (A := A) hF 3 s F m hs hp4 (by omega) hA
  unfold c_X10_isTree
  rw [a1]
  cases h : jplant A 3 s with
  | none =>
    rw [h] at a2
    obtain ⟨m', rfl, b2, b3⟩ := a2
    exact ⟨m', x, rfl, b2, by rw [b3, hx], hx4, fun p h => by cases h⟩
  | some p =>
    rw [h] at a2
    obtain ⟨m1, rfl, b2, b3, b4, b5⟩ := a2
    have hA1 := jyA_of b2 hA
    have hp16 := (jplant_c hs h).2.2.2.2.1
    obtain ⟨m2, y, c1, c2, c3, c4, c5, c6⟩ := y_isTree_l104 (F := F) hp16 4 0 F x m1 (by omega) (by omega) hA1.1 (by rw [b3, hx]) hx4
    have hL2 := jLM_fx c2 hA1.1
    have c2' : jyFt m1 m2 := c2.weak (fun a i h => Or.inr h)
    refine ⟨jsI m2 113 y (-1), y, ?_, (b2.trans c2').trans (jfx_I (Or.inl rfl)), by rw [jsI_no (by omega)]; exact c3, c4, fun p' e => ?_⟩
    · rw [jb2_r]
      dsimp only
      rw [jl_0, c1, jb_some]
      dsimp only
      rw [jgd_t hL2.1, jp_113 hL2, jgd_t (jk_113 hL2), jz_113 hL2, c3, jgd_t (ji_int (by omega) c4), ji_n (by omega)]
      rfl
    · cases e
      refine ⟨fun q hq hne => ?_, fun r hr h2 => c5 r (Nat.zero_le _) hr h2, jsI_y⟩
      rw [jsI_no (fun h => hne h.2), c2.I (by omega)]
      exact b5 q hq
theorem y_keptNow_l4 (hF : 100 < F) (hC : ∀ m, jyA (jDa D) m → jI m 101 14 = Int32.ofNat (jDq D) → ∀ a, a < 4 → c_X10_isIn F m 101 (Int32.ofNat a) = some (jbi ((jDq D).testBit a))) : ∀ (t a k c f x : Nat) (m : jMe), a + t = 4 → t < f → k < 2 ^ a → jyA (jDa D) m → jI m 101 14 = Int32.ofNat (jDq D) → jI m 101 29 = Int32.ofNat x → x < 4 → ∃ m' y, c_X10_keptNow_l4 F f m 101 (Int32.ofNat k) (Int32.ofNat a) = some (m', 101, Int32.ofNat (jgrow (jDa D) (jDq D) t a k c).1) ∧ jyFt m m' ∧ jI m' 101 29 = Int32.ofNat y ∧ y < 4 := by
  intro t
  induction t with
  | zero =>
    intro a k c f x m h1 h2 hk hA hq hx hx4
    obtain ⟨f, rfl⟩ := jsucc h2
    refine ⟨m, x, ?_, jfx.rfl, hx, hx4⟩
    show c_X10_keptNow_l4_b F _ m _ _ _ = _
    unfold c_X10_keptNow_l4_b
    rw [if_pos (show (4 : Int32) ≤ Int32.ofNat a from ji_lep (a := 4) (by omega) (by omega) (by omega))]
    rfl
  | succ t ih =>
    intro a k c f x m h1 h2 hk hA hq hx hx4
    obtain ⟨f, rfl⟩ := jsucc h2
    have hle := jp2 (i := a) (j := a + 1) (by omega)
    obtain ⟨o1, o2, o3⟩ := jset_or2 hk (by omega)
    have hst : ∀ z, (if (jDq D).testBit a = true then (jb (c_X10_isTree F m 101 (Int32.ofNat (k ||| 2 ^ a))) fun t7 => if t7.1 = 0 then c_X10_keptNow_l4 F f t7.2 101 (Int32.ofNat k) (Int32.ofNat (a + 1)) else c_X10_keptNow_l4 F f t7.2 101 (Int32.ofNat (k ||| 2 ^ a)) (Int32.ofNat (a + 1))) else c_X10_keptNow_l4 F f m 101 (Int32.ofNat k) (Int32.ofNat (a + 1))) = z → c_X10_keptNow_l4 F (f + 1) m 101 (Int32.ofNat k) (Int32.ofNat a) = z := by
      intro z h
      rw [← h]
      show c_X10_keptNow_l4_b F _ m _ _ _ = _
      unfold c_X10_keptNow_l4_b
      rw [if_neg (show ¬ (4 : Int32) ≤ Int32.ofNat a from ji_len (a := 4) (by omega) (by omega) (by omega)), jgd_t hA.1.1, hC m hA hq a (by omega), jb_some, o1, show Int32.ofNat a + 1 = Int32.ofNat (a + 1) from ji_add a 1]
      cases (jDq D).testBit a with
      | true => rw [if_neg (by decide), if_pos rfl]
      | false => rw [if_pos (by decide), if_neg (by decide)]
    unfold jgrow
    cases hb : (jDq D).testBit a with
    | false =>
      rw [hb, if_neg (by decide)] at hst
      rw [if_neg (by decide)]
      obtain ⟨m', y, b1, b2⟩ := ih (a + 1) k c f x m (by omega) (by omega) (by omega) hA hq hx hx4
      exact ⟨m', y, hst _ b1, b2⟩
    | true =>
      rw [hb, if_pos rfl] at hst
      rw [if_pos rfl]
      obtain ⟨m1, y1, c1, c2, c3, c4, -⟩ := y_isTree (F := F) hF o3 hA hx hx4
      rw [c1, jb_some] at hst
      dsimp only at hst
      have hA1 := jyA_of c2 hA
      have hq1 : jI m1 101 14 = Int32.ofNat (jDq D) := by rw [c2.I (by omega)]; exact hq
      cases hp : (jplant (jDa D) 3 (k ||| 2 ^ a)).isSome with
      | true =>
        rw [hp, if_neg (show ¬ jbi true = 0 by decide)] at hst
        rw [if_pos rfl]
        obtain ⟨m', y, b1, b2, b3⟩ := ih (a + 1) (k ||| 2 ^ a) c f y1 m1 (by omega) (by omega) o2 hA1 hq1 c3 c4
        exact ⟨m', y, hst _ b1, c2.trans b2, b3⟩
      | false =>
        rw [hp, if_pos (show jbi false = 0 from rfl)] at hst
        rw [if_neg (by decide)]
        obtain ⟨m', y, b1, b2, b3⟩ := ih (a + 1) k (c ||| 2 ^ a) f y1 m1 (by omega) (by omega) (by omega) hA1 hq1 c3 c4
        exact ⟨m', y, hst _ b1, c2.trans b2, b3⟩
/-- parents and root, as the reference holds them -/
def jyT (D : jD) (m : jMe) : Prop := (∀ x, x < 4 → (jdK D).testBit x = true → jI m 113 x = jo1 (jpar D x)) ∧ (∀ r, jrt D = some r → jI m 101 29 = Int32.ofNat r) ∧ ∃ x, x < 4 ∧ jI m 101 29 = Int32.ofNat x
theorem jyT_of {m m' : jMe} {Q : Nat → Nat → Prop} (h : jfx Q m m') (hQ : ∀ i, ¬ Q 113 i) (hQ2 : ¬ Q 101 29) (k : jyT D m) : jyT D m' := by
  obtain ⟨k1, k2, x, k3, k4⟩ := k
  exact ⟨fun x hx hb => by rw [h.I (hQ x)]; exact k1 x hx hb, fun r hr => by rw [h.I hQ2]; exact k2 r hr, x, k3, by rw [h.I hQ2]; exact k4⟩
theorem jyA_C {m : jMe} (hL : jLM m) (hC : jCm D m) (hD : jDok D) : jyA (jDa D) m := ⟨hL, fun q hq => ⟨(hC.2.2.2 q hq).2.1, (hD.2.2.1 q hq).2.1⟩⟩
theorem y_keptNow (hF : 100 < F) {m : jMe} (hL : jLM m) (hC : jCm D m) (hD : jDok D) {x : Nat} (hx : jI m 101 29 = Int32.ofNat x) (hx4 : x < 4) : ∃ m', c_X10_keptNow F m 101 = some (Int32.ofNat (jdK D), m') ∧ jyFt m m' ∧ jyT D m' := by
  have hq := jDok_q hD
  have hA := jyA_C hL hC hD
  have hin : ∀ m, jyA (jDa D) m → jI m 101 14 = Int32.ofNat (jDq D) → ∀ a, a < 4 → c_X10_isIn F m 101 (Int32.ofNat a) = some (jbi ((jDq D).testBit a)) := by
    intro m hA h14 a ha
    unfold c_X10_isIn
    rw [jgd_t hA.1.1, h14, jshr_1 (by omega) (by omega)]
    cases (jDq D).testBit a <;> rfl
  obtain ⟨m1, y, a1, a2, a3, a4⟩ := y_keptNow_l4 (F := F) hF hin 4 0 0 0 F x m (by omega) (by omega) (by omega) hA hC.2.2.1 hx hx4
  have hA1 := jyA_of a2 hA
  have hK := jdK_lt hq
  obtain ⟨m2, z, b1, b2, b3, b4, b5⟩ := y_isTree (F := F) hF hK hA1 a3 a4
  have hP := jdP_some (D := D)
  obtain ⟨b6, b7, b8⟩ := b5 _ hP
  refine ⟨m2, ?_, a2.trans b2, ?_, ?_, z, b4, b3⟩
  · unfold c_X10_keptNow
    rw [jl_0, a1, jb_some]
    dsimp only
    rw [jgd_t hA1.1.1, show (jgrow (jDa D) (jDq D) 4 0 0 0).1 = jdK D from rfl, b1, jb_some]
  · intro v hv hb
    have hq0 : jDq D ≠ 0 := by
      intro h0
      have := (jdK_bits v hv).1 hb
      rw [h0] at this
      simp at this
    obtain ⟨root, r1, r2, r3, r4⟩ := jtree (fun q hq => (hD.2.2.1 q hq).2.1) hq hq0
    have hpop := jplant_c hK hP
    have hp2 : (jdP D).2 = 2 ^ root := by
      have h1 := hpop.2.2.2.1 (by
        have : ∀ s : Fin 16, jpop 8 s.1 ≤ 3 + 1 := by decide +kernel
        exact this ⟨_, hK⟩)
      rcases jpop_one hpop.2.2.2.2.1 h1 with h | ⟨r, h2, h3⟩
      · unfold jrt at r1
        rw [h] at r1
        have : jfst 0 4 0 = none := by decide
        rw [this] at r1
        cases r1
      · unfold jrt at r1
        rw [h3, jfst_pow h2] at r1
        cases r1
        exact h3
    have hzr := b7 root r2 hp2
    have hmem : v ∈ jord D := (r3.2.1 v).mpr ⟨hv, hb⟩
    rw [r4] at hmem
    have hnd := r3.1
    rw [r4] at hnd
    rcases List.mem_append.mp hmem with h | h
    · obtain ⟨q, q1, rfl⟩ := List.mem_map.mp h
      have hne : q.1 ≠ z := by
        rw [hzr]
        intro e
        exact (List.nodup_append.mp hnd).2.2 q.1 h root (List.mem_singleton.mpr rfl) e
      rw [b6 q q1 hne]
      unfold jpar
      rw [jlk_of (List.nodup_append.mp hnd).1 q1]
      rfl
    · rw [List.mem_singleton] at h
      subst h
      rw [← hzr, b8, hzr]
      unfold jpar
      rw [jlk_none (fun h => (List.nodup_append.mp hnd).2.2 v h v (List.mem_singleton.mpr rfl) rfl)]
      rfl
  · intro r hr
    have hpop := jplant_c hK hP
    have h1 := hpop.2.2.2.1 (by
      have : ∀ s : Fin 16, jpop 8 s.1 ≤ 3 + 1 := by decide +kernel
      exact this ⟨_, hK⟩)
    unfold jrt at hr
    rcases jpop_one hpop.2.2.2.2.1 h1 with h | ⟨r', h2, h3⟩
    · rw [h] at hr
      have : jfst 0 4 0 = none := by decide
      rw [this] at hr
      cases hr
    · rw [h3, jfst_pow h2] at hr
      cases hr
      rw [b3, b7 r h2 h3]
theorem y_childrenOf_l4 {m : jMe} (hL : jLM m) (hT : jyT D m) (hk : jI m 101 30 = Int32.ofNat (jdK D)) (hq : jDq D < 16) {r : Nat} (hr : r < 4) : ∀ (t a f : Nat), a + t = 4 → t < f → c_X10_childrenOf_l4 F m f 101 (Int32.ofNat r) (Int32.ofNat (jbw a (fun c => jkid D c r))) (Int32.ofNat a) = some (Int32.ofNat (jbw 4 (fun c => jkid D c r))) := by
  have hK := jdK_lt hq
  intro t
  induction t with
  | zero =>
    intro a f h1 h2
    obtain ⟨f, rfl⟩ := jsucc h2
    have ha : a = 4 := by omega
    subst ha
    show c_X10_childrenOf_l4_b F _ m _ _ _ _ = _
    unfold c_X10_childrenOf_l4_b
    rw [if_pos (show (4 : Int32) ≤ Int32.ofNat 4 by decide)]
  | succ t ih =>
    intro a f h1 h2
    obtain ⟨f, rfl⟩ := jsucc h2
    have ih := ih (a + 1) f (by omega) (by omega)
    have hlt := jbw_lt (p := fun c => jkid D c r) (n := a)
    have hle := jp2 (i := a) (j := 3) (by omega)
    obtain ⟨o1, o2, o3⟩ := jset_or2 hlt (by omega)
    have o4 : Int32.ofNat (jbw a (fun c => jkid D c r)) ||| jshl (0 : Int32) (Int32.ofNat a) = Int32.ofNat (jbw a (fun c => jkid D c r)) := by
      have : ∀ a : Fin 4, ∀ k : Fin 16, Int32.ofNat k.1 ||| jshl (0 : Int32) (Int32.ofNat a.1) = Int32.ofNat k.1 := by decide +kernel
      exact this ⟨a, by omega⟩ ⟨_, by omega⟩
    show c_X10_childrenOf_l4_b F _ m _ _ _ _ = _
    unfold c_X10_childrenOf_l4_b
    rw [if_neg (show ¬ (4 : Int32) ≤ Int32.ofNat a from ji_len (a := 4) (by omega) (by omega) (by omega)), jgd_t hL.1, hk, jshr_1 (by omega) (by omega), jp_113 hL, jgd_t (jk_113 hL), jz_113 hL, jgd_t (ji_int (by omega) (by omega)), ji_n (by omega), o1, o4, jl_1, ji_add]
    have hs : jbw (a + 1) (fun c => jkid D c r) = if jkid D a r = true then jbw a (fun c => jkid D c r) ||| 2 ^ a else jbw a (fun c => jkid D c r) := jbw_st
    rw [hs] at ih
    cases hb : (jdK D).testBit a with
    | false =>
      rw [if_neg (show ¬ jbi false = Int32.ofNat 1 by decide)]
      have : jkid D a r = false := by unfold jkid; rw [hb, Bool.false_and]
      rw [this, if_neg (by decide)] at ih
      exact ih
    | true =>
      rw [if_pos (show jbi true = Int32.ofNat 1 from rfl), hT.1 a (by omega) hb]
      have hk2 : jkid D a r = (jpar D a == some r) := by unfold jkid; rw [hb, Bool.true_and]
      rw [hk2] at ih
      cases hp : jpar D a with
      | none =>
        rw [hp] at ih
        rw [if_neg (show ¬ jo1 none = Int32.ofNat r from fun h => ji_m1 (show r < 2147483648 by omega) h.symm)]
        exact ih
      | some u =>
        rw [hp] at ih
        by_cases e : u = r
        · subst e
          rw [if_pos (show jo1 (some u) = Int32.ofNat u from rfl)]
          rw [if_pos (by simp)] at ih
          exact ih
        · have hu : u < 4 := by
            have := jlk_mem hp
            have hP := jplant_c hK (jdP_some (D := D))
            have hpc : ∀ {l : List (Nat × Nat)} {s s' : Nat}, jplc (jDa D) l s s' → ∀ p, p ∈ l → p.2 < 4 := by
              intro l
              induction l with
              | nil => intro s s' _ p h; cases h
              | cons q l ih =>
                intro s s' h p hp
                rcases List.mem_cons.mp hp with rfl | hp
                · exact h.2.2.1
                · exact ih h.2.2.2.2.2.2 p hp
            exact hpc hP.1 _ this
          rw [if_neg (show ¬ jo1 (some u) = Int32.ofNat r from ji_eqn (by omega) (by omega) e)]
          rw [if_neg (by simp [e])] at ih
          exact ih
theorem y_childrenOf (hF : 100 < F) {m : jMe} (hL : jLM m) (hT : jyT D m) (hk : jI m 101 30 = Int32.ofNat (jdK D)) (hq : jDq D < 16) {r : Nat} (hr : r < 4) : c_X10_childrenOf F m 101 (Int32.ofNat r) = some (Int32.ofNat (jbw 4 (fun c => jkid D c r))) := by
  unfold c_X10_childrenOf
  have h := y_childrenOf_l4 (F := F) hL hT hk hq hr 4 0 F (by omega) (by omega)
  have h : c_X10_childrenOf_l4 F m F 101 (Int32.ofNat r) (0 : Int32) (0 : Int32) = _ := h
  rw [h, jb_some]
theorem y_kidbit {r c : Nat} (hc : c < 4) : (jshr (Int32.ofNat (jbw 4 (fun c => jkid D c r))) (Int32.ofNat c)) &&& (1 : Int32) = jbi (jkid D c r) := by
  have hlt := jbw_lt (p := fun c => jkid D c r) (n := 4)
  rw [jshr_1 (by omega) (by omega), jbw_bit, decide_eq_true hc, Bool.true_and]
end YKEPT
