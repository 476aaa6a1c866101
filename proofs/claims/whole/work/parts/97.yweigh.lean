/-! weights, as the reference tells them -/
abbrev jy31 (m m' : jMe) : Prop := jfx (fun a i => a = 101 ∧ i = 31) m m'
/-- the reference, with the tree of the query -/
def jRk (D : jD) (S : jTS) (m : jMe) : Prop := jRf D S m ∧ jyT D m ∧ jI m 101 30 = Int32.ofNat (jdK D)
theorem jRk_fx {Q : Nat → Nat → Prop} {D : jD} {S : jTS} {m m' : jMe} (h : jfx Q m m') (hQ : ∀ a i, jSr a i ∨ a = 113 ∨ (a = 101 ∧ (i = 29 ∨ i = 30)) → ¬ Q a i) (k : jRk D S m) : jRk D S m' :=
  ⟨jRf_fx h (fun a i q => hQ a i (Or.inl q)) k.1, jyT_of h (fun i => hQ _ _ (Or.inr (Or.inl rfl))) (hQ _ _ (Or.inr (Or.inr ⟨rfl, Or.inl rfl⟩))) k.2.1, by rw [h.I (hQ _ _ (Or.inr (Or.inr ⟨rfl, Or.inr rfl⟩)))]; exact k.2.2⟩
theorem jRk_p {D : jD} {S : jTS} {m m' : jMe} (h : jfx jSpp m m') (k : jRk D S m) (q : jRf D S m') : jRk D S m' :=
  ⟨q, jyT_of h (fun i => by unfold jSpp; omega) (by unfold jSpp; omega) k.2.1, by rw [h.I (by unfold jSpp; omega)]; exact k.2.2⟩
section YWEIGH
variable {F : Nat} {D : jD} {S : jTS}
theorem y_plus {m : jMe} (hL : jLM m) {g : Bool} (hg : jI m 101 31 = jbi g) {x y : Int64} {a b : Nat} (h : g = false → x = Int64.ofNat a ∧ a ≤ jMX ∧ y = Int64.ofNat b ∧ b ≤ jMX) : ∃ v m' g', c_X10_plus F m 101 x y = some (v, m') ∧ jy31 m m' ∧ jI m' 101 31 = jbi g' ∧ (g' = false → g = false ∧ v = Int64.ofNat (a + b) ∧ a + b ≤ jMX) ∧ (g' = true → g = true ∨ jMX < a + b) := by
  unfold c_X10_plus
  by_cases q : lg_cmp x ((9223372036854775807 : Int64) - y) ≤ 0
  · rw [if_pos q]
    refine ⟨_, m, g, rfl, jfx.rfl, hg, fun e => ?_, fun e => Or.inl e⟩
    obtain ⟨rfl, h1, rfl, h2⟩ := h e
    rw [jMX_e, jq_sub h2, jc_le0, jq_le h1 (by omega)] at q
    exact ⟨e, jq_add a b, by omega⟩
  · rw [if_neg q, jgd_t hL.1]
    refine ⟨_, _, true, rfl, jfx_I ⟨rfl, rfl⟩, jsI_y, fun e => (by cases e), fun _ => ?_⟩
    cases g with
    | true => exact Or.inl rfl
    | false =>
      obtain ⟨rfl, h1, rfl, h2⟩ := h rfl
      rw [jMX_e, jq_sub h2, jc_le0, jq_le h1 (by omega)] at q
      exact Or.inr (by omega)
theorem y_times {m : jMe} (hL : jLM m) {g : Bool} (hg : jI m 101 31 = jbi g) {x y : Int64} {a b : Nat} (h : g = false → x = Int64.ofNat a ∧ a ≤ jMX ∧ y = Int64.ofNat b ∧ b ≤ jMX) : ∃ v m' g', c_X10_times F m 101 x y = some (v, m') ∧ jy31 m m' ∧ jI m' 101 31 = jbi g' ∧ (g' = false → g = false ∧ v = Int64.ofNat (a * b) ∧ a * b ≤ jMX) ∧ (g' = true → g = true ∨ jMX < a * b) := by
  unfold c_X10_times
  by_cases h0 : lg_cmp x (0 : Int64) = 0
  · rw [if_pos h0]
    refine ⟨_, m, g, rfl, jfx.rfl, hg, fun e => ?_, fun e => Or.inl e⟩
    obtain ⟨rfl, h1, rfl, h2⟩ := h e
    rw [jc_eq0, show (0 : Int64) = Int64.ofNat 0 from rfl, jq_eq h1 (by omega)] at h0
    subst h0
    exact ⟨e, jq_mul 0 b, by omega⟩
  · have hx0 : ¬ x = 0 := fun e => h0 (jc_eq0.mpr e)
    rw [if_neg h0, jgd_t hx0]
    by_cases q : lg_cmp y ((9223372036854775807 : Int64) / x) ≤ 0
    · rw [if_pos q]
      refine ⟨_, m, g, rfl, jfx.rfl, hg, fun e => ?_, fun e => Or.inl e⟩
      obtain ⟨rfl, h1, rfl, h2⟩ := h e
      have ha : 0 < a := by
        rcases Nat.eq_zero_or_pos a with z | z
        · subst z; exact absurd rfl hx0
        · exact z
      rw [jMX_e, jq_div (Nat.le_refl _) h1, jc_le0, jq_le h2 (Nat.div_le_self _ _), Nat.le_div_iff_mul_le ha] at q
      exact ⟨e, jq_mul a b, by rw [Nat.mul_comm]; exact q⟩
    · rw [if_neg q, jgd_t hL.1]
      refine ⟨_, _, true, rfl, jfx_I ⟨rfl, rfl⟩, jsI_y, fun e => (by cases e), fun _ => ?_⟩
      cases g with
      | true => exact Or.inl rfl
      | false =>
        obtain ⟨rfl, h1, rfl, h2⟩ := h rfl
        have ha : 0 < a := by
          rcases Nat.eq_zero_or_pos a with z | z
          · subst z; exact absurd rfl hx0
          · exact z
        rw [jMX_e, jq_div (Nat.le_refl _) h1, jc_le0, jq_le h2 (Nat.div_le_self _ _), Nat.le_div_iff_mul_le ha] at q
        exact Or.inr (by rw [Nat.mul_comm a b]; omega)
theorem jDw_m1 {r k a : Nat} (hD : jDR D r) (hk : k < jDz D r) : jDw D r k a = -1 ↔ (jDa D r).testBit a = false := by
  have := (hD.2.2.2.2 k hk).1 a
  unfold jDw
  cases (jDa D r).testBit a with
  | false => simp
  | true =>
    rw [if_pos rfl]
    exact ⟨fun h => absurd h (ji_m1 (by omega)), fun h => by cases h⟩
theorem y_isMatching_l3 {m : jMe} (hL : jLM m) (hC : jCm D m) {r k c x : Nat} (hr : r < 4) (hc : c < 4) (hDr : jDR D r) (hDc : jDR D c) (hk : k < jDz D r) (hx : x < jDz D c) : ∀ (t a f : Nat), a + t = 6 → t < f → c_X10_isMatching_l3 F m f 101 (Int32.ofNat r) (Int32.ofNat k) (Int32.ofNat c) (Int32.ofNat x) (Int32.ofNat a) = some (if (List.range' a t).all (fun a => !((jDa D c).testBit a && (jDa D r).testBit a) || jDv D c x a == jDv D r k a) = true then .inr () else .inl (0 : Int32)) := by
  have z1 := hDr.2.2.1
  have z2 := hDc.2.2.1
  intro t
  induction t with
  | zero =>
    intro a f h1 h2
    obtain ⟨f, rfl⟩ := jsucc h2
    show c_X10_isMatching_l3_b F _ m _ _ _ _ _ _ = _
    unfold c_X10_isMatching_l3_b
    rw [if_pos (show (6 : Int32) ≤ Int32.ofNat a from ji_lep (a := 6) (by omega) (by omega) (by omega))]
    rfl
  | succ t ih =>
    intro a f h1 h2
    obtain ⟨f, rfl⟩ := jsucc h2
    have ih := ih (a + 1) f (by omega) (by omega)
    have b1 := (hDr.2.2.2.2 k hk).1 a
    have b2 := (hDc.2.2.2.2 x hx).1 a
    show c_X10_isMatching_l3_b F _ m _ _ _ _ _ _ = _
    unfold c_X10_isMatching_l3_b
    rw [if_neg (show ¬ (6 : Int32) ≤ Int32.ofNat a from ji_len (a := 6) (by omega) (by omega) (by omega)), jgd_t hL.1, y_valD hL hC hr hk (by omega) (by omega), y_valD hL hC hc hx (by omega) (by omega), jb_some, jb_some, show Int32.ofNat a + 1 = Int32.ofNat (a + 1) from ji_add a 1, jall_s]
    dsimp only
    rw [ih]
    unfold jDw
    cases e1 : (jDa D r).testBit a with
    | false =>
      rw [if_neg (show ¬ false = true by decide), if_pos rfl, Bool.and_false]
      rfl
    | true =>
      rw [if_pos rfl, if_neg (ji_m1 (by omega))]
      cases e2 : (jDa D c).testBit a with
      | false =>
        rw [if_neg (show ¬ false = true by decide), if_pos rfl]
        rfl
      | true =>
        rw [if_pos rfl, if_neg (ji_m1 (by omega))]
        by_cases e : jDv D c x a = jDv D r k a
        · rw [if_pos (by rw [e]), e, beq_self_eq_true]
          rfl
        · rw [if_neg (ji_eqn (by omega) (by omega) (fun h => e h.symm)), beq_eq_false_iff_ne.mpr e]
          rfl
theorem y_isMatching (hF : 100 < F) {m : jMe} (hL : jLM m) (hC : jCm D m) {r k c x : Nat} (hr : r < 4) (hc : c < 4) (hDr : jDR D r) (hDc : jDR D c) (hk : k < jDz D r) (hx : x < jDz D c) : c_X10_isMatching F m 101 (Int32.ofNat r) (Int32.ofNat k) (Int32.ofNat c) (Int32.ofNat x) = some (jbi (jmt D r k c x)) := by
  unfold c_X10_isMatching
  rw [jl_0, y_isMatching_l3 hL hC hr hc hDr hDc hk hx 6 0 F (by omega) (by omega)]
  unfold jmt jmg
  rw [List.range_eq_range']
  cases (List.range' 0 6).all _ <;> rfl
theorem y_worthOf {m : jMe} (hL : jLM m) (hC : jCm D m) {r k : Nat} (hr : r < 4) (hDr : jDR D r) (hk : k < jDz D r) : c_X10_worthOf F m 101 (Int32.ofNat r) (Int32.ofNat k) = some (Int64.ofNat (jwth D r k)) := by
  have z1 := hDr.2.2.1
  have h6 := hDr.1
  have hc := (hDr.2.2.2.2 k hk).2.2
  obtain ⟨c1, c2, c3, c4⟩ := hC.2.2.2 r hr
  unfold c_X10_worthOf
  rw [jgd_t hL.1, jp_109 hL, jgd_t (jk_109 hL), jz_109 hL, show (8 : Int32) = Int32.ofNat 8 from rfl, ji_mul, ji_add, jgd_t (ji_int (by omega) (by omega)), ji_n (by omega), (c4 k hk).2.1, jt64 (by omega), jlet_m, jp_105 hL, jgd_t (jk_105 hL), jz_105 hL, jgd_t (ji_int (by omega) hr), jgd_t (ji_int (by omega) hr), ji_n (by omega), c1]
  unfold jwth
  by_cases q : jDk D r = 4
  · rw [if_pos (show Int32.ofNat (jDk D r) = 4 by rw [q]; rfl), if_pos q, show (9 : Int64) = Int64.ofNat 9 from rfl]
    by_cases q2 : jDc D r k ≤ 9
    · rw [if_pos (jc_le0.mpr ((jq_le (by unfold jMX; omega) (by unfold jMX; omega)).mpr q2)), Nat.min_eq_left q2]
    · rw [if_neg (fun h => q2 ((jq_le (by unfold jMX; omega) (by unfold jMX; omega)).mp (jc_le0.mp h))), Nat.min_eq_right (by omega)]
  · rw [if_neg (show ¬ Int32.ofNat (jDk D r) = 4 from ji_eqn (b := 4) (by omega) (by omega) q), if_neg q]
    by_cases q2 : jDk D r = 5
    · rw [if_pos (show Int32.ofNat (jDk D r) = 5 by rw [q2]; rfl), if_pos q2, show (2 : Int64) = Int64.ofNat 2 from rfl, jq_mul]
    · rw [if_neg (show ¬ Int32.ofNat (jDk D r) = 5 from ji_eqn (b := 5) (by omega) (by omega) q2), if_neg q2]
/-- rows of c that are summed: all, or those that match a row -/
def jyM (D : jD) (c : Nat) (x y : Int32) (M : Nat → Bool) : Prop := (x = -1 ∧ ∀ i, M i = true) ∨ ∃ r k, x = Int32.ofNat r ∧ y = Int32.ofNat k ∧ r < 4 ∧ k < jDz D r ∧ ∀ i, M i = jmt D r k c i
theorem y_sumOf_l6 (hF : 100 < F) (hD : jDok D) {c : Nat} (hc : c < 4) {x y : Int32} {M : Nat → Bool} (hM : jyM D c x y M) {w : Nat → Nat} : ∀ (t k f : Nat) (m : jMe) (v : Int64) (g : Bool), k + t = jDz D c → t < f → jLM m → jCm D m → jI m 101 31 = jbi g → (g = false → (∀ k, k < jDz D c → M k = true → jL m 114 (8 * c + k) = Int64.ofNat (w k) ∧ w k ≤ jMX) ∧ v = Int64.ofNat (jsum k (fun k => if M k = true then w k else 0)) ∧ jsum k (fun k => if M k = true then w k else 0) ≤ jMX) → ∃ m' v' g', c_X10_sumOf_l6 F f m 101 (Int32.ofNat c) x y v (Int32.ofNat k) = some (m', v') ∧ jy31 m m' ∧ jI m' 101 31 = jbi g' ∧ (g' = false → g = false ∧ v' = Int64.ofNat (jsum (jDz D c) (fun k => if M k = true then w k else 0)) ∧ jsum (jDz D c) (fun k => if M k = true then w k else 0) ≤ jMX) ∧ (g' = true → g = true ∨ jMX < jsum (jDz D c) (fun k => if M k = true then w k else 0)) := by
  have hDc := hD.2.2.1 c hc
  have hz := hDc.2.2.1
  intro t
  induction t with
  | zero =>
    intro k f m v g h1 h2 hL hC hg hv
    obtain ⟨f, rfl⟩ := jsucc h2
    have hk : k = jDz D c := by omega
    subst hk
    refine ⟨m, v, g, ?_, jfx.rfl, hg, fun h => ⟨h, (hv h).2⟩, fun h => Or.inl h⟩
    show c_X10_sumOf_l6_b F _ m _ _ _ _ _ _ = _
    unfold c_X10_sumOf_l6_b
    rw [jgd_t hL.1, jp_107 hL, jgd_t (jk_107 hL), jz_107 hL, jgd_t (ji_int (by omega) hc), ji_n (by omega), (hC.2.2.2 c hc).2.2.1, if_pos (ji_lep (by omega) (by omega) (Nat.le_refl _))]
  | succ t ih =>
    intro k f m v g h1 h2 hL hC hg hv
    obtain ⟨f, rfl⟩ := jsucc h2
    have hst : ∀ z, (if M k = true then (jb (c_X10_plus F m 101 v (jL m 114 (8 * c + k))) fun t10 => c_X10_sumOf_l6 F f t10.2 101 (Int32.ofNat c) x y t10.1 (Int32.ofNat (k + 1))) else c_X10_sumOf_l6 F f m 101 (Int32.ofNat c) x y v (Int32.ofNat (k + 1))) = z → c_X10_sumOf_l6 F (f + 1) m 101 (Int32.ofNat c) x y v (Int32.ofNat k) = z := by
      intro z h
      rw [← h]
      show c_X10_sumOf_l6_b F _ m _ _ _ _ _ _ = _
      unfold c_X10_sumOf_l6_b c_X10_sumOf_j34_l6
      simp only [jgd_t hL.1, jp_114 hL, jgd_t (jk_114 hL), jz_114 hL]
      rw [jp_107 hL, jgd_t (jk_107 hL), jz_107 hL, jgd_t (ji_int (by omega) hc), ji_n (by omega), (hC.2.2.2 c hc).2.2.1, if_neg (ji_len (by omega) (by omega) (by omega)), show (8 : Int32) = Int32.ofNat 8 from rfl, ji_mul, ji_add, jgd_t (ji_int (by omega) (by omega)), ji_n (by omega), show Int32.ofNat k + 1 = Int32.ofNat (k + 1) from ji_add k 1]
      rcases hM with ⟨rfl, hM⟩ | ⟨r, k', rfl, rfl, hr, hk', hM⟩
      · rw [if_pos rfl, hM k, if_pos rfl]
      · rw [if_neg (ji_m1 (by omega)), y_isMatching hF hL hC hr hc (hD.2.2.1 r hr) hDc hk' (by omega), jb_some, hM k]
        cases jmt D r k' c k <;> rfl
    cases e : M k with
    | false =>
      rw [e, if_neg (by decide)] at hst
      have hs : jsum (k + 1) (fun k => if M k = true then w k else 0) = jsum k (fun k => if M k = true then w k else 0) := by
        rw [jsum_s, e, if_neg (by decide), Nat.add_zero]
      obtain ⟨m', v', g', a1, a2⟩ := ih (k + 1) f m v g (by omega) (by omega) hL hC hg (fun h => by rw [hs]; exact hv h)
      exact ⟨m', v', g', hst _ a1, a2⟩
    | true =>
      rw [e, if_pos rfl] at hst
      have hs : jsum (k + 1) (fun k => if M k = true then w k else 0) = jsum k (fun k => if M k = true then w k else 0) + w k := by
        rw [jsum_s, e, if_pos rfl]
      obtain ⟨v1, m1, g1, b1, b2, b3, b4, b5⟩ := y_plus (F := F) hL hg (x := v) (y := jL m 114 (8 * c + k)) (a := jsum k (fun k => if M k = true then w k else 0)) (b := w k) (fun h => by
        obtain ⟨u1, u2, u3⟩ := hv h
        exact ⟨u2, u3, (u1 k (by omega) e).1, (u1 k (by omega) e).2⟩)
      obtain ⟨m', v', g', a1, a2, a3, a4, a5⟩ := ih (k + 1) f m1 v1 g1 (by omega) (by omega) (jLM_fx b2 hL) (jCm_fx b2 (fun a i h => by unfold jSm at h; omega) hC) b3 (fun h => by
        obtain ⟨u1, u2, u3⟩ := b4 h
        refine ⟨fun k' hk' hM' => ?_, by rw [hs]; exact u2, by rw [hs]; exact u3⟩
        rw [b2.L (by omega)]
        exact (hv u1).1 k' hk' hM')
      refine ⟨m', v', g', hst _ (by rw [b1, jb_some]; exact a1), b2.trans a2, a3, fun h => ⟨(b4 (a4 h).1).1, (a4 h).2⟩, fun h => ?_⟩
      rcases a5 h with h | h
      · rcases b5 h with h | h
        · exact Or.inl h
        · rw [← hs] at h
          exact Or.inr (Nat.lt_of_lt_of_le h (jsum_mono (by omega)))
      · exact Or.inr h
theorem y_sumOf (hF : 100 < F) (hD : jDok D) {c : Nat} (hc : c < 4) {x y : Int32} {M : Nat → Bool} (hM : jyM D c x y M) {w : Nat → Nat} {m : jMe} {g : Bool} (hL : jLM m) (hC : jCm D m) (hg : jI m 101 31 = jbi g) (hv : g = false → ∀ k, k < jDz D c → M k = true → jL m 114 (8 * c + k) = Int64.ofNat (w k) ∧ w k ≤ jMX) : ∃ m' v' g', c_X10_sumOf F m 101 (Int32.ofNat c) x y = some (v', m') ∧ jy31 m m' ∧ jI m' 101 31 = jbi g' ∧ (g' = false → g = false ∧ v' = Int64.ofNat (jsum (jDz D c) (fun k => if M k = true then w k else 0)) ∧ jsum (jDz D c) (fun k => if M k = true then w k else 0) ≤ jMX) ∧ (g' = true → g = true ∨ jMX < jsum (jDz D c) (fun k => if M k = true then w k else 0)) := by
  have hz := (hD.2.2.1 c hc).2.2.1
  obtain ⟨m', v', g', a1, a2⟩ := y_sumOf_l6 (F := F) hF hD hc hM (w := w) (jDz D c) 0 F m (Int64.ofNat 0) g (by omega) (by omega) hL hC hg (fun h => ⟨hv h, rfl, Nat.zero_le _⟩)
  refine ⟨m', v', g', ?_, a2⟩
  unfold c_X10_sumOf
  have a1 : c_X10_sumOf_l6 F F m 101 (Int32.ofNat c) x y (0 : Int64) (0 : Int32) = _ := a1
  rw [a1, jb_some]
/-- weights of the rows of r are told -/
def jyW (D : jD) (m : jMe) (r : Nat) : Prop := ∀ k, k < jDz D r → jL m 114 (8 * r + k) = Int64.ofNat (jW1 D r k) ∧ jW1 D r k ≤ jMX
def jyU1 (D : jD) (r k : Nat) : Prop := ∀ x, x < 4 → jkid D x r = true → jS1 D r k x ≤ jMX ∧ jpre D r k (x + 1) ≤ jMX
abbrev jyFw (m m' : jMe) : Prop := jfx (fun a i => jSpp a i ∨ (a = 101 ∧ i = 31)) m m'
theorem jRk_w {m m' : jMe} (h : jfx (fun a i => (a = 101 ∧ i = 31) ∨ a = 114 ∨ a = 115) m m') (k : jRk D S m) : jRk D S m' := jRk_fx h (fun a i q => by unfold jSr at q; omega) k
theorem y_weighs_l35 (hF : 1000 < F) (hDS : jDS D S) {r k : Nat} (hr : r < 4) (hk : k < jDz D r) (hw : jwth D r k ≤ jMX) : ∀ (t c f : Nat) (m : jMe) (v : Int64) (g : Bool), c + t = 4 → t < f → jRk D S m → jI m 101 31 = jbi g → (g = false → (∀ c, c < 4 → jkid D c r = true → jyW D m c) ∧ v = Int64.ofNat (if jpb D r k = true then jpre D r k c else 0) ∧ (if jpb D r k = true then jpre D r k c else 0) ≤ jMX ∧ (jpb D r k = true → ∀ x, x < c → jkid D x r = true → jS1 D r k x ≤ jMX ∧ jpre D r k (x + 1) ≤ jMX)) → ∃ m' v' g', c_X10_weighs_l35 F f m 101 (Int32.ofNat r) (Int32.ofNat k) v (Int32.ofNat c) = some (m', 101, Int32.ofNat r, Int32.ofNat k, v') ∧ jyFw m m' ∧ jRk D S m' ∧ jI m' 101 31 = jbi g' ∧ (g' = false → g = false ∧ v' = Int64.ofNat (if jpb D r k = true then jpre D r k 4 else 0) ∧ (if jpb D r k = true then jpre D r k 4 else 0) ≤ jMX ∧ (jpb D r k = true → jyU1 D r k)) ∧ (g' = true → g = true ∨ (jpb D r k = true ∧ ∃ x, x < 4 ∧ jkid D x r = true ∧ (jMX < jS1 D r k x ∨ jMX < jpre D r k (x + 1)))) := by
  have hD := hDS.1
  have hq := jDok_q hD
  intro t
  induction t with
  | zero =>
    intro c f m v g h1 h2 hR hg hv
    obtain ⟨f, rfl⟩ := jsucc h2
    have hc : c = 4 := by omega
    subst hc
    refine ⟨m, v, g, ?_, jfx.rfl, hR, hg, fun h => ?_, fun h => Or.inl h⟩
    · show c_X10_weighs_l35_b F _ m _ _ _ _ _ = _
      unfold c_X10_weighs_l35_b
      rw [if_pos (show (4 : Int32) ≤ Int32.ofNat 4 by decide)]
    · obtain ⟨u1, u2, u3, u4⟩ := hv h
      exact ⟨h, u2, u3, u4⟩
  | succ t ih =>
    intro c f m v g h1 h2 hR hg hv
    obtain ⟨f, rfl⟩ := jsucc h2
    have hL := hR.1.1
    have hst : ∀ z, (if jkid D c r = true then (jb (c_X10_isPassing F m 101 (Int32.ofNat r) (Int32.ofNat k)) fun t14 => if t14.1 = 0 then c_X10_weighs_l35 F f t14.2 101 (Int32.ofNat r) (Int32.ofNat k) v (Int32.ofNat (c + 1)) else jgd (jK t14.2 101 = 42) <| jb (c_X10_sumOf F t14.2 101 (Int32.ofNat c) (Int32.ofNat r) (Int32.ofNat k)) fun t18 => jgd (jK t18.2 101 = 42) <| jb (c_X10_times F t18.2 101 v t18.1) fun t21 => c_X10_weighs_l35 F f t21.2 101 (Int32.ofNat r) (Int32.ofNat k) t21.1 (Int32.ofNat (c + 1))) else c_X10_weighs_l35 F f m 101 (Int32.ofNat r) (Int32.ofNat k) v (Int32.ofNat (c + 1))) = z → c_X10_weighs_l35 F (f + 1) m 101 (Int32.ofNat r) (Int32.ofNat k) v (Int32.ofNat c) = z := by
      intro z h
      rw [← h]
      show c_X10_weighs_l35_b F _ m _ _ _ _ _ = _
      unfold c_X10_weighs_l35_b
      rw [if_neg (show ¬ (4 : Int32) ≤ Int32.ofNat c from ji_len (a := 4) (by omega) (by omega) (by omega)), jgd_t hL.1, y_childrenOf (by omega) hL hR.2.1 hR.2.2 hq hr, jb_some, y_kidbit (by omega), show Int32.ofNat c + 1 = Int32.ofNat (c + 1) from ji_add c 1]
      cases jkid D c r with
      | true => rw [if_pos (by decide), if_pos rfl]
      | false => rw [if_neg (by decide), if_neg (by decide)]
    cases hkid : jkid D c r with
    | false =>
      rw [hkid, if_neg (by decide)] at hst
      have hpre : jpre D r k (c + 1) = jpre D r k c := by rw [jpre_s, hkid, if_neg (by decide), Nat.mul_one]
      obtain ⟨m', v', g', a1, a2⟩ := ih (c + 1) f m v g (by omega) (by omega) hR hg (fun h => by
        obtain ⟨u1, u2, u3, u4⟩ := hv h
        refine ⟨u1, by rw [hpre]; exact u2, by rw [hpre]; exact u3, fun hp x hx hxk => ?_⟩
        by_cases e : x = c
        · rw [e, hkid] at hxk; cases hxk
        · exact u4 hp x (by omega) hxk)
      exact ⟨m', v', g', hst _ a1, a2⟩
    | true =>
      rw [hkid, if_pos rfl] at hst
      obtain ⟨m1, b1, b2, b3⟩ := y_isPassing (F := F) hF hDS hr hk hR.1
      have hR1 := jRk_p b2 hR b3
      rw [b1, jb_some] at hst
      dsimp only at hst
      have hg1 : jI m1 101 31 = jbi g := by rw [b2.I (by unfold jSpp; omega)]; exact hg
      have hW1 : ∀ c, jyW D m c → jyW D m1 c := fun c h k hk => by
        rw [b2.L (by unfold jSpp; omega)]
        exact h k hk
      have f1 : jyFw m m1 := b2.weak (fun a i h => Or.inl h)
      cases hp : jpb D r k with
      | false =>
        rw [hp] at hst hv
        rw [if_pos (show jbi false = 0 from rfl)] at hst
        obtain ⟨m', v', g', a1, a2, a3, a4, a5, a6⟩ := ih (c + 1) f m1 v g (by omega) (by omega) hR1 hg1 (fun h => by
          obtain ⟨u1, u2, u3, u4⟩ := hv h
          rw [hp]
          exact ⟨fun c hc hc2 => hW1 c (u1 c hc hc2), u2, u3, fun h => by cases h⟩)
        rw [hp] at a5 a6
        exact ⟨m', v', g', hst _ a1, f1.trans a2, a3, a4, a5, a6⟩
      | true =>
        rw [hp] at hst hv
        rw [if_neg (show ¬ jbi true = 0 by decide), jgd_t hR1.1.1.1] at hst
        rw [if_pos rfl] at hv
        obtain ⟨m2, v2, g2, c1, c2, c3, c4, c5⟩ := y_sumOf (F := F) (by omega) hD (c := c) (by omega) (x := Int32.ofNat r) (y := Int32.ofNat k) (M := jmt D r k c) (Or.inr ⟨r, k, rfl, rfl, hr, hk, fun _ => rfl⟩) (w := jW1 D c) hR1.1.1 hR1.1.2.1 hg1 (fun h x hx _ => hW1 c ((hv h).1 c (by omega) hkid) x hx)
        have hS : jsum (jDz D c) (fun x => if jmt D r k c x = true then jW1 D c x else 0) = jS1 D r k c := rfl
        rw [hS] at c4 c5
        have hR2 : jRk D S m2 := jRk_w (c2.weak (fun a i h => Or.inl h)) hR1
        rw [c1, jb_some] at hst
        dsimp only at hst
        rw [jgd_t hR2.1.1.1] at hst
        obtain ⟨v3, m3, g3, d1, d2, d3, d4, d5⟩ := y_times (F := F) hR2.1.1 c3 (x := v) (y := v2) (a := jpre D r k c) (b := jS1 D r k c) (fun h => by
          obtain ⟨u1, u2, u3⟩ := c4 h
          obtain ⟨w1, w2, w3, w4⟩ := hv u1
          exact ⟨w2, w3, u2, u3⟩)
        have hpre : jpre D r k (c + 1) = jpre D r k c * jS1 D r k c := by rw [jpre_s, hkid, if_pos rfl]
        rw [← hpre] at d4 d5
        have hR3 : jRk D S m3 := jRk_w (d2.weak (fun a i h => Or.inl h)) hR2
        rw [d1, jb_some] at hst
        dsimp only at hst
        have hW3 : ∀ c, jyW D m c → jyW D m3 c := fun c h k hk => by
          rw [d2.L (by omega), c2.L (by omega)]
          exact hW1 c h k hk
        obtain ⟨m', v', g', a1, a2, a3, a4, a5, a6⟩ := ih (c + 1) f m3 v3 g3 (by omega) (by omega) hR3 d3 (fun h => by
          obtain ⟨u1, u2, u3⟩ := d4 h
          obtain ⟨w1, w2, w3⟩ := c4 u1
          obtain ⟨x1, x2, x3, x4⟩ := hv w1
          rw [hp, if_pos rfl]
          refine ⟨fun c hc hc2 => hW3 c (x1 c hc hc2), u2, u3, fun _ x hx hxk => ?_⟩
          by_cases e : x = c
          · subst e
            exact ⟨w3, u3⟩
          · exact x4 rfl x (by omega) hxk)
        rw [hp] at a5 a6
        refine ⟨m', v', g', hst _ a1, ((f1.trans (c2.weak (fun a i h => Or.inr h))).trans (d2.weak (fun a i h => Or.inr h))).trans a2, a3, a4, fun h => ?_, fun h => ?_⟩
        · obtain ⟨u1, u2⟩ := a5 h
          exact ⟨(c4 (d4 u1).1).1, u2⟩
        · rcases a6 h with h | h
          · rcases d5 h with h | h
            · rcases c5 h with h | h
              · exact Or.inl h
              · exact Or.inr ⟨rfl, c, by omega, hkid, Or.inl h⟩
            · exact Or.inr ⟨rfl, c, by omega, hkid, Or.inr h⟩
          · exact Or.inr h
end YWEIGH
