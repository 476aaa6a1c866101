/-! a position is led down, as the reference does it -/
/-- all is reckoned, and it isn't great -/
def jYg (D : jD) (S : jTS) (m : jMe) : Prop := jRk D S m ∧ jI m 101 31 = 0 ∧ (∀ x, x < 4 → jL m 116 x = Int64.ofNat (if (jdC D).testBit x = true then jbd D x else 0)) ∧ (∀ r, r ∈ jord D → jyR D m r) ∧ jL m 101 35 = Int64.ofNat (jsp D 4) ∧ jsp D 4 ≤ jMX ∧ ¬ jGt D
theorem jYg_of {D : jD} {S : jTS} {m : jMe} (h : jYJ D S m) (hg : ¬ jGt D) : jYg D S m := by
  obtain ⟨h1, h2, g, h3, h4, h5⟩ := h
  have : g = false := by
    cases g with
    | false => rfl
    | true => exact absurd (h4.mp rfl) hg
  subst this
  exact ⟨h1, h3, h2, (h5 rfl).1, (h5 rfl).2.1, (h5 rfl).2.2, hg⟩
/-- places that jYg reads -/
def jSyg (a i : Nat) : Prop := jSr a i ∨ a = 113 ∨ a = 114 ∨ a = 116 ∨ (a = 101 ∧ (i = 29 ∨ i = 30 ∨ i = 31 ∨ i = 35))
theorem jYg_fx {Q : Nat → Nat → Prop} {D : jD} {S : jTS} {m m' : jMe} (h : jfx Q m m') (hQ : ∀ a i, jSyg a i → ¬ Q a i) (k : jYg D S m) : jYg D S m' := by
  obtain ⟨k1, k2, k3, k4, k5, k6, k7⟩ := k
  have hI : ∀ a i, jSyg a i → jI m' a i = jI m a i := fun a i q => h.I (hQ a i q)
  have hL : ∀ a i, jSyg a i → jL m' a i = jL m a i := fun a i q => h.L (hQ a i q)
  refine ⟨jRk_fx h (fun a i q => hQ a i (q.elim (fun q => Or.inl q) (fun q => Or.inr (by omega)))) k1, by rw [hI _ _ (by unfold jSyg; omega)]; exact k2, fun x hx => by rw [hL _ _ (by unfold jSyg; omega)]; exact k3 x hx, fun r hr => ⟨fun k hk => ?_, (k4 r hr).2⟩, by rw [hL _ _ (by unfold jSyg; omega)]; exact k5, k6, k7⟩
  rw [hL _ _ (by unfold jSyg; omega)]
  exact (k4 r hr).1 k hk
theorem jYg_31 {D : jD} {S : jTS} {m m' : jMe} (h : jy31 m m') (h2 : jI m' 101 31 = 0) (k : jYg D S m) : jYg D S m' := by
  obtain ⟨k1, k2, k3, k4, k5, k6, k7⟩ := k
  refine ⟨jRk_w (h.weak (fun a i q => Or.inl q)) k1, h2, fun x hx => by rw [h.L (by omega)]; exact k3 x hx, fun r hr => ⟨fun k hk => ?_, (k4 r hr).2⟩, by rw [h.L (by omega)]; exact k5, k6, k7⟩
  rw [h.L (by omega)]
  exact (k4 r hr).1 k hk
theorem jYg_p {D : jD} {S : jTS} {m m' : jMe} (h : jfx jSpp m m') (q : jRf D S m') (k : jYg D S m) : jYg D S m' := by
  obtain ⟨k1, k2, k3, k4, k5, k6, k7⟩ := k
  refine ⟨jRk_p h k1 q, by rw [h.I (by unfold jSpp; omega)]; exact k2, fun x hx => by rw [h.L (by unfold jSpp; omega)]; exact k3 x hx, fun r hr => ⟨fun k hk => ?_, (k4 r hr).2⟩, by rw [h.L (by unfold jSpp; omega)]; exact k5, k6, k7⟩
  rw [h.L (by unfold jSpp; omega)]
  exact (k4 r hr).1 k hk
/-- rows that count by what is over: none, or the row that stands there -/
def jyOv (D : jD) (r : Nat) (x : Int32) (m : jMe) (M : Nat → Bool) : Prop := (x = -1 ∧ ∀ i, M i = true) ∨ ∃ u k, x = Int32.ofNat u ∧ u < 4 ∧ jI m 117 u = Int32.ofNat k ∧ k < jDz D u ∧ ∀ i, M i = jmt D u k r i
/-- the n-th parent -/
def jupar (D : jD) : Nat → Nat → Option Nat
  | 0, x => some x
  | n + 1, x => match jupar D n x with
    | none => none
    | some y => jpar D y
section YLEAD
variable {F : Nat} {D : jD} {S : jTS}
theorem y_ledInto_l6 (hF : 100 < F) (hD : jDok D) {r : Nat} (hr : r < 4) {x : Int32} {m : jMe} (hL : jLM m) (hC : jCm D m) {M : Nat → Bool} (hM : jyOv D r x m M) (hW : jyW D m r) : ∀ (t k f p : Nat) (y q : Nat), k + t = jDz D r → t < f → p ≤ jMX → jpk1 D r M t k p = some (y, q) → c_X10_ledInto_l6 F f m 101 (Int32.ofNat r) x (Int64.ofNat p) (Int32.ofNat k) = some (.inl (Int32.ofNat y, jsL m 101 41 (Int64.ofNat q))) := by
  have hDr := hD.2.2.1 r hr
  have hz := hDr.2.2.1
  intro t
  induction t with
  | zero => intro k f p y q h1 h2 h3 h4; cases h4
  | succ t ih =>
    intro k f p y q h1 h2 h3 h4
    obtain ⟨f, rfl⟩ := jsucc h2
    have hk : k < jDz D r := by omega
    obtain ⟨w1, w2⟩ := hW k hk
    have hst : ∀ z, (if M k = true then (if jW1 D r k ≤ p then c_X10_ledInto_l6 F f m 101 (Int32.ofNat r) x (Int64.ofNat (p - jW1 D r k)) (Int32.ofNat (k + 1)) else some (.inl (Int32.ofNat k, jsL m 101 41 (Int64.ofNat p)))) else c_X10_ledInto_l6 F f m 101 (Int32.ofNat r) x (Int64.ofNat p) (Int32.ofNat (k + 1))) = z → c_X10_ledInto_l6 F (f + 1) m 101 (Int32.ofNat r) x (Int64.ofNat p) (Int32.ofNat k) = z := by
      intro z h
      rw [← h]
      show c_X10_ledInto_l6_b F _ m _ _ _ _ _ = _
      unfold c_X10_ledInto_l6_b c_X10_ledInto_j44_l6 c_X10_ledInto_j67_l6
      simp only [jgd_t hL.1, jp_114 hL, jgd_t (jk_114 hL), jz_114 hL, jp_117 hL, jgd_t (jk_117 hL), jz_117 hL]
      rw [jp_107 hL, jgd_t (jk_107 hL), jz_107 hL, jgd_t (ji_int (by omega) hr), ji_n (by omega), (hC.2.2.2 r hr).2.2.1, if_neg (ji_len (by omega) (by omega) (by omega)), show (8 : Int32) = Int32.ofNat 8 from rfl, ji_mul, ji_add, jgd_t (ji_int (by omega) (by omega)), ji_n (by omega), w1, show Int32.ofNat k + 1 = Int32.ofNat (k + 1) from ji_add k 1]
      have h0 : (0 : Int32) ≤ lg_cmp (Int64.ofNat p) (0 : Int64) := jc_0le.mpr (jq_0le h3)
      have hsub : Int64.ofNat p - 0 = Int64.ofNat p := by
        rw [show (0 : Int64) = Int64.ofNat 0 from rfl, jq_sub (by omega), Nat.sub_zero]
      have hw : ∀ {α : Type} (a b : α), (if (0 : Int32) ≤ lg_cmp (Int64.ofNat p) (Int64.ofNat (jW1 D r k)) then a else b) = if jW1 D r k ≤ p then a else b := by
        intro α a b
        by_cases e : jW1 D r k ≤ p
        · rw [if_pos e, if_pos (jc_0le.mpr ((jq_le w2 h3).mpr e))]
        · rw [if_neg e, if_neg (fun h => e ((jq_le w2 h3).mp (jc_0le.mp h)))]
      have hs : ∀ e : jW1 D r k ≤ p, Int64.ofNat p - Int64.ofNat (jW1 D r k) = Int64.ofNat (p - jW1 D r k) := fun e => jq_sub e
      rcases hM with ⟨rfl, hM⟩ | ⟨u, ku, rfl, hu, hR, hku, hM⟩
      · rw [if_pos rfl, if_neg (show ¬ (1 : Int32) = 0 by decide), hw, hM k, if_pos rfl]
        by_cases e : jW1 D r k ≤ p
        · rw [if_pos e, if_pos e, hs e]
        · rw [if_neg e, if_neg e]
      · rw [if_neg (ji_m1 (by omega)), jgd_t (ji_int (by omega) hu), ji_n (by omega), hR, y_isMatching hF hL hC hu hr (hD.2.2.1 u hu) hDr hku hk, jb_some, hM k]
        cases jmt D u ku r k with
        | true =>
          rw [if_neg (show ¬ jbi true = 0 by decide), if_neg (show ¬ (1 : Int32) = 0 by decide), hw, if_pos rfl]
          by_cases e : jW1 D r k ≤ p
          · rw [if_pos e, if_pos e, hs e]
          · rw [if_neg e, if_neg e]
        | false =>
          rw [if_pos (show jbi false = 0 from rfl), if_neg (show ¬ false = true by decide)]
          first | rw [if_pos rfl, if_pos h0, hsub] | rw [if_pos trivial, if_pos h0, hsub] | rw [if_pos h0, hsub]
    refine hst _ ?_
    rw [jpk1] at h4
    by_cases e : M k = true
    · rw [if_pos e] at h4 ⊢
      by_cases e2 : p < jW1 D r k
      · rw [if_pos e2] at h4
        cases h4
        rw [if_neg (by omega)]
      · rw [if_neg e2] at h4
        rw [if_pos (by omega)]
        exact ih (k + 1) f _ y q (by omega) (by omega) (by omega) h4
    · rw [if_neg e] at h4 ⊢
      exact ih (k + 1) f p y q (by omega) (by omega) h3 h4
theorem y_ledInto (hF : 100 < F) (hD : jDok D) {r : Nat} (hr : r < 4) {x : Int32} {m : jMe} (hL : jLM m) (hC : jCm D m) {M : Nat → Bool} (hM : jyOv D r x m M) (hW : jyW D m r) {p y q : Nat} (hp : p ≤ jMX) (h : jpk1 D r M (jDz D r) 0 p = some (y, q)) : c_X10_ledInto F m 101 (Int32.ofNat r) x (Int64.ofNat p) = some (Int32.ofNat y, jsL m 101 41 (Int64.ofNat q)) := by
  have hz := (hD.2.2.1 r hr).2.2.1
  unfold c_X10_ledInto
  have a := y_ledInto_l6 (F := F) hF hD hr hL hC hM hW (jDz D r) 0 F p y q (by omega) (by omega) hp h
  have a : c_X10_ledInto_l6 F F m 101 (Int32.ofNat r) x (Int64.ofNat p) (0 : Int32) = _ := a
  rw [a, jb2_l]
theorem jS1_le {r k c : Nat} (hg : ¬ jGt D) (hr : r < 4) (hrk : (jdK D).testBit r = true) (hk : k < jDz D r) (hp : jpb D r k = true) (hc : c < 4) (hkid : jkid D c r = true) : jS1 D r k c ≤ jMX := by
  apply Nat.le_of_not_lt
  intro h
  exact hg (Or.inl ⟨r, k, hr, hrk, hk, hp, c, hc, hkid, Or.inl h⟩)
theorem y_sum_kid (hF : 100 < F) (hD : jDok D) {r k c : Nat} (hr : r < 4) (hrk : (jdK D).testBit r = true) (hk : k < jDz D r) (hp : jpb D r k = true) (hc : c < 4) (hkid : jkid D c r = true) (hco : c ∈ jord D) {m : jMe} (hY : jYg D S m) : ∃ m', c_X10_sumOf F m 101 (Int32.ofNat c) (Int32.ofNat r) (Int32.ofNat k) = some (Int64.ofNat (jS1 D r k c), m') ∧ jy31 m m' ∧ jYg D S m' := by
  obtain ⟨m', v', g', a1, a2, a3, a4, a5⟩ := y_sumOf (F := F) hF hD hc (x := Int32.ofNat r) (y := Int32.ofNat k) (M := jmt D r k c) (Or.inr ⟨r, k, rfl, rfl, hr, hk, fun _ => rfl⟩) (w := jW1 D c) (g := false) hY.1.1.1 hY.1.1.2.1 hY.2.1 (fun _ x hx _ => (hY.2.2.2.1 c hco).1 x hx)
  have hS : jsum (jDz D c) (fun x => if jmt D r k c x = true then jW1 D c x else 0) = jS1 D r k c := rfl
  rw [hS] at a4 a5
  have hle := jS1_le hY.2.2.2.2.2.2 hr hrk hk hp hc hkid
  have hg : g' = false := by
    cases g' with
    | false => rfl
    | true =>
      rcases a5 rfl with h | h
      · cases h
      · omega
  subst hg
  rw [(a4 rfl).2.1] at a1
  exact ⟨m', a1, a2, jYg_31 a2 a3 hY⟩
abbrev jyFl (m m' : jMe) : Prop := jfx (fun a i => a = 117 ∨ (a = 101 ∧ (i = 31 ∨ i = 41))) m m'
def jyX (D : jD) (p0 x : Nat) (m : jMe) : Prop := jI m 117 x = Int32.ofNat (jrw D p0 x)
/-- what changes comes right -/
def jyCh (D : jD) (p0 : Nat) (m m' : jMe) : Prop := ∀ x, jI m' 117 x = jI m 117 x ∨ jyX D p0 x m'
theorem jyCh.keep {p0 x : Nat} {m m' : jMe} (h : jyCh D p0 m m') (k : jyX D p0 x m) : jyX D p0 x m' := by
  rcases h x with e | e
  · unfold jyX
    rw [e]
    exact k
  · exact e
theorem jyCh.trans {p0 : Nat} {m m' m'' : jMe} (h : jyCh D p0 m m') (k : jyCh D p0 m' m'') : jyCh D p0 m m'' := by
  intro x
  rcases k x with e | e
  · rcases h x with e2 | e2
    · exact Or.inl (by rw [e, e2])
    · exact Or.inr (k.keep e2)
  · exact Or.inr e
theorem jdiv {a b : Nat} (ha : a ≤ jMX) (hb : b ≤ jMX) : Int64.ofNat a / Int64.ofNat b = Int64.ofNat (a / b) := jq_div ha hb
theorem y_leads_l22 (hF : 100 < F) (hD : jDok D) {p0 r : Nat} (hr : r < 4) (hrk : (jdK D).testBit r = true) (hk : jrw D p0 r < jDz D r) (hpb : jpb D r (jrw D p0 r) = true) (hpos : ∀ c, c < 4 → jkid D c r = true → 0 < jS1 D r (jrw D p0 r) c ∧ c ∈ jord D) {G : jMe → Nat → Int32 → Int32 → Int64 → Option jMe} (hG : ∀ (m : jMe) (c : Nat), c < 4 → jkid D c r = true → jYg D S m → jyX D p0 r m → ∃ m', G m 101 (Int32.ofNat c) (Int32.ofNat r) (Int64.ofNat (jLv D p0 c)) = some m' ∧ jYg D S m' ∧ jyFl m m' ∧ jyCh D p0 m m' ∧ ∀ n y, jupar D n y = some c → jyX D p0 y m') : ∀ (t f p : Nat) (m : jMe), t ≤ 4 → t < f → p ≤ jMX → jYg D S m → jyX D p0 r m → (∀ c, c < t → jkid D c r = true → jLv D p0 c = jcl1 D r (jrw D p0 r) t p c) → ∃ m', c_X10_leads_l22 F G f m 101 (Int32.ofNat r) (Int64.ofNat p) (Int32.ofNat t - 1) = some m' ∧ jYg D S m' ∧ jyFl m m' ∧ jyCh D p0 m m' ∧ ∀ c, c < t → jkid D c r = true → ∀ n y, jupar D n y = some c → jyX D p0 y m' := by
  have hq := jDok_q hD
  intro t
  induction t with
  | zero =>
    intro f p m h1 h2 hp hY hX hc
    obtain ⟨f, rfl⟩ := jsucc h2
    refine ⟨m, ?_, hY, jfx.rfl, fun x => Or.inl rfl, fun c h => by omega⟩
    show c_X10_leads_l22_b F G _ m _ _ _ _ = _
    unfold c_X10_leads_l22_b
    rw [if_pos jdown0]
  | succ t ih =>
    intro f p m h1 h2 hp hY hX hc
    obtain ⟨f, rfl⟩ := jsucc h2
    have hL := hY.1.1.1
    have hX' : jI m 117 r = Int32.ofNat (jrw D p0 r) := hX
    have hst : ∀ z, (if jkid D t r = true then (jb (c_X10_sumOf F m 101 (Int32.ofNat t) (Int32.ofNat r) (Int32.ofNat (jrw D p0 r))) fun t15 => jgd (¬ t15.1 = 0) <| jgd (jK t15.2 101 = 42) <| jb (G t15.2 101 (Int32.ofNat t) (Int32.ofNat r) (jlrem (Int64.ofNat p) t15.1)) fun t19 => jgd (¬ t15.1 = 0) <| c_X10_leads_l22 F G f t19 101 (Int32.ofNat r) (Int64.ofNat p / t15.1) (Int32.ofNat t - 1)) else c_X10_leads_l22 F G f m 101 (Int32.ofNat r) (Int64.ofNat p) (Int32.ofNat t - 1)) = z → c_X10_leads_l22 F G (f + 1) m 101 (Int32.ofNat r) (Int64.ofNat p) (Int32.ofNat (t + 1) - 1) = z := by
      intro z h
      rw [← h]
      show c_X10_leads_l22_b F G _ m _ _ _ _ = _
      unfold c_X10_leads_l22_b
      rw [jdown_s, if_neg (ji_ge0 (by omega)), jgd_t hL.1, y_childrenOf hF hL hY.1.2.1 hY.1.2.2 hq hr, jb_some, y_kidbit (by omega), jp_117 hL, jgd_t (jk_117 hL), jz_117 hL, jgd_t (ji_int (by omega) hr), ji_n (by omega), hX', jdown]
      cases jkid D t r with
      | true => rw [if_pos (by decide), if_pos rfl]
      | false => rw [if_neg (by decide), if_neg (by decide)]
    by_cases hkid : jkid D t r = true
    · rw [if_pos hkid] at hst
      obtain ⟨hp0, hto⟩ := hpos t (by omega) hkid
      have hSle := jS1_le hY.2.2.2.2.2.2 hr hrk hk hpb (by omega) hkid
      obtain ⟨m1, a1, a2, a3⟩ := y_sum_kid (F := F) hF hD hr hrk hk hpb (by omega) hkid hto hY
      have hne : ¬ Int64.ofNat (jS1 D r (jrw D p0 r) t) = 0 := fun h => by
        rw [show (0 : Int64) = Int64.ofNat 0 from rfl, jq_eq hSle (by omega)] at h
        omega
      have hX1 : jyX D p0 r m1 := by
        unfold jyX
        rw [a2.I (by omega)]
        exact hX
      have hlv : jLv D p0 t = p % jS1 D r (jrw D p0 r) t := by
        rw [hc t (by omega) hkid, jcl1, if_pos hkid, if_pos rfl]
      obtain ⟨m2, b1, b2, b3, b4, b5⟩ := hG m1 t (by omega) hkid a3 hX1
      have hdl := Nat.div_le_self p (jS1 D r (jrw D p0 r) t)
      obtain ⟨m', c1, c2, c3, c4, c5⟩ := ih f (p / jS1 D r (jrw D p0 r) t) m2 (by omega) (by omega) (by omega) b2 (b4.keep hX1) (fun c hct hck => by
        rw [hc c (by omega) hck, jcl1, if_pos hkid, if_neg (by omega)])
      have hch1 : jyCh D p0 m m1 := fun x => Or.inl (a2.I (by omega))
      refine ⟨m', hst _ ?_, c2, ((a2.weak (fun a i h => Or.inr ⟨h.1, Or.inl h.2⟩)).trans b3).trans c3, (hch1.trans b4).trans c4, fun c hct hck n y hy => ?_⟩
      · rw [a1, jb_some]
        dsimp only
        rw [jgd_t hne, jgd_t a3.1.1.1.1, jq_rem hp hSle hp0, ← hlv, b1, jb_some, jgd_t hne, jdiv hp hSle]
        exact c1
      · by_cases e : c = t
        · subst e
          exact c4.keep (b5 n y hy)
        · exact c5 c (by omega) hck n y hy
    · rw [if_neg hkid] at hst
      obtain ⟨m', c1, c2, c3, c4, c5⟩ := ih f p m (by omega) (by omega) hp hY hX (fun c hct hck => by
        rw [hc c (by omega) hck, jcl1, if_neg hkid])
      refine ⟨m', hst _ c1, c2, c3, c4, fun c hct hck n y hy => ?_⟩
      by_cases e : c = t
      · subst e; exact absurd hck hkid
      · exact c5 c (by omega) hck n y hy
theorem jAll_le (hg : ¬ jGt D) : jAll D ≤ jMX := Nat.le_of_not_lt (fun h => hg (Or.inr (Or.inl h)))
/-- one step of leads -/
theorem y_leads_st (hF : 100 < F) (hD : jDok D) {root p0 : Nat} (hT : jTre (jDa D) (jdK D) root (jpar D) (jord D)) (hrt : jrt D = some root) (hp0 : p0 < jAll D) {pre : List Nat} {r : Nat} {post : List Nat} (h2 : jord D = pre ++ r :: post) {m : jMe} {x : Int32} (hY : jYg D S m) (hx : (jpar D r = none ∧ x = -1) ∨ ∃ u, jpar D r = some u ∧ u < 4 ∧ jrw D p0 u < jDz D u ∧ x = Int32.ofNat u ∧ jyX D p0 u m) {G : jMe → Nat → Int32 → Int32 → Int64 → Option jMe} (hG : ∀ (m : jMe) (c : Nat), c < 4 → jkid D c r = true → jYg D S m → jyX D p0 r m → ∃ m', G m 101 (Int32.ofNat c) (Int32.ofNat r) (Int64.ofNat (jLv D p0 c)) = some m' ∧ jYg D S m' ∧ jyFl m m' ∧ jyCh D p0 m m' ∧ ∀ n y, jupar D n y = some c → jyX D p0 y m') : ∃ m', c_X10_leads_b F G m 101 (Int32.ofNat r) x (Int64.ofNat (jLv D p0 r)) = some m' ∧ jYg D S m' ∧ jyFl m m' ∧ jyCh D p0 m m' ∧ ∀ N y, jupar D N y = some r → jyX D p0 y m' := by
  have hall := jAll_le hY.2.2.2.2.2.2
  have hro : r ∈ jord D := by rw [h2]; simp
  obtain ⟨hr, hrk⟩ := (hT.2.1 r).mp hro
  have hz := (hD.2.2.1 r hr).2.2.1
  obtain ⟨g1, g2, g3, g4, g5, g6⟩ := jlr_ok hT hrt hp0 hD.2.2.1 post.length pre r post (Nat.le_refl _) h2
  have hW := (hY.2.2.2.1 r hro).1
  have hpl : jLv D p0 r ≤ jMX := by
    rcases g6 with g6 | ⟨u, u1, u2⟩
    · omega
    · rcases hx with ⟨h, -⟩ | ⟨u', hu', hu4, hku, -, -⟩
      · rw [h] at u1; cases u1
      · rw [hu'] at u1
        cases u1
        have hkid : jkid D r u = true := by
          unfold jkid
          rw [hrk, hu', Bool.true_and]
          simp
        obtain ⟨q, q1, q2, -⟩ : ∃ q, jpar D r = some q ∧ q ∈ post ∧ True := by
          have h3 := hT.2.2 pre r post h2
          have hne : post ≠ [] := fun e => by rw [(h3.1 e).2] at hu'; cases hu'
          obtain ⟨q, q1, q2, -⟩ := h3.2 hne
          exact ⟨q, q1, q2, trivial⟩
        rw [hu'] at q1
        cases q1
        have huo : u ∈ jord D := by rw [h2]; simp [q2]
        obtain ⟨p1, p2, e2⟩ := List.append_of_mem huo
        have hu := jlr_ok hT hrt hp0 hD.2.2.1 p2.length p1 u p2 (Nat.le_refl _) e2
        have := jS1_le hY.2.2.2.2.2.2 hu4 ((hT.2.1 u).mp huo).2 hku hu.2.1 hr hkid
        omega
  have hOv : jyOv D r x m (jMr D p0 r) := by
    rcases hx with ⟨h, rfl⟩ | ⟨u, hu, hu4, hku, rfl, hX⟩
    · refine Or.inl ⟨rfl, fun i => ?_⟩
      unfold jMr
      rw [h]
    · refine Or.inr ⟨u, jrw D p0 u, rfl, hu4, hX, hku, fun i => ?_⟩
      unfold jMr
      rw [hu]
  have a1 := y_ledInto (F := F) hF hD hr hY.1.1.1 hY.1.1.2.1 hOv hW hpl g5
  generalize hm1 : jsI (jsL m 101 41 (Int64.ofNat (jin1 D p0 r))) 117 r (Int32.ofNat (jrw D p0 r)) = m1
  have f1 : jfx (fun a i => a = 117 ∨ (a = 101 ∧ i = 41)) m m1 := by
    rw [← hm1]
    exact (jfx_L (S := fun a i => a = 117 ∨ (a = 101 ∧ i = 41)) (Or.inr ⟨rfl, rfl⟩)).trans (jfx_I (Or.inl rfl))
  have hY1 : jYg D S m1 := jYg_fx f1 (fun a i h => by unfold jSyg jSr at h; omega) hY
  have hX1 : jyX D p0 r m1 := by
    unfold jyX
    rw [← hm1, jsI_y]
  have hch1 : jyCh D p0 m m1 := by
    intro y
    by_cases e : y = r
    · subst e; exact Or.inr hX1
    · exact Or.inl (by rw [← hm1, jsI_no (by omega), jI_sL])
  have hin : jin1 D p0 r ≤ jMX := by
    have := (hW _ g1).2
    omega
  have hpos : ∀ c, c < 4 → jkid D c r = true → 0 < jS1 D r (jrw D p0 r) c ∧ c ∈ jord D := by
    intro c hc hk
    refine ⟨jS_pos hT hro g2 g3 c hc hk, ?_⟩
    have := jTr_kids hT h2 hc hk
    rw [h2]
    exact List.mem_append_left _ this
  obtain ⟨m', b1, b2, b3, b4, b5⟩ := y_leads_l22 (F := F) hF hD hr hrk g1 g2 hpos hG 4 F (jin1 D p0 r) m1 (by omega) (by omega) hin hY1 hX1 (fun c hc hk => by
    unfold jkid at hk
    rw [Bool.and_eq_true, beq_iff_eq] at hk
    unfold jLv
    rw [hk.2])
  refine ⟨m', ?_, b2, (f1.weak (fun a i h => by omega)).trans b3, hch1.trans b4, fun N y hy => ?_⟩
  · unfold c_X10_leads_b
    have hL := hY.1.1.1
    have b1 : c_X10_leads_l22 F G F m1 101 (Int32.ofNat r) (Int64.ofNat (jin1 D p0 r)) (3 : Int32) = _ := b1
    rw [jgd_t hL.1, a1, jb_some]
    dsimp only
    rw [jp_117 hL, jK_sL, jZ_sL, jgd_t (jk_117 hL), jz_117 hL, jgd_t (ji_int (by omega) hr), jgd_t hL.1, ji_n (by omega), hm1]
    rw [show jL m1 101 41 = Int64.ofNat (jin1 D p0 r) by rw [← hm1, jL_sI, jsL_y], b1, jb_some]
  · cases N with
    | zero =>
      cases hy
      exact b4.keep hX1
    | succ N =>
      unfold jupar at hy
      cases h : jupar D N y with
      | none => rw [h] at hy; cases hy
      | some c =>
        rw [h] at hy
        have hy : jpar D c = some r := hy
        have hcm : (c, r) ∈ (jdP D).1 := jlk_mem hy
        have hc4 : c < 4 ∧ (jdK D).testBit c = true := by
          have hc : c ∈ jord D := by
            unfold jord
            exact List.mem_append_left _ (List.mem_map.mpr ⟨_, hcm, rfl⟩)
          exact (hT.2.1 c).mp hc
        have hk : jkid D c r = true := by
          unfold jkid
          rw [hc4.2, hy, Bool.true_and]
          simp
        exact b5 c hc4.1 hk N y h
theorem y_leads (hF : 100 < F) (hD : jDok D) {root p0 : Nat} (hT : jTre (jDa D) (jdK D) root (jpar D) (jord D)) (hrt : jrt D = some root) (hp0 : p0 < jAll D) : ∀ (n : Nat) (pre : List Nat) (r : Nat) (post : List Nat) (K : Nat) (m : jMe) (x : Int32), pre.length ≤ n → jord D = pre ++ r :: post → n < K → jYg D S m → ((jpar D r = none ∧ x = -1) ∨ ∃ u, jpar D r = some u ∧ u < 4 ∧ jrw D p0 u < jDz D u ∧ x = Int32.ofNat u ∧ jyX D p0 u m) → ∃ m', c_X10_leads F K m 101 (Int32.ofNat r) x (Int64.ofNat (jLv D p0 r)) = some m' ∧ jYg D S m' ∧ jyFl m m' ∧ jyCh D p0 m m' ∧ ∀ N y, jupar D N y = some r → jyX D p0 y m' := by
  intro n
  induction n with
  | zero =>
    intro pre r post K m x h1 h2 h3 hY hx
    obtain ⟨K, rfl⟩ := jsucc h3
    have hpe : pre = [] := List.eq_nil_of_length_eq_zero (by omega)
    exact y_leads_st hF hD hT hrt hp0 h2 hY hx (G := fun m x0 x1 x2 x3 => c_X10_leads F K m x0 x1 x2 x3) (fun m c hc hk _ _ => by
      have := jTr_kids hT h2 hc hk
      rw [hpe] at this
      cases this)
  | succ n ih =>
    intro pre r post K m x h1 h2 h3 hY hx
    obtain ⟨K, rfl⟩ := jsucc (show 0 < K by omega)
    refine y_leads_st hF hD hT hrt hp0 h2 hY hx (G := fun m x0 x1 x2 x3 => c_X10_leads F K m x0 x1 x2 x3) (fun m c hc hk hY' hX' => ?_)
    have hcp := jTr_kids hT h2 hc hk
    obtain ⟨p1, p2, e⟩ := List.append_of_mem hcp
    have hlen : p1.length ≤ n := by
      rw [e] at h1
      simp only [List.length_append, List.length_cons] at h1
      omega
    have hro : r ∈ jord D := by rw [h2]; simp
    have hr := ((hT.2.1 r).mp hro).1
    have g1 := (jlr_ok hT hrt hp0 hD.2.2.1 post.length pre r post (Nat.le_refl _) h2).1
    have hpc : jpar D c = some r := by
      unfold jkid at hk
      rw [Bool.and_eq_true, beq_iff_eq] at hk
      exact hk.2
    exact ih p1 c (p2 ++ r :: post) K m (Int32.ofNat r) hlen (by rw [h2, e]; simp) (by omega) hY' (Or.inr ⟨r, hpc, hr, g1, rfl, hX'⟩)
end YLEAD
