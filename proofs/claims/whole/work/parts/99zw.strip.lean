/-! rows removed in thought, in trials: as they are thought of -/
def jit (v : Int64) : Nat := v.toNatClampNeg
def jlvi (D : jD) (v : Int64) : Bool := decide (0 ≤ v ∧ v < 32) && (decide (jit v / 8 < jDn D) && (jDl D (jit v / 8)).testBit (jit v % 8))
def jtr (L : Nat → Int64) (D : jD) : Nat → jD
  | 0 => D
  | o + 1 => jwD (jtr L D o) (jit (L o) / 8) (jit (L o) % 8)
noncomputable def jenu (D : jD) (x : Int64) : Bool := !jgB D && decide (Int64.ofNat (jct D jf1) < x)
noncomputable def jstp (L : Nat → Int64) (x : Int64) (D : jD) : Nat → Nat → Nat × Int32
  | 0, o => (o, 0)
  | t + 1, o => if jlvi (jtr L D o) (L o) = true then (if jenu (jtr L D (o + 1)) x = true then (o + 1, 100 + Int32.ofNat (o + 1)) else jstp L x D t (o + 1)) else (o, -20 - Int32.ofNat o)
noncomputable def jstr (D : jD) (H : jHt) (L0 : Nat × (Nat → Int32)) (x1 : Int32) (x2 : Int64) : Int32 × (Nat × (Nat → Int32)) := if jin x1 4 = true ∧ 0 ≤ x2 then (if jDq D = 0 then (-3, L0) else if H.1 x1.toNatClampNeg = true then (if H.2.2.1 x1.toNatClampNeg ≤ 12 then ((if (jstp (H.2.2.2 x1.toNatClampNeg) x2 D (H.2.2.1 x1.toNatClampNeg) 0).2 = 0 then Int32.ofNat (jstp (H.2.2.2 x1.toNatClampNeg) x2 D (H.2.2.1 x1.toNatClampNeg) 0).1 else (jstp (H.2.2.2 x1.toNatClampNeg) x2 D (H.2.2.1 x1.toNatClampNeg) 0).2), ((jstp (H.2.2.2 x1.toNatClampNeg) x2 D (H.2.2.1 x1.toNatClampNeg) 0).1, fun i => Int64.toInt32 (H.2.2.2 x1.toNatClampNeg ((jstp (H.2.2.2 x1.toNatClampNeg) x2 D (H.2.2.1 x1.toNatClampNeg) 0).1 - 1 - i)))) else (-2, L0)) else (-11, L0)) else (-2, L0)
theorem jtr_c {L L' : Nat → Int64} {D : jD} : ∀ (o : Nat), (∀ i, i < o → L i = L' i) → jtr L D o = jtr L' D o := by
  intro o
  induction o with
  | zero => intro _; rfl
  | succ o ih =>
    intro h
    rw [jtr, jtr, ih (fun i hi => h i (by omega)), h o (by omega)]
theorem jstp_c {L L' : Nat → Int64} {D : jD} {x : Int64} : ∀ (t o : Nat), (∀ i, i < o + t → L i = L' i) → jstp L x D t o = jstp L' x D t o := by
  intro t
  induction t with
  | zero => intro o _; rfl
  | succ t ih =>
    intro o h
    rw [jstp, jstp, jtr_c o (fun i hi => h i (by omega)), jtr_c (o + 1) (fun i hi => h i (by omega)), h o (by omega), ih (o + 1) (fun i hi => h i (by omega))]
theorem jwD_back {D : jD} {r k : Nat} (hD : jDR D r) (hk : k < jDz D r) (hl : (jDl D r).testBit k = true) : jUl (jwD D r k) r (jli (jDl (jwD D r k) r) k true) = D := by
  rw [jUl_l, if_pos rfl, jli_same hD.2.2.2.1 hD.2.2.1 hk hl]
  exact jUl_id _ _
/-- items that tell rows -/
theorem jit_n : ∀ n : Fin 32, Int64.toInt32 (Int64.ofNat n.1) = Int32.ofNat n.1 ∧ Int32.ofNat n.1 / (8 : Int32) = Int32.ofNat (n.1 / 8) ∧ jrem (Int32.ofNat n.1) (8 : Int32) = Int32.ofNat (n.1 % 8) := by decide +kernel
theorem jit_e {v : Int64} (h0 : 0 ≤ v) (h1 : v < 32) : v = Int64.ofNat (jit v) ∧ jit v < 32 ∧ Int64.toInt32 v = Int32.ofNat (jit v) ∧ Int32.ofNat (jit v) / (8 : Int32) = Int32.ofNat (jit v / 8) ∧ jrem (Int32.ofNat (jit v)) (8 : Int32) = Int32.ofNat (jit v % 8) := by
  have e : v = Int64.ofNat (jit v) := (Int64.ofNat_toNatClampNeg v h0).symm
  have h63 : jit v < 9223372036854775808 := Int64.toNatClampNeg_lt v
  have hlt : jit v < 32 := by
    rw [e] at h1
    exact (jq_lt (b := 32) (by unfold jMX; omega) (by unfold jMX; omega)).mp h1
  obtain ⟨a, b, c⟩ := jit_n ⟨jit v, hlt⟩
  refine ⟨e, hlt, ?_, b, c⟩
  have a : Int64.toInt32 (Int64.ofNat (jit v)) = Int32.ofNat (jit v) := a
  rw [← e] at a
  exact a
theorem jlvi_d {D : jD} (hD : jDok D) {v : Int64} (h : jlvi D v = true) : (0 ≤ v ∧ v < 32) ∧ jit v / 8 < jDn D ∧ jit v / 8 < 4 ∧ (jDl D (jit v / 8)).testBit (jit v % 8) = true ∧ jit v % 8 < jDz D (jit v / 8) := by
  unfold jlvi at h
  rw [Bool.and_eq_true, Bool.and_eq_true, decide_eq_true_eq, decide_eq_true_eq] at h
  have h4 := hD.1
  have hr4 : jit v / 8 < 4 := by omega
  refine ⟨h.1, h.2.1, hr4, h.2.2, ?_⟩
  rcases Nat.lt_or_ge (jit v % 8) (jDz D (jit v / 8)) with q | q
  · exact q
  · have := jl_bits (hD.2.2.1 _ hr4) q
    rw [h.2.2] at this
    cases this
theorem jstp_f {L : Nat → Int64} {D : jD} {x : Int64} : ∀ (t o : Nat), o ≤ (jstp L x D t o).1 ∧ (jstp L x D t o).1 ≤ o + t ∧ ∀ j, o ≤ j → j < (jstp L x D t o).1 → jlvi (jtr L D j) (L j) = true := by
  intro t
  induction t with
  | zero =>
    intro o
    exact ⟨Nat.le_refl _, Nat.le_refl _, fun j h1 h2 => absurd (Nat.lt_of_le_of_lt h1 h2) (Nat.lt_irrefl _)⟩
  | succ t ih =>
    intro o
    rw [jstp]
    by_cases e : jlvi (jtr L D o) (L o) = true
    · rw [if_pos e]
      by_cases e2 : jenu (jtr L D (o + 1)) x = true
      · rw [if_pos e2]
        refine ⟨Nat.le_succ o, by show o + 1 ≤ o + (t + 1); omega, fun j h1 h2 => ?_⟩
        have h2 : j < o + 1 := h2
        rw [show j = o by omega]
        exact e
      · rw [if_neg e2]
        obtain ⟨a1, a2, a3⟩ := ih (o + 1)
        refine ⟨by omega, by omega, fun j h1 h2 => ?_⟩
        by_cases ej : j = o
        · rw [ej]; exact e
        · exact a3 j (by omega) h2
    · rw [if_neg e]
      exact ⟨Nat.le_refl _, Nat.le_add_right _ _, fun j h1 h2 => absurd (Nat.lt_of_le_of_lt h1 h2) (Nat.lt_irrefl _)⟩
/-! .. as the class does it -/
section XSTRIP
variable {F w : Nat} {D : jD} {m : jMe}
theorem xq_thought (hF : 2000 < F) (h : xqB D w m) : ∃ m2, c_X2_tell F m 63 33 (xtb (jDr D)) (Int32.ofNat (jDq D)) = some m2 ∧ xqF xqH m m2 ∧ xqB D w m2 ∧ jI m2 63 5 = jbi (jgB D) ∧ ∃ m3, c_X2_tally F m2 63 = some (Int64.ofNat (jct D jf1), m3) ∧ xqF xqH m2 m3 ∧ xqB D w m3 := by
  obtain ⟨m2, a1, a2, a3, a4⟩ := xq_tell (F := F) hF (b := 63) (Or.inr rfl) h h.2.2.2.2.2.1.2.2 h.1 h.2.2.2.1 rfl
  have hc := xtb_c (jDr D)
  have hx2 : xqF xqH m m2 := a2.weak (fun a i q => by unfold xqH; omega)
  have hB2 : xqB D w m2 := xqB_fx hx2 (fun a i q z => by unfold xqR at q; unfold xqH at z; omega) h
  obtain ⟨g, g1, g2, -⟩ := a3.2.2.2.2.2
  have hg : g = jgB D := Bool.eq_iff_iff.mpr (g2.trans jgB_iff.symm)
  obtain ⟨m3, b1, b2, b3, b4, b5, b6, b7⟩ := q_tally (F := F) hF (jDok_q h.1) a3 (Or.inl a4)
  have hx3 : xqF xqH m2 m3 := xqF_fr b2 (fun a i q => by unfold jSty at q; unfold xqH; omega)
  exact ⟨m2, a1, hx2, hB2, by rw [g1, hg], m3, b1, hx3, xqB_fx hx3 (fun a i q z => by unfold xqR at q; unfold xqH at z; omega) hB2⟩
/-- what trials may change -/
def xqP (a i : Nat) : Prop := xqH a i ∨ (77 ≤ a ∧ a ≤ 88)
theorem xq_without (hF : 2000 < F) (h : xqQ D w m) {x1 x2 : Int32} : ∃ m', c_X9_without F m 32 x1 x2 = some (jwou D (fun r k => jgB (jwD D r k)) x1 x2, m') ∧ xqF xqP m m' ∧ xqQ D w m' := by
  have hB := h.1
  have hL := hB.2.1.1
  have hR := hB.2.1.2.1.1
  unfold c_X9_without jwou jcwo
  rw [jgd_t hL.1, xq_isRow hB, jb_some]
  cases e1 : jrow D x1 x2 with
  | false =>
    refine ⟨m, ?_, xqF.rfl, h⟩
    rw [if_neg (show ¬ (false = true ∧ _) from fun h => by cases h.1)]
    rfl
  | true =>
    obtain ⟨r, k, rfl, rfl, hr, hk, hr2, hk2⟩ := jrow_nat e1
    have hr4 : r < 4 := Nat.lt_of_lt_of_le hr hB.1.1
    have hrr := xq_rel hB hr4
    have hDr := hB.1.2.2.1 r hr4
    have hC := hB.2.2.2.1 r hr4
    rw [if_neg (show ¬ jbi true = 0 by decide), ji_n hr2, ji_n hk2, hL.2.1, jgd_t hR.1, hR.2.1, jgd_t (ji_int hr2 hr4), hrr.1, jgd_t hrr.2.1, q_isLive hrr.2 hDr hC hk2, jb_some]
    cases e2 : (jDl D r).testBit k with
    | false =>
      refine ⟨m, ?_, xqF.rfl, h⟩
      rw [if_pos (show jbi false = 0 from rfl), if_neg (show ¬ (false = true ∧ _) from fun h => by cases h.1), ite_self]
    | true =>
      rw [if_neg (show ¬ jbi true = 0 by decide), hB.2.2.2.2.1.2.2.2]
      by_cases hq0 : jDq D = 0
      · rw [if_pos ((jDq_0 hB.1).mpr hq0), if_neg (fun q => q.2 hq0)]
        exact ⟨m, rfl, xqF.rfl, h⟩
      · have hs : c_X4_setLive F m (jrc r) (Int32.ofNat k) (0 : Int32) = some (jsI m (jrc r) 6 (Int32.ofNat (jli (jDl D r) k false))) := xq_setLive (b := false) hB hr4 hk
        have hB1 : xqB (jwD D r k) w (jsI m (jrc r) 6 (Int32.ofNat (jli (jDl D r) k false))) := xqB_l (b := false) hB hr4 hk
        have hx1 : xqF xqP m (jsI m (jrc r) 6 (Int32.ofNat (jli (jDl D r) k false))) := xqF_x (jfx_I (Or.inr (by unfold jrc; omega)))
        rw [if_neg (fun q => hq0 ((jDq_0 hB.1).mp q)), if_pos (show true = true ∧ jDq D ≠ 0 from ⟨rfl, hq0⟩), jgd_t (ji_int hr2 hr4), hs, jb_some]
        generalize jsI m (jrc r) 6 (Int32.ofNat (jli (jDl D r) k false)) = m1 at hB1 hx1 ⊢
        have hL1 := hB1.2.1.1
        have h21 := hB1.2.1.2.2.1
        have hrl := hB1.2.2.2.2.2.1
        obtain ⟨m2, a1, a2, a3, a4, m3, b1, b2, b3⟩ := xq_thought (F := F) hF hB1
        have hback : ∀ (s0 : Int64) (m4 : jMe), xqB (jwD D r k) w m4 → xqF xqP m m4 → ∃ m', c_X9_without_j91 F m4 32 (Int32.ofNat r) (Int32.ofNat k) s0 = some (s0, m') ∧ xqF xqP m m' ∧ xqQ D w m' := by
          intro s0 m4 hB4 hx4
          have hL4 := hB4.2.1.1
          have hR4 := hB4.2.1.2.1.1
          have hr4' := xq_rel hB4 hr4
          have hs4 : c_X4_setLive F m4 (jrc r) (Int32.ofNat k) (1 : Int32) = some (jsI m4 (jrc r) 6 (Int32.ofNat (jli (jDl (jwD D r k) r) k true))) := xq_setLive (b := true) hB4 hr4 hk
          have hB5 := xqB_l (b := true) hB4 hr4 hk
          rw [jwD_back hDr hk e2] at hB5
          have hx5 : xqF xqP m (jsI m4 (jrc r) 6 (Int32.ofNat (jli (jDl (jwD D r k) r) k true))) := hx4.trans (xqF_x (jfx_I (Or.inr (by unfold jrc; omega))))
          refine ⟨_, ?_, hx5, hB5, ?_⟩
          · unfold c_X9_without_j91
            rw [jgd_t hL4.1, hL4.2.1, jgd_t hR4.1, hR4.2.1, jgd_t (ji_int hr2 hr4), ji_n hr2, hr4'.1, jgd_t hr4'.2.1, hs4, jb_some]
          · obtain ⟨-, st, s1, s2⟩ := h
            exact ⟨st, by rw [hx5.I (by unfold xqP xqH; omega)]; exact s1, fun q => xqJ_fx hx5 (fun a i q1 q2 z => by unfold xqP xqH at z; omega) hB5 (s2 q)⟩
        rw [jgd_t hL1.1, hL1.2.2.1, jgd_t h21.1, h21.2.1, hB1.2.2.2.2.1.2.2.1, jgd_t (ji_int (by omega) (by omega)), hL1.2.2.2.2.2.2.2.2.2.2, jgd_t hB1.2.1.2.1.2.2.1, hL1.2.1, ji_n (by omega), xq_text hB1 hrl.2.2, hB1.2.2.2.2.1.2.2.2, a1, jb_some, jgd_t a3.2.1.1.1, a3.2.1.1.2.2.2.2.2.2.2.2.2.2, jgd_t a3.2.1.2.1.2.2.1, a4]
        cases hg : jgB (jwD D r k) with
        | true =>
          obtain ⟨m', c1, c2, c3⟩ := hback (-4611686018427387904) m2 a3 (hx1.trans (a2.weak (fun a i q => Or.inl q)))
          rw [if_neg (show ¬ jbi true = 0 by decide), if_neg (show ¬ (true = true ∧ (fun r k => jgB (jwD D r k)) r k = false) from fun q => by
            have q2 : jgB (jwD D r k) = false := q.2
            rw [hg] at q2
            cases q2), c1]
          exact ⟨m', rfl, c2, c3⟩
        | false =>
          obtain ⟨m', c1, c2, c3⟩ := hback (Int64.ofNat (jct (jwD D r k) jf1)) m3 b3 ((hx1.trans (a2.weak (fun a i q => Or.inl q))).trans (b2.weak (fun a i q => Or.inl q)))
          rw [if_pos (show jbi false = 0 from rfl), if_pos (show true = true ∧ (fun r k => jgB (jwD D r k)) r k = false from ⟨rfl, hg⟩), b1, jb_some, c1]
          exact ⟨m', rfl, c2, c3⟩
theorem xq_isEnough (hF : 2000 < F) (h : xqB D w m) {x : Int64} : ∃ m', c_X9_isEnough F m 32 x = some (jbi (jenu D x), m') ∧ xqF xqH m m' ∧ xqB D w m' := by
  have hL := h.2.1.1
  have h2 := h.2.1.2.2.1
  have hrl := h.2.2.2.2.2.1
  obtain ⟨m2, a1, a2, a3, a4, m3, b1, b2, b3⟩ := xq_thought (F := F) hF h
  unfold c_X9_isEnough jenu
  rw [jgd_t hL.1, hL.2.2.1, jgd_t h2.1, h2.2.1, h.2.2.2.2.1.2.2.1, jgd_t (ji_int (by omega) (by omega)), hL.2.2.2.2.2.2.2.2.2.2, jgd_t h.2.1.2.1.2.2.1, hL.2.1, ji_n (by omega), xq_text h hrl.2.2, h.2.2.2.2.1.2.2.2, a1, jb_some, jgd_t a3.2.1.1.1, a3.2.1.1.2.2.2.2.2.2.2.2.2.2, jgd_t a3.2.1.2.1.2.2.1, a4]
  cases hg : jgB D with
  | true => exact ⟨m2, rfl, a2, a3⟩
  | false =>
    rw [if_pos (show jbi false = 0 from rfl), b1, jb_some]
    dsimp only
    by_cases e : Int64.ofNat (jct D jf1) < x
    · rw [if_neg (fun q => absurd (Int64.lt_of_le_of_lt (jc_0le.mp q) e) Int64.lt_irrefl), decide_eq_true e]
      exact ⟨m3, rfl, a2.trans b2, b3⟩
    · rw [if_pos (jc_0le.mpr (Int64.not_lt.mp e)), decide_eq_false e]
      exact ⟨m3, rfl, a2.trans b2, b3⟩
theorem xq_isLiveItem (h : xqB D w m) {v : Int64} : c_X9_isLiveItem F m 32 v = some (jbi (jlvi D v)) := by
  have hL := h.2.1.1
  have hR := h.2.1.2.1.1
  have hn := h.1.1
  unfold c_X9_isLiveItem jlvi
  by_cases h0 : v < 0
  · rw [if_pos (jc_lt0.mpr h0), decide_eq_false (fun q => absurd (Int64.lt_of_le_of_lt q.1 h0) Int64.lt_irrefl)]
    rfl
  · by_cases h1 : v < 32
    · obtain ⟨-, h32, e3, e4, e5⟩ := jit_e (Int64.not_lt.mp h0) h1
      rw [if_neg (fun q => h0 (jc_lt0.mp q)), if_pos (jc_lt0.mpr h1), decide_eq_true ⟨Int64.not_lt.mp h0, h1⟩, Bool.true_and, jgd_t hL.1, e3, e4, e5, xq_isRel h, jb_some, ji_in (by omega)]
      by_cases e : jit v / 8 < jDn D
      · have hr4 : jit v / 8 < 4 := by omega
        have hrr := xq_rel h hr4
        rw [decide_eq_true e, if_neg (show ¬ jbi true = 0 by decide), hL.2.1, jgd_t hR.1, hR.2.1, jgd_t (ji_int (by omega) hr4), ji_n (by omega), hrr.1, jgd_t hrr.2.1, q_isLive hrr.2 (h.1.2.2.1 _ hr4) (h.2.2.2.1 _ hr4) (by omega), jb_some]
        cases (jDl D (jit v / 8)).testBit (jit v % 8) <;> rfl
      · rw [decide_eq_false e]
        rfl
    · rw [if_neg (fun q => h0 (jc_lt0.mp q)), if_neg (fun q => h1 (jc_lt0.mp q)), decide_eq_false (fun q => h1 q.2)]
      rfl
theorem xq_setLiveItem (h : xqB D w m) {v : Int64} (h0 : 0 ≤ v) (h1 : v < 32) (hk : jit v % 8 < jDz D (jit v / 8)) {b : Bool} : c_X9_setLiveItem F m 32 (Int64.toInt32 v) (jbi b) = some (jsI m (jrc (jit v / 8)) 6 (Int32.ofNat (jli (jDl D (jit v / 8)) (jit v % 8) b))) := by
  have hL := h.2.1.1
  have hR := h.2.1.2.1.1
  obtain ⟨-, h32, e3, e4, e5⟩ := jit_e h0 h1
  have hr4 : jit v / 8 < 4 := by omega
  have hrr := xq_rel h hr4
  unfold c_X9_setLiveItem
  rw [jgd_t hL.1, hL.2.1, jgd_t hR.1, hR.2.1, e3, e4, e5, jgd_t (ji_int (by omega) hr4), ji_n (by omega), hrr.1, jgd_t hrr.2.1, xq_setLive h hr4 hk, jb_some]
end XSTRIP
