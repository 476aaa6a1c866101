/-! worth, told, about, shape, as the class tells them -/
section XTELL
variable {F w : Nat} {D : jD} {m : jMe}
theorem xq_worth (h : xqB D w m) {x1 x2 : Int32} : c_X9_worth F m 32 x1 x2 = some (jwrt D x1 x2) := by
  have hL := h.2.1.1
  have hR := h.2.1.2.1.1
  unfold c_X9_worth jwrt
  rw [jgd_t hL.1, xq_isRow h, jb_some]
  cases e1 : jrow D x1 x2 with
  | false => rfl
  | true =>
    obtain ⟨r, k, rfl, rfl, hr, hk, hr2, hk2⟩ := jrow_nat e1
    have hr4 : r < 4 := Nat.lt_of_lt_of_le hr h.1.1
    have hrr := xq_rel h hr4
    rw [if_neg (show ¬ jbi true = 0 by decide), if_pos rfl, ji_n hr2, ji_n hk2, hL.2.1, jgd_t hR.1, hR.2.1, jgd_t (ji_int hr2 hr4), hrr.1, jgd_t hrr.2.1, q_worthOf hrr.2 (h.1.2.2.1 r hr4) (h.2.2.2.1 r hr4) hk, jb_some]
/-- rows that pass, by THE RULE -/
theorem xq_passing (hF : 2000 < F) (h : xqQ D w m) {r : Nat} (hr : r < 4) : ∃ m', c_X4_passing F m (jrc r) (xtb (jDr D)) (Int32.ofNat r) = some (Int32.ofNat (jpw D r), m') ∧ xqF xqO m m' ∧ xqQ D w m' := by
  have hB := h.1
  obtain ⟨-, n, hT⟩ := hB.2.2.2.2.2.2 (jDr D) hB.2.2.2.2.2.1.2.2
  obtain ⟨f, a1⟩ := q_passing (F := F) (D := D) hF hr hT (xq_rel hB hr).2 (hB.1.2.2.1 r hr) (hB.2.2.2.1 r hr)
  have hc := xtb_c (jDr D)
  have hx : xqF (fun a _ => a = xts (jDr D)) m (jset m (xts (jDr D)) f) := xqF_fr (P := fun a => a = xts (jDr D)) (jset_f rfl) (fun _ _ q => q)
  exact ⟨_, a1, hx.weak (fun a i q => by unfold xqO; omega), xqQ_fx hx (fun a i q => by unfold xqV; omega) h⟩
theorem xq_told5 (hF : 2000 < F) (h : xqQ D w m) {x1 x2 x3 : Int32} : ∃ m', c_X9_told F m 32 x1 x2 x3 = some (if (jrow D x1 x2 && jbt2 x3 0 5) = true then jtld D x1.toNatClampNeg x2.toNatClampNeg x3.toNatClampNeg else -2, m') ∧ xqF xqO m m' ∧ xqQ D w m' := by
  have hB := h.1
  have hL := hB.2.1.1
  have hR := hB.2.1.2.1.1
  unfold c_X9_told
  rw [jgd_t hL.1, xq_isRow hB, jb_some, xi_c05]
  cases e1 : jrow D x1 x2 with
  | false => exact ⟨m, rfl, xqF.rfl, h⟩
  | true =>
    obtain ⟨r, k, rfl, rfl, hr, hk, hr2, hk2⟩ := jrow_nat e1
    have hr4 : r < 4 := Nat.lt_of_lt_of_le hr hB.1.1
    have hrr := xq_rel hB hr4
    have hDr := hB.1.2.2.1 r hr4
    have hC := hB.2.2.2.1 r hr4
    have hz := hDr.2.2.1
    rw [if_neg (show ¬ jbi true = 0 by decide), Bool.true_and]
    cases e2 : jbt2 x3 0 5 with
    | false => exact ⟨m, rfl, xqF.rfl, h⟩
    | true =>
      obtain ⟨d, rfl, hd2, -, hd⟩ := jbt2_nat e2
      rw [if_pos rfl, if_pos rfl, ji_n hr2, ji_n hk2, ji_n hd2, hL.2.1, jgd_t hR.1, hR.2.1, jgd_t (ji_int hr2 hr4), hrr.1]
      unfold jtld
      by_cases d3 : d = 3
      · rw [if_pos (show Int32.ofNat d = 3 by rw [d3]; rfl), if_pos d3, jgd_t hrr.2.1, hrr.2.2.2.1, jgd_t hrr.2.2.2.2.2.2.1, hrr.2.2.2.2.2.2.2, jgd_t (ji_int hk2 (by omega)), (hC.2.2.2.2.2 k hk).2]
        exact ⟨m, rfl, xqF.rfl, h⟩
      rw [if_neg (show ¬ Int32.ofNat d = 3 from ji_eqn (b := 3) hd2 (by omega) d3), if_neg d3]
      by_cases d4 : d = 4
      · rw [if_pos (show Int32.ofNat d = 4 by rw [d4]; rfl), if_pos d4, jgd_t hrr.2.1, q_isLive hrr.2 hDr hC hk2, jb_some]
        refine ⟨m, ?_, xqF.rfl, h⟩
        cases (jDl D r).testBit k <;> rfl
      rw [if_neg (show ¬ Int32.ofNat d = 4 from ji_eqn (b := 4) hd2 (by omega) d4), if_neg d4]
      by_cases d5 : d = 5
      · obtain ⟨m1, a1, a2, a3⟩ := xq_passing (F := F) hF h hr4
        have hrl := hB.2.2.2.2.2.1
        rw [if_pos (show Int32.ofNat d = 5 by rw [d5]; rfl), if_pos d5, hL.2.2.1, jgd_t hB.2.1.2.2.1.1, hB.2.1.2.2.1.2.1, hB.2.2.2.2.1.2.2.1, jgd_t (ji_int (by omega) (by omega)), jgd_t hrr.2.1, ji_n (by omega), xq_text hB hrl.2.2, a1, jb_some]
        dsimp only
        rw [q_isIn (by omega) (Nat.lt_trans jpw_lt (by omega)), jb_some, jpw_bit hDr]
        refine ⟨m1, ?_, a2, a3⟩
        cases jpb D r k <;> rfl
      · rw [if_neg (show ¬ Int32.ofNat d = 5 from ji_eqn (b := 5) hd2 (by omega) d5), if_neg d5, jgd_t hrr.2.1, hrr.2.2.1, jgd_t hrr.2.2.2.2.1, hrr.2.2.2.2.2.1, jgd_t (ji_int hk2 (by omega)), q_attributeAt hrr.2 hDr hC (by omega) (by omega), jb_some]
        cases ea : jatt (jDa D r) d with
        | none =>
          rw [show jo1 none = -1 from rfl, q_valueAt1, jb_some]
          exact ⟨m, rfl, xqF.rfl, h⟩
        | some a =>
          have ha : a < 6 := by
            have := jatg_6 6 0 d a ea
            omega
          rw [show jo1 (some a) = Int32.ofNat a from rfl, q_valueAt hrr.2 hC ha, jb_some, (hC.2.2.2.2.2 k hk).1 a (by omega)]
          exact ⟨m, rfl, xqF.rfl, h⟩
/-- a child's parent is of the tree -/
theorem jkid_K (hD : jDok D) {c r : Nat} (hc : c < 4) (h : jkid D c r = true) : r < 4 ∧ (jdK D).testBit r = true := by
  obtain ⟨root, hT, -⟩ := jtree0 hD
  unfold jkid at h
  rw [Bool.and_eq_true, beq_iff_eq] at h
  obtain ⟨pre, post, e⟩ := List.append_of_mem ((hT.2.1 c).mpr ⟨hc, h.1⟩)
  obtain ⟨p1, p2⟩ := hT.2.2 pre c post e
  by_cases q : post = []
  · rw [(p1 q).2] at h
    cases h.2
  · obtain ⟨x, x1, x2, -⟩ := p2 q
    rw [x1] at h
    have e2 : x = r := Option.some.inj h.2
    subst e2
    exact (hT.2.1 x).mp (by rw [e]; exact List.mem_append_right _ (List.mem_cons_of_mem _ x2))
theorem jkidw_e (hD : jDok D) {r : Nat} : jkidw (jdP D).1 r = if (jdK D).testBit r = true then jbw 4 (fun c => jkid D c r) else 0 := by
  have hq := jDok_q hD
  have h16 : jkidw (jdP D).1 r < 2 ^ 4 := jkidw_16 hq
  apply Nat.eq_of_testBit_eq
  intro c
  by_cases hc : c < 4
  · rw [jkid_w hq hc]
    by_cases e : (jdK D).testBit r = true
    · rw [if_pos e, jbw_bit, decide_eq_true hc, Bool.true_and]
    · rw [if_neg e, Nat.zero_testBit]
      cases q : jkid D c r with
      | false => rfl
      | true => exact absurd (jkid_K hD hc q).2 e
  · rw [Nat.testBit_lt_two_pow (Nat.lt_of_lt_of_le h16 (Nat.pow_le_pow_right (by omega) (by omega)))]
    by_cases e : (jdK D).testBit r = true
    · rw [if_pos e, jbw_bit, decide_eq_false hc, Bool.false_and]
    · rw [if_neg e, Nat.zero_testBit]
theorem xq_parentOf (h : xqC D w m) {r : Nat} (hr : r < 4) : c_X9_parentOf F m 32 (Int32.ofNat r) 50 = some (if (jDq D).testBit r = true then (if (jdK D).testBit r = true then jo1 (jpar D r) else -6) else -7) := by
  have hB := h.1
  have hM := h.2.2.1.2.1
  have hLT := h.2.2.1.1.1.2.2.2.2.2.2.2.2.2.2.2.2.2.2.2.2.2.2
  have hC16 := jdC_lt (D := D)
  have hbits := (jdK_bits (D := D) r hr).2
  unfold c_X9_parentOf
  rw [jgd_t hB.2.1.1.1, xq_isAsked hB (by omega), jb_some]
  cases e1 : (jDq D).testBit r with
  | false => rfl
  | true =>
    rw [if_neg (show ¬ jbi true = 0 by decide), if_pos rfl, jgd_t hLT.1, hM.2.1, q_isIn (by omega) (by omega), jb_some]
    cases e2 : (jdK D).testBit r with
    | false =>
      rw [hbits.mpr ⟨e1, by rw [e2]; decide⟩]
      rfl
    | true =>
      have e3 : (jdC D).testBit r = false := by
        cases q : (jdC D).testBit r with
        | false => rfl
        | true => exact absurd e2 (hbits.mp q).2
      rw [e3, if_pos (show jbi false = 0 from rfl), if_pos rfl, hLT.2.1, jgd_t hLT.2.2.2.2.2.1, hLT.2.2.2.2.2.2.1, jgd_t (ji_int (by omega) hr), ji_n (by omega), hM.2.2.1 r hr]
theorem xq_about (hF : 2000 < F) (h : xqQ D w m) {x1 x2 : Int32} : ∃ m', c_X9_about F m 32 x1 x2 = some (if (jin x1 (jDn D) && jbt2 x2 0 6) = true then jabt D x1.toNatClampNeg x2.toNatClampNeg else -2, m') ∧ xqF xqO m m' ∧ xqQ D w m' := by
  have hB := h.1
  have hL := hB.2.1.1
  have hR := hB.2.1.2.1.1
  have hn := hB.1.1
  unfold c_X9_about
  rw [jgd_t hL.1, xq_isRel hB, jb_some, xi_c06]
  cases e1 : jin x1 (jDn D) with
  | false => exact ⟨m, rfl, xqF.rfl, h⟩
  | true =>
    obtain ⟨r, rfl, hr2, hr⟩ := jin_nat e1
    have hr4 : r < 4 := by omega
    have hrr := xq_rel hB hr4
    have hDr := hB.1.2.2.1 r hr4
    have hC := hB.2.2.2.1 r hr4
    rw [if_neg (show ¬ jbi true = 0 by decide), Bool.true_and]
    cases e2 : jbt2 x2 0 6 with
    | false => exact ⟨m, rfl, xqF.rfl, h⟩
    | true =>
      obtain ⟨d, rfl, hd2, -, hd⟩ := jbt2_nat e2
      rw [if_pos rfl, if_pos rfl, ji_n hr2, ji_n hd2, hL.2.1, jgd_t hR.1, hR.2.1, jgd_t (ji_int hr2 hr4), hrr.1]
      unfold jabt
      by_cases d0 : d = 0
      · rw [if_pos (show Int32.ofNat d = 0 by rw [d0]; rfl), if_pos d0, jgd_t hrr.2.1, hC.1]
        exact ⟨m, rfl, xqF.rfl, h⟩
      rw [if_neg (show ¬ Int32.ofNat d = 0 from ji_eqn (b := 0) hd2 (by omega) d0), if_neg d0]
      by_cases d1 : d = 1
      · rw [if_pos (show Int32.ofNat d = 1 by rw [d1]; rfl), if_pos d1, jgd_t hrr.2.1, hC.2.1]
        exact ⟨m, rfl, xqF.rfl, h⟩
      rw [if_neg (show ¬ Int32.ofNat d = 1 from ji_eqn (b := 1) hd2 (by omega) d1), if_neg d1]
      by_cases d2 : d = 2
      · rw [if_pos (show Int32.ofNat d = 2 by rw [d2]; rfl), if_pos d2, jgd_t hrr.2.1, hC.2.2.2.1]
        exact ⟨m, rfl, xqF.rfl, h⟩
      rw [if_neg (show ¬ Int32.ofNat d = 2 from ji_eqn (b := 2) hd2 (by omega) d2), if_neg d2]
      by_cases d3 : d = 3
      · rw [if_pos (show Int32.ofNat d = 3 by rw [d3]; rfl), if_pos d3, jgd_t hrr.2.1, hC.2.2.2.2.1]
        exact ⟨m, rfl, xqF.rfl, h⟩
      rw [if_neg (show ¬ Int32.ofNat d = 3 from ji_eqn (b := 3) hd2 (by omega) d3), if_neg d3]
      by_cases d4 : d = 4
      · obtain ⟨m1, a1, a2, a3⟩ := xq_current (F := F) hF h
        have hJ := a3.2.2.1.1.1
        rw [if_pos (show Int32.ofNat d = 4 by rw [d4]; rfl), if_pos d4, a1, jb_some]
        dsimp only
        rw [jgd_t hJ.1, jgd_t a3.1.2.1.1.1, hJ.2.1, xq_parentOf a3 hr4, jb_some]
        exact ⟨m1, rfl, a2, xqC_Q a3⟩
      rw [if_neg (show ¬ Int32.ofNat d = 4 from ji_eqn (b := 4) hd2 (by omega) d4), if_neg d4]
      by_cases d5 : d = 5
      · obtain ⟨m1, a1, a2, a3⟩ := xq_current (F := F) hF h
        have hJ := a3.2.2.1.1.1
        have hLT := hJ.2.2.2.2.2.2.2.2.2.2.2.2.2.2.2.2.2.2
        rw [if_pos (show Int32.ofNat d = 5 by rw [d5]; rfl), if_pos d5, a1, jb_some]
        dsimp only
        rw [jgd_t hJ.1, hJ.2.1, jgd_t hLT.1, hLT.2.2.1, jgd_t hLT.2.2.2.2.2.2.2.1, hLT.2.2.2.2.2.2.2.2.1, jgd_t (ji_int hr2 hr4), a3.2.2.1.2.1.2.2.2.1 r hr4, jkidw_e hB.1]
        refine ⟨m1, ?_, a2, xqC_Q a3⟩
        by_cases q : (jdK D).testBit r = true
        · rw [if_pos q, if_pos q]
        · rw [if_neg q, if_neg q]
          rfl
      · obtain ⟨m1, a1, a2, a3⟩ := xq_passing (F := F) hF h hr4
        have hrl := hB.2.2.2.2.2.1
        rw [if_neg (show ¬ Int32.ofNat d = 5 from ji_eqn (b := 5) hd2 (by omega) d5), if_neg d5, hL.2.2.1, jgd_t hB.2.1.2.2.1.1, hB.2.1.2.2.1.2.1, hB.2.2.2.2.1.2.2.1, jgd_t (ji_int (by omega) (by omega)), jgd_t hrr.2.1, ji_n (by omega), xq_text hB hrl.2.2, a1, jb_some, jbw_z hDr]
        exact ⟨m1, rfl, a2, a3⟩
theorem xq_shape (hF : 2000 < F) (h : xqQ D w m) {g : Bool} (hg : g = true ↔ jGt D) {x1 : Int32} : ∃ m', c_X9_shape F m 32 x1 = some (if jbt2 x1 0 4 = true then (if jDq D = 0 then -3 else jshp D g x1.toNatClampNeg) else -2, m') ∧ xqF xqO m m' ∧ xqQ D w m' := by
  have hB := h.1
  have hL := hB.2.1.1
  unfold c_X9_shape
  rw [xi_c04]
  cases e2 : jbt2 x1 0 4 with
  | false => exact ⟨m, rfl, xqF.rfl, h⟩
  | true =>
    obtain ⟨d, rfl, hd2, -, hd⟩ := jbt2_nat e2
    rw [if_pos rfl, if_pos rfl, ji_n hd2, jgd_t hL.1, hB.2.2.2.2.1.2.2.2]
    by_cases hq0 : jDq D = 0
    · rw [if_pos ((jDq_0 hB.1).mpr hq0), if_pos hq0]
      exact ⟨m, rfl, xqF.rfl, h⟩
    obtain ⟨m1, a1, a2, a3⟩ := xq_current (F := F) hF h
    have hJ := a3.2.2.1.1.1
    have hLT := hJ.2.2.2.2.2.2.2.2.2.2.2.2.2.2.2.2.2.2
    have hM := a3.2.2.1.2.1
    rw [if_neg (fun q => hq0 ((jDq_0 hB.1).mp q)), if_neg hq0, a1, jb_some]
    dsimp only
    unfold jshp
    by_cases d0 : d = 0
    · rw [if_pos (show Int32.ofNat d = 0 by rw [d0]; rfl), if_pos d0, jgd_t hJ.1, hJ.2.1, jgd_t hLT.1, hM.1]
      exact ⟨m1, rfl, a2, xqC_Q a3⟩
    rw [if_neg (show ¬ Int32.ofNat d = 0 from ji_eqn (b := 0) hd2 (by omega) d0), if_neg d0]
    by_cases d1 : d = 1
    · rw [if_pos (show Int32.ofNat d = 1 by rw [d1]; rfl), if_pos d1, jgd_t hJ.1, hJ.2.1, jgd_t hLT.1, hM.2.1]
      exact ⟨m1, rfl, a2, xqC_Q a3⟩
    rw [if_neg (show ¬ Int32.ofNat d = 1 from ji_eqn (b := 1) hd2 (by omega) d1), if_neg d1]
    by_cases d2 : d = 2
    · rw [if_pos (show Int32.ofNat d = 2 by rw [d2]; rfl), if_pos d2, jgd_t hJ.1, hJ.2.1, jgd_t hLT.1, hM.2.2.2.2.2.2]
      exact ⟨m1, rfl, a2, xqC_Q a3⟩
    rw [if_neg (show ¬ Int32.ofNat d = 2 from ji_eqn (b := 2) hd2 (by omega) d2), if_neg d2]
    by_cases d3 : d = 3
    · rw [if_pos (show Int32.ofNat d = 3 by rw [d3]; rfl), if_pos d3, jgd_t hJ.1, (xq_great a3 hg).1]
      refine ⟨m1, ?_, a2, xqC_Q a3⟩
      cases g <;> rfl
    · rw [if_neg (show ¬ Int32.ofNat d = 3 from ji_eqn (b := 3) hd2 (by omega) d3), if_neg d3, jgd_t a3.1.2.1.1.1, xq_attrs (by omega) a3.1, jb_some]
      exact ⟨m1, rfl, a2, xqC_Q a3⟩
end XTELL
