/-! slates, counts, kinds, sheets, as the class holds them -/
section XSHEET
variable {F w : Nat} {D : jD} {m : jMe}
def xSl (L : Nat × (Nat → Int32)) (m : jMe) : Prop := L.1 ≤ 12 ∧ jI m 32 13 = Int32.ofNat L.1 ∧ ∀ i, i < L.1 → jI m 48 i = L.2 i
def xHm (H : jHt) (m : jMe) : Prop := ∀ s, s < 4 → jI m (89 + 2 * s) 1 = (if H.1 s = true then Int32.ofNat (H.2.1 s) else -1) ∧ jI m (89 + 2 * s) 2 = Int32.ofNat (H.2.2.1 s) ∧ H.2.2.1 s ≤ 40 ∧ (H.1 s = true → H.2.1 s ≤ 2) ∧ (H.1 s = false → H.2.2.1 s = 0) ∧ ∀ i, i < H.2.2.1 s → jL m (90 + 2 * s) i = H.2.2.2 s i
theorem xHm_fx {S : Nat → Nat → Prop} {H : jHt} {m' : jMe} (h : xqF S m m') (hS : ∀ a i, 89 ≤ a → a ≤ 96 → ¬ S a i) (k : xHm H m) : xHm H m' := by
  intro s hs
  obtain ⟨k1, k2, k3, k4, k5, k6⟩ := k s hs
  exact ⟨by rw [h.I (hS _ _ (by omega) (by omega))]; exact k1, by rw [h.I (hS _ _ (by omega) (by omega))]; exact k2, k3, k4, k5, fun i hi => by rw [h.L (hS _ _ (by omega) (by omega))]; exact k6 i hi⟩
/-- cells of a sheet -/
theorem xq_sh (h : xqB D w m) {s : Nat} (hs : s < 4) : jP m 35 s = 89 + 2 * s ∧ jLsh m (89 + 2 * s) (90 + 2 * s) := h.2.1.2.2.1.2.2.2.2 s hs
theorem xq_slate {L : Nat × (Nat → Int32)} (h : xqB D w m) (hS : xSl L m) {x1 : Int32} : c_X9_slate F m 32 x1 = some (if jin x1 L.1 = true then L.2 x1.toNatClampNeg else -99) := by
  have hL := h.2.1.1
  have h4 := h.2.1.2.2.2.2
  obtain ⟨s1, s2, s3⟩ := hS
  unfold c_X9_slate
  rw [jgd_t hL.1, s2, xi_lt (by omega)]
  cases e : jin x1 L.1 with
  | false => rfl
  | true =>
    obtain ⟨k, rfl, hk, q⟩ := jin_nat e
    rw [if_pos rfl, if_pos rfl, hL.2.2.2.2.2.2.2.2.1, jgd_t h4.2.2.2.2.2.2.2.2.2.2.2.1, h4.2.2.2.2.2.2.2.2.2.2.2.2, jgd_t (ji_int hk (by omega)), ji_n hk, s3 k q]
theorem xq_taken (h : xqB D w m) {x1 x2 : Int32} : c_X9_taken F m 32 x1 x2 = some (jtkn D x1 x2) := by
  have hL := h.2.1.1
  have hR := h.2.1.2.1.1
  have hn := h.1.1
  unfold c_X9_taken jtkn
  rw [xi_n6, show jin x2 6 = jbt2 x2 0 5 from (jbt_jin (v := x2) (n := 5)).symm]
  cases e1 : jbt2 x2 0 5 with
  | false => rfl
  | true =>
    obtain ⟨k, rfl, hk, -, hk5⟩ := jbt2_nat e1
    rw [if_pos rfl, if_pos rfl, jgd_t hL.1, xq_isRel h, jb_some]
    cases e2 : jin x1 (jDn D) with
    | false => rfl
    | true =>
      obtain ⟨r, rfl, hr2, hr⟩ := jin_nat e2
      have hr4 : r < 4 := by omega
      have hrr := xq_rel h hr4
      rw [if_neg (show ¬ jbi true = 0 by decide), if_pos rfl, ji_n hr2, ji_n hk, hL.2.1, jgd_t hR.1, hR.2.1, jgd_t (ji_int hr2 hr4), hrr.1, jgd_t hrr.2.1, q_isA hrr.2 h.2.2.1.1 (h.1.2.2.1 r hr4) (h.2.2.2.1 r hr4) (by omega), jb_some]
      cases e3 : jisa (jDk D r) k with
      | false => rfl
      | true => rw [if_neg (show ¬ jbi true = 0 by decide), if_pos rfl, jgd_t (ji_int hr2 hr4), (h.2.2.2.1 r hr4).1]
theorem xq_rows_l4 (h : xqB D w m) {o : Bool} : ∀ (t r f : Nat), r + t = jDn D → t < f → c_X9_rowsOfAll_l4 F m f 32 (jbi o) (Int32.ofNat (jsum r (jsz D (!o)))) (Int32.ofNat r) = some (Int32.ofNat (jsum (jDn D) (jsz D (!o)))) := by
  have hL := h.2.1.1
  have hR := h.2.1.2.1.1
  have hn := h.1.1
  intro t
  induction t with
  | zero =>
    intro r f h1 h2
    obtain ⟨f, rfl⟩ := jsucc h2
    show c_X9_rowsOfAll_l4_b F _ m _ _ _ _ = _
    unfold c_X9_rowsOfAll_l4_b
    rw [jgd_t hL.1, h.2.2.2.2.1.1, if_pos (ji_lep (by omega) (by omega) (by omega)), show r = jDn D by omega]
  | succ t ih =>
    intro r f h1 h2
    obtain ⟨f, rfl⟩ := jsucc h2
    have ih := ih (r + 1) f (by omega) (by omega)
    have hrr := xq_rel h (r := r) (by omega)
    have hDr := h.1.2.2.1 r (by omega)
    have hC := h.2.2.2.1 r (by omega)
    rw [jsum_s, ← ji_add] at ih
    show c_X9_rowsOfAll_l4_b F _ m _ _ _ _ = _
    unfold c_X9_rowsOfAll_l4_b
    rw [jgd_t hL.1, h.2.2.2.2.1.1, if_neg (ji_len (by omega) (by omega) (by omega)), hL.2.1, jgd_t hR.1, hR.2.1, jgd_t (ji_int (by omega) (by omega)), ji_n (by omega), hrr.1, jgd_t hrr.2.1, hC.2.2.2.1, hC.2.2.2.2.1, jbitCount (jl_lt hDr), jb_some, show Int32.ofNat r + 1 = Int32.ofNat (r + 1) from ji_add r 1]
    cases o with
    | false => exact ih
    | true =>
      rw [if_neg (show ¬ jbi true = 0 by decide), jgd_t hR.1, jgd_t (ji_int (by omega) (by omega)), jgd_t hrr.2.1]
      exact ih
theorem xq_count {B : Nat × (Nat → Nat)} {L : Nat × (Nat → Int32)} (hF : 100 < F) (h : xqB D w m) (hT : xTp B m) (hS : xSl L m) {x1 : Int32} : c_X9_count F m 32 x1 = some (if jbt2 x1 0 7 = true then jcnt1 D w B.1 L.1 x1.toNatClampNeg else -2) := by
  have hL := h.2.1.1
  have hn := h.1.1
  have hI := h.2.2.2.2.1
  have hr1 : c_X9_rowsOfAll F m 32 (0 : Int32) = some (Int32.ofNat (jsum (jDn D) (jsz D true))) := by
    unfold c_X9_rowsOfAll
    rw [show c_X9_rowsOfAll_l4 F m F 32 (0 : Int32) (0 : Int32) (0 : Int32) = _ from xq_rows_l4 (F := F) (o := false) h (jDn D) 0 F (by omega) (by omega), jb_some]
    rfl
  have hr2 : c_X9_rowsOfAll F m 32 (1 : Int32) = some (Int32.ofNat (jsum (jDn D) (jsz D false))) := by
    unfold c_X9_rowsOfAll
    rw [show c_X9_rowsOfAll_l4 F m F 32 (1 : Int32) (0 : Int32) (0 : Int32) = _ from xq_rows_l4 (F := F) (o := true) h (jDn D) 0 F (by omega) (by omega), jb_some]
    rfl
  unfold c_X9_count
  rw [hr1, hr2, hL.2.2.2.2.1, hI.1, hI.2.1, hI.2.2.1, hI.2.2.2, hT.1, hS.2.1, jb_some, jb_some]
  simp only [jgd_t hL.1, jgd_t h.2.2.1.2.1]
  by_cases hx : x1 < 0
  · have hne : ∀ k, k < 8 → ¬ x1 = Int32.ofNat k := fun k hk e => by
      rw [e] at hx
      exact ji_ge0 (by omega) hx
    rw [jbt2_neg hx, if_neg (show ¬ x1 = 0 from hne 0 (by omega)), if_neg (show ¬ x1 = 1 from hne 1 (by omega)), if_neg (show ¬ x1 = 2 from hne 2 (by omega)), if_neg (show ¬ x1 = 3 from hne 3 (by omega)), if_neg (show ¬ x1 = 4 from hne 4 (by omega)), if_neg (show ¬ x1 = 5 from hne 5 (by omega)), if_neg (show ¬ x1 = 6 from hne 6 (by omega)), if_neg (show ¬ x1 = 7 from hne 7 (by omega))]
    rfl
  · obtain ⟨k, rfl, hk⟩ := ji_nat hx
    rw [jbt2_n hk, ji_n hk]
    by_cases h0 : k = 0
    · subst h0; rfl
    by_cases h1 : k = 1
    · subst h1; rfl
    by_cases h2 : k = 2
    · subst h2; rfl
    by_cases h3 : k = 3
    · subst h3; rfl
    by_cases h4 : k = 4
    · subst h4; rfl
    by_cases h5 : k = 5
    · subst h5; rfl
    by_cases h6 : k = 6
    · subst h6; rfl
    by_cases h7 : k = 7
    · subst h7; rfl
    rw [if_neg (show ¬ Int32.ofNat k = 0 from ji_eqn (b := 0) hk (by omega) h0), if_neg (show ¬ Int32.ofNat k = 1 from ji_eqn (b := 1) hk (by omega) h1), if_neg (show ¬ Int32.ofNat k = 2 from ji_eqn (b := 2) hk (by omega) h2), if_neg (show ¬ Int32.ofNat k = 3 from ji_eqn (b := 3) hk (by omega) h3), if_neg (show ¬ Int32.ofNat k = 4 from ji_eqn (b := 4) hk (by omega) h4), if_neg (show ¬ Int32.ofNat k = 5 from ji_eqn (b := 5) hk (by omega) h5), if_neg (show ¬ Int32.ofNat k = 6 from ji_eqn (b := 6) hk (by omega) h6), if_neg (show ¬ Int32.ofNat k = 7 from ji_eqn (b := 7) hk (by omega) h7), decide_eq_false (by omega)]
    rfl
theorem xq_item {H : jHt} (h : xqB D w m) (hH : xHm H m) {x1 x2 : Int32} : c_X9_item F m 32 x1 x2 = some (jitm H x1 x2) := by
  have hL := h.2.1.1
  have h2 := h.2.1.2.2.1
  unfold c_X9_item jitm
  rw [xq_isSheet, jb_some]
  cases e1 : jin x1 4 with
  | false => rfl
  | true =>
    obtain ⟨s, rfl, hs2, hs⟩ := jin_nat e1
    obtain ⟨p1, p2⟩ := xq_sh h hs
    obtain ⟨k1, k2, k3, k4, k5, k6⟩ := hH s hs
    rw [if_neg (show ¬ jbi true = 0 by decide), jgd_t hL.1, hL.2.2.2.1, jgd_t h2.2.2.1, h2.2.2.2.1, jgd_t (ji_int hs2 hs), ji_n hs2, p1, jgd_t p2.1, q_shas p2 k3 k2, jb_some, Bool.true_and]
    cases e2 : jin x2 (H.2.2.1 s) with
    | false => rfl
    | true =>
      obtain ⟨i, rfl, hi2, hi⟩ := jin_nat e2
      rw [if_neg (show ¬ jbi true = 0 by decide), if_pos rfl, jgd_t (ji_int hs2 hs), p2.2.1, jgd_t p2.2.2.1, p2.2.2.2.1, jgd_t (ji_int hi2 (by omega)), ji_n hi2, k6 i hi]
/-- sheets' cells -/
def xqS (a _i : Nat) : Prop := 89 ≤ a ∧ a ≤ 96
theorem xHm_i {H : jHt} (h : xqB D w m) {s i : Nat} {v : Int64} (hs : s < 4) (hi : i < H.2.2.1 s) (hH : xHm H m) : xHm (jHi H s i v) (jsL m (90 + 2 * s) i v) := by
  intro x hx
  obtain ⟨k1, k2, k3, k4, k5, k6⟩ := hH x hx
  refine ⟨k1, k2, k3, k4, k5, fun j hj => ?_⟩
  show _ = if x = s ∧ j = i then v else H.2.2.2 x j
  rw [jsL_g]
  by_cases e : x = s ∧ j = i
  · rw [if_pos e, if_pos ⟨by rw [e.1], e.2⟩]
  · rw [if_neg e, if_neg (fun q => e ⟨by omega, q.2⟩)]
    exact k6 j hj
theorem xq_put {H : jHt} (h : xqB D w m) (hH : xHm H m) {x1 x2 : Int32} {x3 : Int64} : ∃ m', c_X9_put F m 32 x1 x2 x3 = some ((jputr H x1 x2 x3).1, m') ∧ xqF xqS m m' ∧ xHm (jputr H x1 x2 x3).2 m' := by
  have hL := h.2.1.1
  have h2 := h.2.1.2.2.1
  unfold c_X9_put jputr
  rw [xq_isSheet, jb_some]
  cases e1 : jin x1 4 with
  | false => exact ⟨m, rfl, xqF.rfl, hH⟩
  | true =>
    obtain ⟨s, rfl, hs2, hs⟩ := jin_nat e1
    obtain ⟨p1, p2⟩ := xq_sh h hs
    obtain ⟨k1, k2, k3, k4, k5, k6⟩ := hH s hs
    rw [if_neg (show ¬ jbi true = 0 by decide), if_pos rfl, jgd_t hL.1, hL.2.2.2.1, jgd_t h2.2.2.1, h2.2.2.2.1, jgd_t (ji_int hs2 hs), ji_n hs2, p1, jgd_t p2.1, k1]
    cases e2 : H.1 s with
    | false => exact ⟨m, rfl, xqF.rfl, hH⟩
    | true =>
      have k4 := k4 e2
      rw [if_pos rfl, if_pos rfl, if_neg (ji_ne1 (by omega)), jgd_t (ji_int hs2 hs), q_shas p2 k3 k2, jb_some]
      cases e3 : jin x2 (H.2.2.1 s) with
      | false => exact ⟨m, rfl, xqF.rfl, hH⟩
      | true =>
        obtain ⟨i, rfl, hi2, hi⟩ := jin_nat e3
        rw [if_neg (show ¬ jbi true = 0 by decide), if_pos rfl, jgd_t (ji_int hs2 hs), q_slay p2 (by omega), jb_some, k1, e2, if_pos rfl, ji_n hi2]
        exact ⟨_, rfl, xqF_x (jfx_L (by unfold xqS; omega)), xHm_i h hs hi hH⟩
theorem xq_copy {H : jHt} (h : xqB D w m) (hH : xHm H m) {x1 x2 x3 x4 x5 : Int32} : ∃ m', c_X9_copy F m 32 x1 x2 x3 x4 x5 = some ((jcpy H x1 x2 x3 x4 x5).1, m') ∧ xqF xqS m m' ∧ xHm (jcpy H x1 x2 x3 x4 x5).2 m' := by
  have hL := h.2.1.1
  have h2 := h.2.1.2.2.1
  unfold c_X9_copy jcpy
  rw [xq_isSheet, jb_some, xq_isSheet, jb_some]
  cases e1 : jin x1 4 with
  | false => exact ⟨m, rfl, xqF.rfl, hH⟩
  | true =>
    rw [if_neg (show ¬ jbi true = 0 by decide), Bool.true_and]
    cases e2 : jin x3 4 with
    | false => exact ⟨m, rfl, xqF.rfl, hH⟩
    | true =>
      obtain ⟨s, rfl, hs2, hs⟩ := jin_nat e1
      obtain ⟨o, rfl, ho2, ho⟩ := jin_nat e2
      obtain ⟨p1, p2⟩ := xq_sh h hs
      obtain ⟨q1, q2⟩ := xq_sh h ho
      obtain ⟨k1, k2, k3, k4, k5, k6⟩ := hH s hs
      obtain ⟨l1, l2, l3, l4, l5, l6⟩ := hH o ho
      rw [if_neg (show ¬ jbi true = 0 by decide), if_pos rfl, ji_n hs2, ji_n ho2, jgd_t hL.1, hL.2.2.2.1, jgd_t h2.2.2.1, h2.2.2.2.1, jgd_t (ji_int hs2 hs), jgd_t (ji_int ho2 ho), p1, q1, jgd_t p2.1, k1]
      cases e3 : H.1 s with
      | false => exact ⟨m, rfl, xqF.rfl, hH⟩
      | true =>
        have k4 := k4 e3
        rw [if_pos (show true = true from rfl), if_neg (show ¬ Int32.ofNat (H.2.1 s) = -1 from ji_ne1 (by omega)), jgd_t q2.1, l1, Bool.true_and]
        cases e4 : H.1 o with
        | false => exact ⟨m, rfl, xqF.rfl, hH⟩
        | true =>
          have l4 := l4 e4
          rw [if_pos (show true = true from rfl), if_neg (show ¬ Int32.ofNat (H.2.1 o) = -1 from ji_ne1 (by omega)), if_pos (show true = true from rfl)]
          by_cases e5 : H.2.1 s = H.2.1 o
          · rw [if_pos (ji_eqp (by omega) (by omega) e5), if_pos e5, q_shasRun p2 k3 k2, jb_some, q_shasRun q2 l3 l2, jb_some]
            by_cases c : (decide (0 ≤ x5) && (decide (0 ≤ x2) && decide (0 ≤ x4))) = true ∧ x2.toNatClampNeg + x5.toNatClampNeg ≤ H.2.2.1 s ∧ x4.toNatClampNeg + x5.toNatClampNeg ≤ H.2.2.1 o
            · obtain ⟨c0, c1, c2⟩ := c
              rw [Bool.and_eq_true, Bool.and_eq_true, decide_eq_true_eq, decide_eq_true_eq, decide_eq_true_eq] at c0
              have r1 : jrun (H.2.2.1 s) x2 x5 = true := by
                unfold jrun
                rw [decide_eq_true c0.2.1, decide_eq_true c0.1, decide_eq_true (show x2.toNatClampNeg ≤ H.2.2.1 s by omega), decide_eq_true (show x5.toNatClampNeg ≤ H.2.2.1 s - x2.toNatClampNeg by omega)]
                rfl
              have r2 : jrun (H.2.2.1 o) x4 x5 = true := by
                unfold jrun
                rw [decide_eq_true c0.2.2, decide_eq_true c0.1, decide_eq_true (show x4.toNatClampNeg ≤ H.2.2.1 o by omega), decide_eq_true (show x5.toNatClampNeg ≤ H.2.2.1 o - x4.toNatClampNeg by omega)]
                rfl
              rw [r1, r2, if_neg (show ¬ jbi true = 0 by decide), if_neg (show ¬ jbi true = 0 by decide), p2.2.1, q2.2.1, jgd_t p2.2.2.1, jgd_t q2.2.2.1, jgd_t (Int32.not_lt.mpr c0.2.1), jgd_t (Int32.not_lt.mpr c0.2.2), jgd_t (Int32.not_lt.mpr c0.1), p2.2.2.2.1, q2.2.2.2.1, jgd_t (show x2.toNatClampNeg + x5.toNatClampNeg ≤ 40 by omega), jgd_t (show x4.toNatClampNeg + x5.toNatClampNeg ≤ 40 by omega), if_pos ⟨by rw [decide_eq_true c0.1, decide_eq_true c0.2.1, decide_eq_true c0.2.2]; rfl, c1, c2⟩]
              refine ⟨_, rfl, ⟨⟨rfl, rfl, rfl, rfl⟩, fun _ _ _ => rfl, fun _ q => q, fun _ _ _ => rfl, fun a i q => ?_⟩, fun x hx => ?_⟩
              · show jat (jL m) (90 + 2 * o) _ a i = _
                rw [jat_ne _ _ (by unfold xqS at q; omega)]
              · obtain ⟨z1, z2, z3, z4, z5, z6⟩ := hH x hx
                refine ⟨z1, z2, z3, z4, z5, fun j hj => ?_⟩
                show jat (jL m) (90 + 2 * o) _ (90 + 2 * x) j = if x = o ∧ x4.toNatClampNeg ≤ j ∧ j < x4.toNatClampNeg + x5.toNatClampNeg then H.2.2.2 s (x2.toNatClampNeg + (j - x4.toNatClampNeg)) else H.2.2.2 x j
                by_cases ex : x = o
                · subst ex
                  rw [jat_self]
                  show (if x4.toNatClampNeg ≤ j ∧ j < x4.toNatClampNeg + x5.toNatClampNeg then jL m (90 + 2 * s) (x2.toNatClampNeg + (j - x4.toNatClampNeg)) else jL m (90 + 2 * x) j) = _
                  by_cases ej : x4.toNatClampNeg ≤ j ∧ j < x4.toNatClampNeg + x5.toNatClampNeg
                  · rw [if_pos ej, if_pos ⟨rfl, ej⟩, k6 _ (by omega)]
                  · rw [if_neg ej, if_neg (fun q => ej q.2), z6 j hj]
                · rw [jat_ne _ _ (by omega), if_neg (fun q => ex q.1), z6 j hj]
            · have hr : jrun (H.2.2.1 s) x2 x5 = false ∨ jrun (H.2.2.1 o) x4 x5 = false := by
                cases r1 : jrun (H.2.2.1 s) x2 x5 with
                | false => exact Or.inl rfl
                | true =>
                  cases r2 : jrun (H.2.2.1 o) x4 x5 with
                  | false => exact Or.inr rfl
                  | true =>
                    unfold jrun at r1 r2
                    simp only [Bool.and_eq_true, decide_eq_true_eq] at r1 r2
                    exact absurd ⟨by rw [decide_eq_true r1.1.1.2, decide_eq_true r1.1.1.1, decide_eq_true r2.1.1.1]; rfl, by omega, by omega⟩ c
              rw [if_neg c]
              rcases hr with hr | hr
              · rw [hr]
                exact ⟨m, rfl, xqF.rfl, hH⟩
              · rw [hr]
                refine ⟨m, ?_, xqF.rfl, hH⟩
                cases jrun (H.2.2.1 s) x2 x5 <;> rfl
          · rw [if_neg (ji_eqn (by omega) (by omega) e5), if_neg e5]
            exact ⟨m, rfl, xqF.rfl, hH⟩
/-- a sheet becomes a row of n of a sort, or missing -/
def jHb (H : jHt) (s : Nat) (b : Bool) (t n : Nat) (v : Nat → Int64) : jHt := ((fun x => if x = s then b else H.1 x), (fun x => if x = s then t else H.2.1 x), (fun x => if x = s then n else H.2.2.1 x), fun x => if x = s then v else H.2.2.2 x)
def jsht (H : jHt) (x1 x2 x3 : Int32) : Int32 × jHt := if jin x1 4 = true ∧ (x2 = -1 ∨ jin x2 3 = true) then (if x2 = -1 then (1, jHb H x1.toNatClampNeg false 0 0 (fun _ => 0)) else if x3 ≤ 40 then (if 0 ≤ x3 then (1, jHb H x1.toNatClampNeg true x2.toNatClampNeg x3.toNatClampNeg (fun _ => 0)) else (-14, H)) else (-2, H)) else (-2, H)
theorem xHm_b {H : jHt} {m' : jMe} {s t n : Nat} {b : Bool} {v : Nat → Int64} (hs : s < 4) (hH : xHm H m) (hx : xqF (fun a _ => a = 89 + 2 * s ∨ a = 90 + 2 * s) m m') (g1 : jI m' (89 + 2 * s) 1 = if b = true then Int32.ofNat t else -1) (g2 : jI m' (89 + 2 * s) 2 = Int32.ofNat n) (hn : n ≤ 40) (ht : b = true → t ≤ 2) (hb : b = false → n = 0) (hv : ∀ i, i < n → jL m' (90 + 2 * s) i = v i) : xHm (jHb H s b t n v) m' := by
  intro x hx4
  unfold jHb
  dsimp only
  by_cases e : x = s
  · subst e
    simp only [if_pos (Eq.refl x)]
    exact ⟨g1, g2, hn, ht, hb, hv⟩
  · simp only [if_neg e]
    obtain ⟨k1, k2, k3, k4, k5, k6⟩ := hH x hx4
    exact ⟨by rw [hx.I (by omega)]; exact k1, by rw [hx.I (by omega)]; exact k2, k3, k4, k5, fun i hi => by rw [hx.L (by omega)]; exact k6 i hi⟩
theorem xq_become (hF : 1000 < F) {H : jHt} (h : xqB D w m) (hH : xHm H m) {s t n : Nat} {b : Bool} {x y : Int32} (hs : s < 4) (hx : x = if b = true then Int32.ofNat t else -1) (hy : y = Int32.ofNat n) (hn : n ≤ 40) (ht : b = true → t ≤ 2) (hb : b = false → n = 0) : ∃ m', c_X5_become F m (89 + 2 * s) x y = some m' ∧ xqF xqS m m' ∧ xHm (jHb H s b t n (fun _ => 0)) m' := by
  obtain ⟨m', a1, a2, a3, a4, a5⟩ := q_sbecome (F := F) hF (xq_sh h hs).2 (s := x) (n := y)
  have hx2 : xqF (fun a _ => a = 89 + 2 * s ∨ a = 90 + 2 * s) m m' := xqF_fr a2 (fun _ _ q => q)
  exact ⟨m', a1, hx2.weak (fun a i q => by unfold xqS; omega), xHm_b hs hH hx2 (by rw [a3, hx]) (by rw [a4, hy]) hn ht hb (fun i hi => a5 i (by omega))⟩
theorem xi_m12 {α : Type} {x : Int32} {A B : α} : (if x < (-1 : Int32) then A else if x ≤ (2 : Int32) then B else A) = if x = -1 ∨ jin x 3 = true then B else A := by
  by_cases hx : x < 0
  · by_cases e : x = -1
    · subst e
      rfl
    · have h1 : x < -1 := by
        rw [Int32.lt_iff_toInt_lt] at hx ⊢
        have e2 : x.toInt ≠ (-1 : Int32).toInt := fun q => e (Int32.toInt_inj.mp q)
        rw [show (-1 : Int32).toInt = -1 from rfl] at e2 ⊢
        rw [show (0 : Int32).toInt = 0 from rfl] at hx
        omega
      rw [if_pos h1, if_neg (fun q => q.elim e (fun z => by rw [jin_neg hx] at z; cases z))]
  · obtain ⟨k, rfl, hk⟩ := ji_nat hx
    have h1 : ¬ Int32.ofNat k < -1 := fun q => ji_ge0 hk (Int32.lt_trans q (by decide))
    rw [if_neg h1, ji_in hk]
    by_cases h2 : k < 3
    · rw [if_pos (show Int32.ofNat k ≤ (2 : Int32) from ji_lep (b := 2) hk (by omega) (by omega)), if_pos (Or.inr (decide_eq_true h2))]
    · rw [if_neg (show ¬ Int32.ofNat k ≤ (2 : Int32) from ji_len (b := 2) hk (by omega) (by omega)), if_neg (fun q => q.elim (ji_ne1 hk) (fun z => h2 (of_decide_eq_true z)))]
theorem xq_sheet (hF : 1000 < F) {H : jHt} (h : xqB D w m) (hH : xHm H m) {x1 x2 x3 : Int32} : ∃ m', c_X9_sheet F m 32 x1 x2 x3 = some ((jsht H x1 x2 x3).1, m') ∧ xqF xqS m m' ∧ xHm (jsht H x1 x2 x3).2 m' := by
  have hL := h.2.1.1
  have h2 := h.2.1.2.2.1
  unfold c_X9_sheet jsht
  rw [xq_isSheet, jb_some, xi_m12]
  cases e1 : jin x1 4 with
  | false =>
    rw [if_pos (show jbi false = 0 from rfl), if_neg (fun q => by cases q.1)]
    exact ⟨m, rfl, xqF.rfl, hH⟩
  | true =>
    obtain ⟨s, rfl, hs2, hs⟩ := jin_nat e1
    obtain ⟨p1, p2⟩ := xq_sh h hs
    rw [if_neg (show ¬ jbi true = 0 by decide), ji_n hs2]
    by_cases e2 : x2 = -1 ∨ jin x2 3 = true
    · rw [if_pos e2, if_pos (show true = true ∧ (x2 = -1 ∨ jin x2 3 = true) from ⟨rfl, e2⟩), jgd_t hL.1, hL.2.2.2.1, jgd_t h2.2.2.1, h2.2.2.2.1, jgd_t (ji_int hs2 hs), p1, jgd_t p2.1]
      by_cases e3 : x2 = -1
      · obtain ⟨m', a1, a2, a3⟩ := xq_become (F := F) hF h hH hs (b := false) (t := 0) (n := 0) (x := -1) (y := 0) rfl rfl (by omega) (fun q => by cases q) (fun _ => rfl)
        rw [if_pos e3, if_pos e3, a1, jb_some]
        exact ⟨m', rfl, a2, a3⟩
      · have e4 := e2.resolve_left e3
        obtain ⟨t, rfl, ht2, ht⟩ := jin_nat e4
        rw [if_neg e3, if_neg e3, ji_n ht2]
        by_cases e5 : x3 ≤ 40
        · rw [if_pos e5, if_pos e5]
          by_cases e6 : 0 ≤ x3
          · obtain ⟨n, rfl, hn2⟩ := ji_nat (Int32.not_lt.mpr e6)
            have hn : n ≤ 40 := (ji_le hn2 (by omega)).mp e5
            obtain ⟨m', a1, a2, a3⟩ := xq_become (F := F) hF h hH hs (b := true) (t := t) (n := n) (x := Int32.ofNat t) (y := Int32.ofNat n) rfl rfl hn (fun _ => by omega) (fun q => by cases q)
            rw [if_pos e6, if_pos e6, ji_n hn2, a1, jb_some, jgd_t hL.1, jgd_t h2.2.2.1, jgd_t (ji_int hs2 hs), jgd_t p2.1]
            exact ⟨m', rfl, a2, a3⟩
          · rw [if_neg e6, if_neg e6]
            exact ⟨m, rfl, xqF.rfl, hH⟩
        · rw [if_neg e5, if_neg e5]
          exact ⟨m, rfl, xqF.rfl, hH⟩
    · rw [if_neg e2, if_neg (fun q => e2 q.2)]
      exact ⟨m, rfl, xqF.rfl, hH⟩
end XSHEET
