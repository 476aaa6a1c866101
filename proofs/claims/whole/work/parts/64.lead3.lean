/-! a position is led -/
section LEAD3
variable {F b : Nat} {D : jD}
theorem q_lead_l5 : ∀ (t f p : Nat) (m : jMe), t ≤ 4 → t < f → p ≤ jMX → jIn D b m → jTM D (b + 1) m → (∀ x, x < 4 → jL m (b + 7) x = Int64.ofNat (if (jdC D).testBit x = true then jbd D x else 0)) → (∀ r, r < t → (jdC D).testBit r = true → 0 < jbd D r) → ∃ m', c_X2_lead_l5 F f m b (Int64.ofNat p) (Int32.ofNat t - 1) = some (m', b, Int64.ofNat (jix D t p).2) ∧ jfr (· = b + 13) m m' ∧ jI m' = jI m ∧ (∀ x, jL m' (b + 13) x = if x < t ∧ (jdC D).testBit x = true then Int64.ofNat ((jix D t p).1 x) else jL m (b + 13) x) := by
  intro t
  induction t with
  | zero =>
    intro f p m h1 h2 h3 hI hM hb hp
    obtain ⟨f, rfl⟩ := jsucc h2
    refine ⟨m, ?_, jfr.rfl, rfl, fun x => by rw [if_neg (by omega)]⟩
    show c_X2_lead_l5_b F _ m _ _ _ = _
    unfold c_X2_lead_l5_b
    rw [if_pos jdown0]
    rfl
  | succ t ih =>
    intro f p m h1 h2 h3 hI hM hb hp
    obtain ⟨f, rfl⟩ := jsucc h2
    have hI0 := hI
    obtain ⟨i1, i2, i3, i4, i5, i6⟩ := hI
    have hlt := i1.2.2.2.2.2.2.2.2.2.2.2.2.2.2.2.2.2.2
    have hbo := i1.2.2.2.2.2.2.2.2.2.2.2.1
    have hld := i1.2.2.2.2.2.2.2.2.2.2.2.2.2.2.2.2.2.1
    have hj : jix D (t + 1) p = if (jdC D).testBit t = true then (fun x => if x = t then p % jbd D t else (jix D t (p / jbd D t)).1 x, (jix D t (p / jbd D t)).2) else jix D t p := rfl
    cases ec : (jdC D).testBit t with
    | false =>
      rw [ec, if_neg (by decide)] at hj
      obtain ⟨m', y1, y2, y3, y4⟩ := ih f p m (by omega) (by omega) h3 hI0 hM hb (fun r hr hc => hp r (by omega) hc)
      refine ⟨m', ?_, y2, y3, fun x => ?_⟩
      · show c_X2_lead_l5_b F _ m _ _ _ = _
        unfold c_X2_lead_l5_b
        rw [jdown_s, if_neg (ji_ge0 (by omega)), jgd_t i1.1, i1.2.1, jgd_t hlt.1, hM.2.1, q_isIn (by omega) (by have := jdC_lt (D := D); omega), jb_some, ec, if_pos (by decide), jdown, hj]
        exact y1
      · rw [y4, hj]
        by_cases e1 : x < t ∧ (jdC D).testBit x = true
        · rw [if_pos e1, if_pos ⟨by omega, e1.2⟩]
        · rw [if_neg e1, if_neg]
          rintro ⟨h, h'⟩
          rcases Nat.lt_succ_iff_lt_or_eq.mp h with h | rfl
          · exact e1 ⟨h, h'⟩
          · rw [ec] at h'
            cases h'
    | true =>
      rw [ec, if_pos rfl] at hj
      have hb0 := hp t (by omega) ec
      have hbl := jbd_le (i6 t (by omega))
      have hbm : jbd D t ≤ jMX := by unfold jMX; omega
      have hbt : jL m (b + 7) t = Int64.ofNat (jbd D t) := by rw [hb t (by omega), ec, if_pos rfl]
      have hne : ¬ Int64.ofNat (jbd D t) = 0 := fun h => by
        have := (jq_eq hbm (Nat.zero_le _)).mp h
        omega
      generalize hm1 : jsL m (b + 13) t (Int64.ofNat (p % jbd D t)) = m1
      have hf1 : jfr (· = b + 13) m m1 := by
        rw [← hm1]
        exact jsL_f rfl
      have hIe : jI m1 = jI m := by rw [← hm1, jI_sL]
      have hL7 : jL m1 (b + 7) = jL m (b + 7) := by rw [← hm1, jsL_n (by omega)]
      have hI1 : jIn D b m1 := jIn_fr (S := (· = b + 13)) (fun a ha => by omega) hf1 hI0
      have hM1 : jTM D (b + 1) m1 := jTM_of (fun a _ _ => by rw [hIe]) hM
      obtain ⟨m', y1, y2, y3, y4⟩ := ih f (p / jbd D t) m1 (by omega) (by omega) (Nat.le_trans (Nat.div_le_self _ _) h3) hI1 hM1 (fun x hx => by rw [hL7]; exact hb x hx) (fun r hr hc => hp r (by omega) hc)
      refine ⟨m', ?_, hf1.trans y2, by rw [y3, hIe], fun x => ?_⟩
      · show c_X2_lead_l5_b F _ m _ _ _ = _
        unfold c_X2_lead_l5_b
        rw [jdown_s, if_neg (ji_ge0 (by omega)), jgd_t i1.1, i1.2.1, jgd_t hlt.1, hM.2.1, q_isIn (by omega) (by have := jdC_lt (D := D); omega), jb_some, ec, if_neg (by decide), i1.2.2.2.1, jgd_t hbo.1, hbo.2, jgd_t (ji_int (by omega) (by omega)), ji_n (by omega), hbt, if_neg (fun h => by
          have h : lg_cmp (Int64.ofNat (jbd D t)) (Int64.ofNat 0) ≤ 0 := h
          rw [jc_le0, jq_le hbm (Nat.zero_le _)] at h
          omega), jgd_t (ji_int (by omega) (by omega)), jgd_t hne, i1.2.2.2.2.2.2.2.2.2.1, jgd_t hld.1, hld.2, jgd_t (ji_int (by omega) (by omega)), jq_rem h3 hbm hb0]
        rw [jP_sL, i1.2.2.2.1, jgd_t hbo.1, hbo.2, jgd_t (ji_int (by omega) (by omega)), hm1, hL7, hbt, jgd_t hne, jlet_m, jq_div h3 hbm, jdown, hj]
        exact y1
      · rw [y4, ← hm1, jsL_e, hj]
        by_cases e0 : x = t
        · subst e0
          rw [if_neg (by omega), if_pos ⟨by omega, ec⟩, jupd_e]
          show _ = Int64.ofNat (if x = x then _ else _)
          rw [if_pos rfl]
        · rw [jupd_n e0]
          by_cases e1 : x < t ∧ (jdC D).testBit x = true
          · rw [if_pos e1, if_pos ⟨by omega, e1.2⟩]
            show _ = Int64.ofNat (if x = t then _ else _)
            rw [if_neg e0]
          · rw [if_neg e1, if_neg (fun h => e1 ⟨by omega, h.2⟩)]
theorem jsp_pos {p : Nat} (hp : p < jsp D 4) : ∀ r, r < 4 → (jdC D).testBit r = true → 0 < jbd D r := by
  intro r hr hc
  have hpos : 0 < jprd 4 (fun r => if (jdC D).testBit r = true then jbd D r else 1) := by
    unfold jsp at hp
    refine Nat.pos_of_ne_zero (fun h => ?_)
    rw [h] at hp
    omega
  have := jprd_pos hpos r hr
  rw [if_pos hc] at this
  exact this
theorem q_lead (hF : 2000 < F) (hD : jDok D) (hq0 : jDq D ≠ 0) {m : jMe} (hJ : jJ D b m) (hg : jI m b 5 = 0) {p : Nat} (hp : p < jsp D 4) : ∃ m', c_X2_lead F m b (Int64.ofNat p) = some (jbi (jlead D p).isSome, m') ∧ jfr (jSle b) m m' ∧ (∀ j, j ≠ 16 → j ≠ 17 → jI m' b j = jI m b j) ∧ jL m' b = jL m b ∧ (∀ R, jlead D p = some R → jsd D (fun x => (jDq D).testBit x) R b m') := by
  obtain ⟨hI, hM, hq13, hps, hbo, g, g1, g2, g3⟩ := hJ
  have hgf : g = false := by
    rw [g1, jbi_0] at hg
    exact hg
  obtain ⟨hR, hsp, hspm, -⟩ := g3 hgf
  obtain ⟨root, hT, hrt, hr4, hro⟩ := jtree0 hD
  rw [if_neg hq0] at hrt
  have hro := hro hq0
  have hlen := jord_le hT
  have hall : jAll D ≤ jMX := by
    have hnG : ¬ jGt D := fun h => by
      rw [g2.mpr h] at hgf
      cases hgf
    rcases Nat.lt_or_ge jMX (jAll D) with h | h
    · exact absurd (Or.inr (Or.inl h)) hnG
    · exact h
  have hbp := jsp_pos hp
  obtain ⟨x1, x2, x3⟩ := jix_lt (D := D) 4 p hbp
  have hp0 : (jix D 4 p).2 < jAll D := x3 _ hp
  obtain ⟨m1, a1, a2, a3, a4⟩ := q_lead_l5 (F := F) 4 F p m (by omega) (by omega) (by omega) hI hM hbo hbp
  have a1 : c_X2_lead_l5 F F m b (Int64.ofNat p) (3 : Int32) = _ := a1
  generalize hm2 : jsI (jsI m1 b 16 (0 : Int32)) b 17 (0 : Int32) = m2
  generalize hm3 : jsL m2 (b + 13) root (Int64.ofNat (jix D 4 p).2) = m3
  have hf2 : jfr (jSle b) m m2 := by
    rw [← hm2]
    exact ((a2.weak (fun a h => Or.inr (Or.inr h))).trans (jsI_f (S := jSle b) (Or.inl rfl))).trans (jsI_f (Or.inl rfl))
  have hf3 : jfr (jSle b) m m3 := by
    rw [← hm3]
    exact hf2.trans (jsL_f (Or.inr (Or.inr rfl)))
  have hI1 : jIn D b m1 := jIn_fr (S := (· = b + 13)) (fun a ha => by omega) a2 hI
  have hI3 : jIn D b m3 := jIn_fr (S := jSle b) (fun a ha => by unfold jSle at ha; omega) hf3 hI
  have hM3 : jTM D (b + 1) m3 := jTM_of (fun a h1 h2 => hf3.2.2.2.2.2.1 a (by unfold jSle; omega)) hM
  have hIx : ∀ a, a ≠ b → jI m3 a = jI m a := by
    intro a ha
    rw [← hm3, jI_sL, ← hm2, jsI_n ha, jsI_n ha, a3]
  have hIb : ∀ j, j ≠ 16 → j ≠ 17 → jI m3 b j = jI m b j := by
    intro j j1 j2
    rw [← hm3, jI_sL, ← hm2, jsI_e, jupd_n j2, jsI_e, jupd_n j1, a3]
  have hst0 : jI m3 b 16 = 0 ∧ jI m3 b 17 = 0 := by
    rw [← hm3, jI_sL, ← hm2]
    exact ⟨by rw [jsI_e, jupd_n (by omega), jsI_e, jupd_e], by rw [jsI_e, jupd_e]⟩
  have hL13 : jL m3 (b + 13) = jupd (jL m1 (b + 13)) root (Int64.ofNat (jix D 4 p).2) := by
    rw [← hm3, jsL_e, ← hm2, jL_sI, jL_sI]
  have hLb : jL m3 b = jL m b := by
    rw [← hm3, jsL_n (by omega), ← hm2, jL_sI, jL_sI]
    exact a2.2.2.2.2.2.2 b (by omega)
  have hs3 : jsd D (fun x => decide (x ∈ ([] : List Nat))) (jrw D (jix D 4 p).2) b m3 := by
    refine ⟨fun a ha => ?_, fun a r ha hr h => by simp at h, fun a ha _ => by rw [hst0.1, jnb_0], fun r hr h => by simp at h⟩
    rw [hst0.2, jnb_0]
    have : jSs D (fun x => decide (x ∈ ([] : List Nat))) a = false := by
      cases e : jSs D (fun x => decide (x ∈ ([] : List Nat))) a with
      | false => rfl
      | true =>
        obtain ⟨x, -, h, -⟩ := jSs_iff.mp e
        simp at h
    rw [this]
    rfl
  obtain ⟨m4, b1, b2, b3, b4, b5, b6⟩ := q_lead_l114 (F := F) hF hD hT hrt hp0 hall (jord D).length (jord D) [] F m3 rfl (by simp) (by omega) hI3 hM3 (fun r hr => jRd_of (hf3.2.2.2.2.2.2 _ (by unfold jSle; omega)) (hf3.2.2.2.2.2.2 _ (by unfold jSle; omega)) (hR r hr)) hs3 (fun x hx hux => by
    obtain ⟨pre, post, e⟩ := List.append_of_mem hx
    have hsp := hT.2.2 pre x post e
    by_cases hpn : post = []
    · obtain ⟨e1, e2⟩ := hsp.1 hpn
      rw [hL13, e1, jupd_e]
      unfold jLv
      rw [← e1, e2]
    · obtain ⟨q, q1, -⟩ := hsp.2 hpn
      exact absurd (hux q q1) (by simp))
  have hI4 : jIn D b m4 := jIn_fr (S := jSle b) (fun a ha => by unfold jSle at ha; omega) b2 hI3
  have hM4 : jTM D (b + 1) m4 := jTM_of (fun a h1 h2 => b2.2.2.2.2.2.1 a (by unfold jSle; omega)) hM3
  have hs4 : jsd D (jPc D 0) (jrw D (jix D 4 p).2) b m4 := jsd_c (fun x hx => by
    unfold jPc
    rw [decide_eq_false (show ¬ x < 0 by omega), Bool.and_false, Bool.or_false, Bool.eq_iff_iff, decide_eq_true_eq, hT.2.1]
    exact ⟨fun h => h.2, fun h => ⟨hx, h⟩⟩) b6
  obtain ⟨z, y1, y2⟩ := q_lead_l161 (F := F) hF hD (ix := (jix D 4 p).1) (fun r hr hc => by
    have := x2 r hr hc
    have := jbd_le (hD.2.2.1 r hr)
    unfold jMX
    omega) 4 0 F m4 (jrw D (jix D 4 p).2) (by omega) (by omega) hI4 hM4 (fun x hx => by
    rw [b2.2.2.2.2.2.1 _ (by unfold jSle; omega), hIx _ (by omega)]
    exact hps x hx) hs4 (fun x hx hc => by
    have hxo : x ∉ jord D := fun h => ((jdK_bits (D := D) x hx).2.mp hc).2 ((hT.2.1 x).mp h).2
    have hxr : x ≠ root := fun h => hxo (h ▸ hro)
    rw [b5 x hxo, hL13, jupd_n hxr, a4, if_pos ⟨hx, hc⟩])
  have y1 : c_X2_lead_l161 F F m4 b (0 : Int32) = some z := y1
  have hlt := hI.1.2.2.2.2.2.2.2.2.2.2.2.2.2.2.2.2.2.2
  have hlt1 := hI1.1.2.2.2.2.2.2.2.2.2.2.2.2.2.2.2.2.2.2
  have hlt3 := hI3.1.2.2.2.2.2.2.2.2.2.2.2.2.2.2.2.2.2.2
  have hld1 := hI1.1.2.2.2.2.2.2.2.2.2.2.2.2.2.2.2.2.2.1
  have hM1 : jTM D (b + 1) m1 := jTM_of (fun a _ _ => by rw [a3]) hM
  have hP2 : jP m2 = jP m1 := by rw [← hm2, jP_sI, jP_sI]
  have hst : c_X2_lead F m b (Int64.ofNat p) = jb2 (some z) (fun q => some q) (fun e53 => some ((1 : Int32), e53)) := by
    unfold c_X2_lead
    rw [a1, jb_some]
    dsimp only
    rw [hm2, hP2, jgd_t hI1.1.1, hI1.1.2.1, jgd_t hlt1.1]
    have h5 : jI m2 (b + 1) 5 = Int32.ofNat root := by
      rw [← hm2, jsI_n (by omega), jsI_n (by omega), hM1.2.2.2.2.2.2, hrt]
      rfl
    rw [h5, if_neg (ji_ne1 (by omega)), hI1.1.2.2.2.2.2.2.2.2.2.1, jgd_t hld1.1, hld1.2, jgd_t (ji_int (by omega) hr4), ji_n (by omega), jlet_m, hm3]
    unfold c_X2_lead_j103
    rw [jgd_t hI3.1.1, hI3.1.2.1, jgd_t hlt3.1, hM3.2.2.2.2.2.1, b1, jb2_r]
    dsimp only
    rw [y1]
  unfold jlead
  cases ej : jlc D (jix D 4 p).1 4 0 (jrw D (jix D 4 p).2) with
  | none =>
    rw [ej] at y2
    obtain ⟨m', rfl, z2, z3, z4⟩ := y2
    refine ⟨m', by rw [hst, jb2_l]; rfl, (hf3.trans b2).trans z2, fun j j1 j2 => by rw [z3 j j1 j2, b3 j j1 j2, hIb j j1 j2], by rw [z4, b4, hLb], fun R h => by cases h⟩
  | some R =>
    rw [ej] at y2
    obtain ⟨m', rfl, z2, z3, z4, z5⟩ := y2
    refine ⟨m', by rw [hst, jb2_r]; rfl, (hf3.trans b2).trans z2, fun j j1 j2 => by rw [z3 j j1 j2, b3 j j1 j2, hIb j j1 j2], by rw [z4, b4, hLb], fun R' h => ?_⟩
    cases h
    refine jsd_c (fun x hx => ?_) z5
    have hb := jdK_bits (D := D) x hx
    unfold jPc
    rw [decide_eq_true hx, Bool.and_true, Bool.eq_iff_iff, Bool.or_eq_true]
    constructor
    · rintro (h | h)
      · exact hb.1 h
      · exact (hb.2.mp h).1
    · intro h
      by_cases k : (jdK D).testBit x = true
      · exact Or.inl k
      · exact Or.inr (hb.2.mpr ⟨h, k⟩)
end LEAD3
