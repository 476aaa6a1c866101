/-! one more text: what is thought of by the rule stays -/
section XUT
variable {D : jD} {s : Nat} {l : List Int32}
theorem jpb_ut (h : s ≠ jDr D) (r k : Nat) : jpb (jUt D s l) r k = jpb D r k := by
  unfold jpb
  show ((jDl D r).testBit k && !decide ((if jDr D = s then jtell l else jDt D (jDr D)) r k (jDw D r k) (Int32.ofNat (jDc D r k)) = 0)) = _
  rw [if_neg (fun e => h e.symm)]
theorem jWg_ut (h : s ≠ jDr D) : ∀ (f r k : Nat), jWg (jUt D s l) f r k = jWg D f r k := by
  intro f
  induction f with
  | zero => intro r k; rfl
  | succ f ih =>
    intro r k
    rw [jWg, jWg, jpb_ut h]
    simp only [ih]
    rfl
theorem jW1_ut (h : s ≠ jDr D) (r k : Nat) : jW1 (jUt D s l) r k = jW1 D r k := jWg_ut h 4 r k
theorem jS1_ut (h : s ≠ jDr D) (r k c : Nat) : jS1 (jUt D s l) r k c = jS1 D r k c := by
  unfold jS1
  simp only [jW1_ut h]
  rfl
theorem jAll_ut (h : s ≠ jDr D) : jAll (jUt D s l) = jAll D := by
  unfold jAll
  rw [show jrt (jUt D s l) = jrt D from rfl]
  simp only [jW1_ut h]
  rfl
theorem jpre_ut (h : s ≠ jDr D) (r k n : Nat) : jpre (jUt D s l) r k n = jpre D r k n := by
  unfold jpre
  simp only [jS1_ut h]
  rfl
theorem jhp_ut (h : s ≠ jDr D) (r k : Nat) : jhp (jUt D s l) r k = jhp D r k := by
  unfold jhp
  simp only [jpb_ut h]
  rfl
theorem jbd_ut (h : s ≠ jDr D) (r : Nat) : jbd (jUt D s l) r = jbd D r := by
  unfold jbd
  rw [show jhp (jUt D s l) r = jhp D r from funext (jhp_ut h r)]
  rfl
theorem jsp_ut (h : s ≠ jDr D) (n : Nat) : jsp (jUt D s l) n = jsp D n := by
  unfold jsp
  rw [jAll_ut h]
  simp only [jbd_ut h]
  rfl
theorem jGr_ut (h : s ≠ jDr D) (r k : Nat) : jGr (jUt D s l) r k ↔ jGr D r k := by
  unfold jGr
  simp only [jpb_ut h, jS1_ut h, jpre_ut h]
  exact Iff.rfl
theorem jGt_ut (h : s ≠ jDr D) : jGt (jUt D s l) ↔ jGt D := by
  unfold jGt
  simp only [jGr_ut h, jAll_ut h, jsp_ut h]
  exact Iff.rfl
theorem jpw_ut (h : s ≠ jDr D) (r : Nat) : jpw (jUt D s l) r = jpw D r := by
  unfold jpw
  rw [show jpb (jUt D s l) r = jpb D r from funext (jpb_ut h r)]
theorem jMq_ut (h : s ≠ jDr D) (R : Nat → Nat) (r k : Nat) : jMq (jUt D s l) R r k = jMq D R r k := by
  unfold jMq
  rw [jpb_ut h]
  rfl
theorem jwk_ut (h : s ≠ jDr D) {f : (Nat → Nat) → Nat} : ∀ (t r : Nat) (R : Nat → Nat), jwk (jUt D s l) f t r R = jwk D f t r R := by
  intro t
  induction t with
  | zero => intro r R; rfl
  | succ t ih =>
    intro r R
    rw [jwk, jwk]
    simp only [ih, jMq_ut h]
    rfl
theorem jct_ut (h : s ≠ jDr D) (f : (Nat → Nat) → Nat) : jct (jUt D s l) f = jct D f := by
  unfold jct
  rw [jwk_ut h]
  rfl
theorem jJ_ut (h : s ≠ jDr D) {b : Nat} {m : jMe} (k : jJ D b m) : jJ (jUt D s l) b m := by
  obtain ⟨k1, k2, k3, k4, k5, g, k6, k7, k8⟩ := k
  refine ⟨k1, k2, k3, fun r hr => by rw [jpw_ut h]; exact k4 r hr, fun x hx => by rw [jbd_ut h]; exact k5 x hx, g, k6, k7.trans (jGt_ut h).symm, fun hg => ?_⟩
  obtain ⟨z1, z2, z3, z4⟩ := k8 hg
  refine ⟨fun r hr => ⟨fun k hk => by rw [jW1_ut h]; exact (z1 r hr).1 k hk, fun k hk hp x hx hkd => ?_⟩, by rw [jsp_ut h]; exact z2, by rw [jsp_ut h]; exact z3, fun r hr hc => by rw [jsp_ut h]; exact z4 r hr hc⟩
  rw [jpb_ut h] at hp
  rw [jS1_ut h, jpre_ut h]
  exact (z1 r hr).2 k hk hp x hx hkd
theorem jTly_ut (h : s ≠ jDr D) {b : Nat} {m : jMe} (k : jTly D b m) : jTly (jUt D s l) b m := by
  refine ⟨by rw [jct_ut h]; exact k.1, fun i x hi hx => ?_⟩
  rw [jct_ut h]
  exact k.2 i x hi hx
end XUT
section XTEXT2
variable {F w : Nat} {D : jD} {m : jMe}
theorem xqL_ag {m' : jMe} (hk : ∀ a, a < 129 → jK m' a = jK m a) (hz : ∀ a, a < 129 → jZ m' a = jZ m a) (hp : ∀ a, a < 129 → a ≠ 34 → jP m' a = jP m a) (h : xqL m) : xqL m' := by
  obtain ⟨a, ⟨⟨b1, b2, b3⟩, c, d⟩, e, f, g⟩ := h
  refine ⟨?_, ⟨⟨by rw [hk 33 (by omega)]; exact b1, by rw [hz 33 (by omega)]; exact b2, fun r hr => ?_⟩, ?_, ?_⟩, ?_, ?_, ?_⟩
  · unfold xqL1 at a ⊢
    rw [hk 32 (by omega), hp 32 (by omega) (by omega)]
    exact a
  · have b3 := b3 r hr
    unfold jLr at b3 ⊢
    rw [hp 33 (by omega) (by omega), hk (jrc r) (by unfold jrc; omega), hp (jrc r) (by unfold jrc; omega) (by unfold jrc; omega), hk (jrv r) (by unfold jrv; omega), hz (jrv r) (by unfold jrv; omega), hk (jrk r) (by unfold jrk; omega), hz (jrk r) (by unfold jrk; omega)]
    exact b3
  · unfold jLJ jLT at c ⊢
    simp (disch := omega) only [hk, hz, hp]
    exact c
  · unfold jLJ jLT at d ⊢
    simp (disch := omega) only [hk, hz, hp]
    exact d
  · obtain ⟨e1, e2, e3, e4, e5⟩ := e
    refine ⟨by rw [hk 34 (by omega)]; exact e1, by rw [hz 34 (by omega)]; exact e2, by rw [hk 35 (by omega)]; exact e3, by rw [hz 35 (by omega)]; exact e4, fun s hs => ?_⟩
    have e5 := e5 s hs
    unfold jLsh at e5 ⊢
    rw [hp 35 (by omega) (by omega), hk (89 + 2 * s) (by omega), hp (89 + 2 * s) (by omega) (by omega), hk (90 + 2 * s) (by omega), hz (90 + 2 * s) (by omega)]
    exact e5
  · unfold xqL3 at f ⊢
    simp (disch := omega) only [hk, hz, hp]
    exact f
  · unfold xqL4 at g ⊢
    simp (disch := omega) only [hk, hz, hp]
    exact g
theorem jzT_ag {m' : jMe} (hk : ∀ a, a < 129 → jK m' a = jK m a) (hz : ∀ a, a < 129 → jZ m' a = jZ m a) (hp : jP m' 36 = jP m 36) (hI : ∀ a i, a < 32 → jI m' a i = jI m a i) (h : jzT m) : jzT m' := by
  obtain ⟨h1, h2, h3, h4, h5, h6, h7, h8⟩ := h
  refine ⟨by rw [hk 36 (by omega)]; exact h1, by rw [hp]; exact h2, by rw [hp]; exact h3, by rw [hk 37 (by omega)]; exact h4, by rw [hz 37 (by omega)]; exact h5, by rw [hk 38 (by omega)]; exact h6, by rw [hz 38 (by omega)]; exact h7, fun i hi => ?_⟩
  obtain ⟨g1, g2, g3, g4⟩ := h8 i hi
  refine ⟨by rw [hk _ (by omega)]; exact g1, by rw [hk _ (by omega)]; exact g2, by rw [hz _ (by omega)]; exact g3, fun j hj => ?_⟩
  rw [hI _ _ (by omega)]
  exact g4 j hj
theorem jTX_ag {D' : jD} {tb c s n : Nat} {m' : jMe} (h : ∀ a, a = tb ∨ a = c ∨ a = s → jK m' a = jK m a ∧ jZ m' a = jZ m a) (hP : jP m' tb = jP m tb) (hI : jI m' c = jI m c) (e : jDt D' (jDr D') = jDt D (jDr D)) (k : jTX D tb c s n m) : jTX D' tb c s n m' := by
  obtain ⟨⟨k1, k2, k3, k4, k5, k6, k7, k8, k9⟩, x2, x3, x4⟩ := k
  exact ⟨⟨by rw [(h tb (Or.inl rfl)).1]; exact k1, by rw [hP]; exact k2, by rw [hP]; exact k3, by rw [(h c (Or.inr (Or.inl rfl))).1]; exact k4, by rw [(h c (Or.inr (Or.inl rfl))).2]; exact k5, by rw [(h s (Or.inr (Or.inr rfl))).1]; exact k6, by rw [(h s (Or.inr (Or.inr rfl))).2]; exact k7, k8, k9⟩, x2, x3, fun r k f cp => by rw [hI, e]; exact x4 r k f cp⟩
/-- what one more text leaves as it was -/
def xqX (w : Nat) (m m' : jMe) : Prop := ∀ a, a < 126 + 3 * w → (jK m' a = jK m a ∧ jZ m' a = jZ m a) ∧ (a ≠ 34 → jP m' a = jP m a) ∧ (a ≠ 36 → a ≠ 38 → jL m' a = jL m a ∧ ∀ i, ¬ (a = 32 ∧ i = 12) → jI m' a i = jI m a i)
theorem xqX.rfl {w : Nat} {m : jMe} : xqX w m m := fun _ _ => ⟨⟨Eq.refl _, Eq.refl _⟩, fun _ => Eq.refl _, fun _ _ => ⟨Eq.refl _, fun _ _ => Eq.refl _⟩⟩
theorem xtb_e {t : Nat} (h : 1 ≤ t) : xtb t = 126 + 3 * t ∧ xts t = 127 + 3 * t ∧ xtc t = 128 + 3 * t := by
  unfold xtb xts xtc
  rw [if_neg (by omega), if_neg (by omega), if_neg (by omega)]
  exact ⟨Eq.refl _, Eq.refl _, Eq.refl _⟩
theorem xtb_lt {t w : Nat} (h : t < w) : xtb t < 126 + 3 * w ∧ xts t < 126 + 3 * w ∧ xtc t < 126 + 3 * w := by
  unfold xtb xts xtc
  by_cases e : t = 0
  · rw [if_pos e, if_pos e, if_pos e]
    omega
  · rw [if_neg e, if_neg e, if_neg e]
    omega
theorem xcodes {c n : Nat} {l : List Int32} (hn : n = l.length) (h : ∀ i, i < n → jI m c i = l.getD i 0) : (List.range' 0 n).map (jI m c) = l := by
  apply List.ext_getElem?
  intro i
  by_cases hi : i < n
  · rw [List.getElem?_map, List.getElem?_range' hi, Option.map_some, show 0 + 1 * i = i by omega, h i hi, List.getD_eq_getElem?_getD, List.getElem?_eq_getElem (by omega), Option.getD_some]
  · rw [List.getElem?_eq_none (by rw [List.length_map, List.length_range']; omega), List.getElem?_eq_none (by omega)]
theorem xq_textc (hF : 1000 < F) {S : jTS} {B : Nat × (Nat → Nat)} (h : xqQ D S.1 m) (hN : jN m = 94 + 3 * S.1) (hT : xTp B m) : ∃ m', c_X9_text F m 32 = some ((jtxt D S B).1, m') ∧ xqX S.1 m m' ∧ jN m' = 94 + 3 * (jtxt D S B).2.2.1.1 ∧ jT m' ≤ jT m + 300 * ((jtxt D S B).2.2.1.1 - S.1) ∧ xqQ (jtxt D S B).2.1 (jtxt D S B).2.2.1.1 m' ∧ xTp ((jtxt D S B).2.2.2, B.2) m' := by
  obtain ⟨t1, t2, t3⟩ := hT
  have hB := h.1
  have hL := hB.2.1.1
  have hZ := hB.2.2.1.2
  obtain ⟨w1, w6, wr⟩ := hB.2.2.2.2.2.1
  unfold c_X9_text jtxt
  rw [jgd_t hL.1, hB.2.2.2.2.1.2.1]
  by_cases e6 : S.1 = 6
  · rw [if_neg (show ¬ Int32.ofNat S.1 < (6 : Int32) from ji_ltn (b := 6) (by omega) (by omega) (by omega)), if_pos e6]
    exact ⟨m, rfl, xqX.rfl, hN, Nat.le_add_right _ _, h, t1, t2, t3⟩
  · rw [if_pos (show Int32.ofNat S.1 < (6 : Int32) from ji_ltp (b := 6) (by omega) (by omega) (by omega)), if_neg e6, hL.2.2.2.2.1, jgd_t hZ.1]
    obtain ⟨m1, a1, a2, a3, a4, a5⟩ := q_rread (F := F) hF hZ t1 t2 t3
    have hx1 : xqF (fun a _ => a = 36 ∨ a = 38) m m1 := xqF_x a2
    have hQ1 : xqQ D S.1 m1 := xqQ_fx hx1 (fun a i q => by unfold xqV; omega) h
    rw [a1, jb_some]
    dsimp only
    cases e : jzrd B.2 B.1 with
    | inl p =>
      have hp := a4 p e
      dsimp only
      rw [if_neg (ji_ne1 (by omega))]
      refine ⟨m1, rfl, fun a _ => ⟨⟨by rw [a2.K], by rw [a2.Z]⟩, fun _ => by rw [a2.P], fun q1 q2 => ⟨funext fun i => a2.L (by omega), fun i _ => a2.I (by omega)⟩⟩, by rw [a2.1]; exact hN, by rw [a2.2.1]; exact Nat.le_add_right _ _, hQ1, a3, Nat.zero_le _, fun i hi => absurd hi (Nat.not_lt_zero i)⟩
    | inr l =>
      obtain ⟨b1, b2, b3⟩ := a5 l e
      have hB1 := hQ1.1
      have hL1 := hB1.2.1.1
      have hZ1 := hB1.2.2.1.2
      have hc : 32 + jN m1 = 126 + 3 * S.1 := by rw [a2.1]; omega
      dsimp only
      rw [if_pos rfl, jgd_t hL1.1, jlet_m]
      have g := xqG_new (m := m1) (k := 32 + 7) (z := 0) (n := jnf 7)
      have k1 := xnew_K (m := m1) (k := 32 + 7) (z := 0) (n := jnf 7)
      have k3 := xnew_N (m := m1) (k := 32 + 7) (z := 0) (n := jnf 7)
      have k4 := xnew_T (m := m1) (k := 32 + 7) (z := 0) (n := jnf 7)
      generalize jnew m1 (32 + 7) 0 (jnf 7) = m8 at g k1 k3 k4 ⊢
      rw [hc] at g k1 ⊢
      rw [jgd_t (show jK m8 32 = 41 by rw [(g 32 (by omega)).1]; exact hL1.1), (g 32 (by omega)).2.2.2.2, hL1.2.2.2.2.1, jgd_t (show jK m8 36 = 35 by rw [(g 36 (by omega)).1]; exact hZ1.1), (g 36 (by omega)).2.2.2.2, hZ1.2.2.1, (g 36 (by omega)).2.2.1, b1]
      obtain ⟨m12, c1, c2, c3, c4, c5, c6, c7, c8, c9, c10, c11, c12⟩ := q_tinit (F := F) (m := m8) (c := 126 + 3 * S.1) (s := 38) (z := 160) (n := l.length) (by omega) (by omega) k1 (by omega) (by rw [(g 38 (by omega)).1]; exact hZ1.2.2.2.2.2.1) (by rw [(g 38 (by omega)).2.1]; exact hZ1.2.2.2.2.2.2.1) b2 (by omega)
      have G := g.trans c4
      rw [c1, jb_some, hL1.2.2.1, jgd_t (show jK m12 34 = 6 by rw [(G 34 (by omega)).1]; exact hB1.2.1.2.2.1.1), hB1.2.2.2.2.1.2.1, jgd_t (show jin (Int32.ofNat S.1) (jZ m12 34) = true by rw [(G 34 (by omega)).2.1, hB1.2.1.2.2.1.2.1]; exact ji_int (by omega) (by omega)), jgd_t c5, jgd_t (show jK m12 32 = 41 by rw [(G 32 (by omega)).1]; exact hL1.1), ji_n (by omega), jsI_y]
      have i12 : jI (jsP m12 34 S.1 (126 + 3 * S.1)) 32 12 = Int32.ofNat S.1 := by
        show jI m12 32 12 = _
        rw [(G 32 (by omega)).2.2.1]
        exact hB1.2.2.2.2.1.2.1
      rw [i12, show Int32.ofNat S.1 + 1 = Int32.ofNat (S.1 + 1) from ji_add S.1 1, show Int32.ofNat (S.1 + 1) - 1 = Int32.ofNat S.1 from ji_sub1 (by omega)]
      generalize hm' : jsI (jsP m12 34 S.1 (126 + 3 * S.1)) 32 12 (Int32.ofNat (S.1 + 1)) = m'
      have hK' : jK m' = jK m12 := by rw [← hm']; rfl
      have hZ' : jZ m' = jZ m12 := by rw [← hm']; rfl
      have hP' : jP m' = jup (jP m12) 34 S.1 (126 + 3 * S.1) := by rw [← hm']; rfl
      have hL' : jL m' = jL m12 := by rw [← hm']; rfl
      have hI' : ∀ a i, ¬ (a = 32 ∧ i = 12) → jI m' a i = jI m12 a i := fun a i q => by rw [← hm', jsI_no q]; rfl
      have hw' : jI m' 32 12 = Int32.ofNat (S.1 + 1) := by rw [← hm', jsI_y]
      have hNT : jN m' = jN m12 ∧ jT m' = jT m12 := by rw [← hm']; exact ⟨rfl, rfl⟩
      clear hm' i12
      have hX : xqX S.1 m m' := fun a ha => ⟨⟨by rw [hK', (G a ha).1, a2.K], by rw [hZ', (G a ha).2.1, a2.Z]⟩, fun q => by rw [hP', jup_ne _ _ _ q, (G a ha).2.2.2.2, a2.P], fun q1 q2 => ⟨by rw [hL', (G a ha).2.2.2.1]; exact funext fun i => a2.L (by omega), fun i q => by rw [hI' a i q, (G a ha).2.2.1]; exact a2.I (by omega)⟩⟩
      have hne : S.1 ≠ jDr D := by omega
      have hxb := xtb_e (t := S.1) w1
      have hIf : ∀ a, a < 126 + 3 * S.1 → a ≠ 32 → a ≠ 36 → a ≠ 38 → jI m' a = jI m a := fun a h0 h1 h2 h3 => funext fun i => ((hX a h0).2.2 h2 h3).2 i (by omega)
      have hB' : xqB (jUt D S.1 l) (S.1 + 1) m' := by
        refine ⟨hB.1, xqL_ag (fun a q => (hX a (by omega)).1.1) (fun a q => (hX a (by omega)).1.2) (fun a q q2 => (hX a (by omega)).2.1 q2) hB.2.1, ⟨?_, jzT_ag (fun a q => (hX a (by omega)).1.1) (fun a q => (hX a (by omega)).1.2) ((hX 36 (by omega)).2.1 (by omega)) (fun a i q => ((hX a (by omega)).2.2 (by omega) (by omega)).2 i (by omega)) hZ⟩, fun r hr => jCr_of (D := D) (hIf _ (by unfold jrc; omega) (by unfold jrc; omega) (by unfold jrc; omega) (by unfold jrc; omega)) (hIf _ (by unfold jrv; omega) (by unfold jrv; omega) (by unfold jrv; omega) (by unfold jrv; omega)) (hIf _ (by unfold jrk; omega) (by unfold jrk; omega) (by unfold jrk; omega) (by unfold jrk; omega)) (hB.2.2.2.1 r hr), ⟨?_, hw', ?_, ?_⟩, ⟨by omega, by omega, by show jDr D < _; omega⟩, fun t ht => ?_⟩
        · have hS := hB.2.2.1.1
          unfold jLs at hS ⊢
          rw [(hX 1 (by omega)).1.1, (hX 1 (by omega)).1.2, hIf 1 (by omega) (by omega) (by omega) (by omega)]
          exact hS
        · rw [((hX 32 (by omega)).2.2 (by omega) (by omega)).2 11 (by omega)]
          exact hB.2.2.2.2.1.1
        · rw [((hX 32 (by omega)).2.2 (by omega) (by omega)).2 14 (by omega)]
          exact hB.2.2.2.2.1.2.2.1
        · rw [((hX 32 (by omega)).2.2 (by omega) (by omega)).2 15 (by omega)]
          exact hB.2.2.2.2.1.2.2.2
        · by_cases q : t = S.1
          · subst q
            refine ⟨?_, l.length, ?_⟩
            · rw [hP', hxb.1]
              exact if_pos ⟨rfl, rfl⟩
            · rw [hxb.1, hxb.2.1, hxb.2.2]
              have hc0 : jP m' (126 + 3 * S.1) = jP m12 (126 + 3 * S.1) := by rw [hP', jup_ne _ _ _ (by omega)]
              refine ⟨⟨by rw [hK']; exact c5, by rw [hc0, c6]; omega, by rw [hc0, c7]; omega, ?_, ?_, ?_, ?_, by omega, by omega⟩, Or.inr (by omega), Or.inr (by omega), fun r k f cp => ?_⟩
              · rw [hK', show 128 + 3 * S.1 = 126 + 3 * S.1 + 2 by omega]; exact c10
              · rw [hZ', show 128 + 3 * S.1 = 126 + 3 * S.1 + 2 by omega]; exact c11
              · rw [hK', show 127 + 3 * S.1 = 126 + 3 * S.1 + 1 by omega]; exact c8
              · rw [hZ', show 127 + 3 * S.1 = 126 + 3 * S.1 + 1 by omega]; exact c9
              · rw [xcodes (m := m') (c := 128 + 3 * S.1) (l := l) rfl (fun i hi => by
                  rw [hI' _ _ (by omega), show 128 + 3 * S.1 = 126 + 3 * S.1 + 2 by omega, c12 i hi, (g 38 (by omega)).2.2.1]
                  exact b3 i hi)]
                show _ = (if S.1 = S.1 then jtell l else jDt D S.1) r k f cp
                rw [if_pos rfl]
          · have ht2 : t < S.1 := by omega
            obtain ⟨g1, n, g2⟩ := hB.2.2.2.2.2.2 t ht2
            have hlt := xtb_lt ht2
            have hcc := xtb_c t
            refine ⟨?_, n, jTX_ag (D := jUr D t) (fun a ha => (hX a (by omega)).1) ((hX (xtb t) (by omega)).2.1 (by omega)) (hIf _ (by omega) (by omega) (by omega) (by omega)) ?_ g2⟩
            · rw [hP', (show jup (jP m12) 34 S.1 (126 + 3 * S.1) 34 t = jP m12 34 t from if_neg (by omega)), (G 34 (by omega)).2.2.2.2, a2.P]
              exact g1
            · show (if t = S.1 then jtell l else jDt D t) = jDt D t
              rw [if_neg q]
      refine ⟨m', rfl, hX, ?_, ?_, ⟨hB', ?_⟩, ?_, Nat.zero_le _, fun i hi => absurd hi (Nat.not_lt_zero i)⟩
      · show jN m' = 94 + 3 * (S.1 + 1)
        rw [hNT.1, c2, k3, a2.1, hN]
        omega
      · show jT m' ≤ jT m + 300 * (S.1 + 1 - S.1)
        rw [hNT.2, c3, k4, a2.2.1, show jnf 7 = 2 from rfl]
        omega
      · obtain ⟨-, st, h1, h2⟩ := h
        refine ⟨st, by rw [((hX 32 (by omega)).2.2 (by omega) (by omega)).2 10 (by omega)]; exact h1, fun q => ?_⟩
        obtain ⟨j1, j2⟩ := h2 q
        have hf : ∀ a, 49 ≤ a → a ≤ 49 + 13 → jI m' a = jI m a ∧ jL m' a = jL m a := fun a q1 q2 => ⟨hIf a (by omega) (by omega) (by omega) (by omega), ((hX a (by omega)).2.2 (by omega) (by omega)).1⟩
        have hIn : jIn (jUt D S.1 l) 49 m' := xqB_In hB' (Or.inl rfl) (by rw [(hX 49 (by omega)).2.1 (by omega)]; exact j1.1.2.1)
        refine ⟨jJ_ut hne (jJ_fx hIn hf j1), ?_⟩
        rw [(hf 49 (by omega) (by omega)).1]
        rcases j2 with z | ⟨z, z2⟩
        · exact Or.inl z
        · exact Or.inr ⟨z, jTly_ut hne (jTly_fx hf z2)⟩
      · rw [hI' _ _ (by omega), (G 36 (by omega)).2.2.1]
        exact a3
end XTEXT2
