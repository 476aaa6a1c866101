/-! each call of the class answers as that of the reference: those that keep more -/
section OKS2
variable {s : jS6} {F : Nat} {x1 x2 x3 x4 x5 : Int32}
theorem jokp_worth : jOKp s (fun m => c_X9_worth F m 32 x1 x2) (fun m => c_X10_worth F m 101 x1 x2) :=
  ⟨_, fun m h => xq_worth h.1.1, fun m h => y_worth h.2.1.1 h.1⟩
theorem jokp_slate : jOKp s (fun m => c_X9_slate F m 32 x1) (fun m => c_X10_slate F m 101 x1) :=
  ⟨_, fun m h => xq_slate h.1.1 h.2.2.2.1, fun m h => y_slate h.1 h.2.2.2.1⟩
theorem jokp_count (hF : 5000 < F) : jOKp s (fun m => c_X9_count F m 32 x1) (fun m => c_X10_count F m 101 x1) :=
  ⟨_, fun m h => xq_count (by omega) h.1.1 h.2.2.1 h.2.2.2.1, fun m h => y_count (by omega) h.2.1.1 h.1 h.2.2.1 h.2.2.2.1⟩
theorem jokp_item : jOKp s (fun m => c_X9_item F m 32 x1 x2) (fun m => c_X10_item F m 101 x1 x2) :=
  ⟨_, fun m h => xq_item h.1.1 h.2.2.2.2.1, fun m h => y_item h.1.1.1 h.2.2.2.2.1⟩
theorem jokp_taken (hF : 5000 < F) : jOKp s (fun m => c_X9_taken F m 32 x1 x2) (fun m => c_X10_taken F m 101 x1 x2) :=
  ⟨_, fun m h => xq_taken h.1.1, fun m h => y_taken (by omega) h.2.1.1 h.1⟩
theorem jok_H {α : Type} {c r : jMe → Option (α × jMe)} {v : α} {H' : jHt} {Qc Qr : Nat → Nat → Prop} (hc : ∀ m, jXA s m → ∃ m1, c m = some (v, m1) ∧ xqF Qc m m1 ∧ xqQ s.1 s.2.1.1 m1 ∧ xHm H' m1) (hr : ∀ m, jYA s m → ∃ m2, r m = some (v, m2) ∧ jfx Qr m m2 ∧ jyQ s.1 s.2.1 m2 ∧ jyHm H' m2) (hQc : ∀ a i, Qc a i → ¬ (a = 2 ∨ (101 ≤ a ∧ a ≤ 128) ∨ (a = 36 ∧ i = 2) ∨ a = 37 ∨ (a = 32 ∧ i = 13) ∨ a = 48 ∨ (39 ≤ a ∧ a ≤ 42))) (hQr : ∀ a i, Qr a i → (101 ≤ a ∧ a ≤ 128) ∧ ¬ ((a = 101 ∧ i = 6) ∨ a = 104 ∨ (a = 101 ∧ i = 49) ∨ a = 121 ∨ (122 ≤ a ∧ a ≤ 124) ∨ (a = 101 ∧ 53 ≤ i ∧ i ≤ 55))) : jOK s c r := by
  refine ⟨v, (s.1, s.2.1, s.2.2.1, s.2.2.2.1, H', s.2.2.2.2.2), fun m h => ?_, fun m h => ?_⟩
  · obtain ⟨m1, a1, a2, a3, a4⟩ := hc m h
    obtain ⟨-, ⟨k2, k3⟩, k4, k5, k6, k7⟩ := h
    exact ⟨m1, a1, ⟨a3, ⟨by rw [a2.1.1]; exact k2, by rw [a2.1.2.1]; exact k3⟩, xTp_fx a2 (fun a i z q => hQc a i z (by omega)) k4, xSl_fx a2 (fun a i z q => hQc a i z (by omega)) k5, a4, xIm_fx (fun a i q1 q2 => a2.I (fun z => hQc a i z (by omega))) k7⟩, jfC_x a2 (fun a i q z => hQc a i z (by omega))⟩
  · obtain ⟨m2, a1, a2, a3, a4⟩ := hr m h
    obtain ⟨-, k2, k3, k4, k5, k6, k7⟩ := h
    exact ⟨m2, a1, ⟨a3, k2, jyTp_fx a2 (fun a i z q => (hQr a i z).2 (by omega)) k3, jySl_fx a2 (fun a i z q => (hQr a i z).2 (by omega)) k4, a4, yIm_fx a2 (fun a i q z => (hQr a i z).2 (by omega)) k6, k7⟩, a2.weak (fun a i z => (hQr a i z).1)⟩
theorem jok_film (hF : 5000 < F) : jOK s (fun m => c_X9_film F m 32 x1 x2) (fun m => c_X10_film F m 101 x1 x2) :=
  jok_H (fun m h => xq_film (by omega) h.1 (g := jgB s.1) jgB_iff h.2.2.2.2.1) (fun m h => y_film (by omega) h.2.1 jgB_iff h.1 h.2.2.2.2.1) (fun a i q => by unfold xqO xqS at q; omega) (fun a i q => by unfold jyO at q; omega)
theorem jyQ_H {Q : Nat → Nat → Prop} {D : jD} {S : jTS} {m m' : jMe} (h : jfx Q m m') (hQ : ∀ a i, Q a i → 113 ≤ a) (k : jyQ D S m) : jyQ D S m' :=
  jyQ_fx h ⟨fun z => by have := hQ _ _ z; omega, fun z => by have := hQ _ _ z; omega, fun z => by have := hQ _ _ z; omega⟩ (jRf_fx h (fun a i q z => by have := hQ _ _ z; unfold jSr at q; omega) k.1) k
theorem jok_sheet (hF : 5000 < F) : jOK s (fun m => c_X9_sheet F m 32 x1 x2 x3) (fun m => c_X10_sheet F m 101 x1 x2 x3) :=
  jok_H (Qc := xqS) (Qr := fun a _ => 125 ≤ a ∧ a ≤ 128) (fun m h => by
    obtain ⟨m1, a1, a2, a3⟩ := xq_sheet (F := F) (x1 := x1) (x2 := x2) (x3 := x3) (by omega) h.1.1 h.2.2.2.2.1
    exact ⟨m1, a1, a2, xqQ_fx a2 (fun a i q => by unfold xqS at q; unfold xqV; omega) h.1, a3⟩) (fun m h => by
    obtain ⟨m2, a1, a2, a3⟩ := y_sheet (F := F) (x1 := x1) (x2 := x2) (x3 := x3) (by omega) h.1.1.1 h.2.2.2.2.1
    exact ⟨m2, a1, a2, jyQ_H a2 (fun a i q => by omega) h.1, a3⟩) (fun a i q => by unfold xqS at q; omega) (fun a i q => by omega)
theorem jok_put {y : Int64} : jOK s (fun m => c_X9_put F m 32 x1 x2 y) (fun m => c_X10_put F m 101 x1 x2 y) :=
  jok_H (Qc := xqS) (Qr := fun a _ => a = 128) (fun m h => by
    obtain ⟨m1, a1, a2, a3⟩ := xq_put (F := F) (x1 := x1) (x2 := x2) (x3 := y) h.1.1 h.2.2.2.2.1
    exact ⟨m1, a1, a2, xqQ_fx a2 (fun a i q => by unfold xqS at q; unfold xqV; omega) h.1, a3⟩) (fun m h => by
    obtain ⟨m2, a1, a2, a3⟩ := y_put (F := F) (x1 := x1) (x2 := x2) (x3 := y) h.1.1.1 h.2.2.2.2.1
    exact ⟨m2, a1, a2, jyQ_H a2 (fun a i q => by omega) h.1, a3⟩) (fun a i q => by unfold xqS at q; omega) (fun a i q => by omega)
theorem jok_copy (hF : 5000 < F) : jOK s (fun m => c_X9_copy F m 32 x1 x2 x3 x4 x5) (fun m => c_X10_copy F m 101 x1 x2 x3 x4 x5) :=
  jok_H (Qc := xqS) (Qr := fun a _ => a = 128) (fun m h => by
    obtain ⟨m1, a1, a2, a3⟩ := xq_copy (F := F) (x1 := x1) (x2 := x2) (x3 := x3) (x4 := x4) (x5 := x5) h.1.1 h.2.2.2.2.1
    exact ⟨m1, a1, a2, xqQ_fx a2 (fun a i q => by unfold xqS at q; unfold xqV; omega) h.1, a3⟩) (fun m h => by
    obtain ⟨m2, a1, a2, a3⟩ := y_copy (F := F) (x1 := x1) (x2 := x2) (x3 := x3) (x4 := x4) (x5 := x5) (by omega) h.1.1.1 h.2.2.2.2.1
    exact ⟨m2, a1, a2, jyQ_H a2 (fun a i q => by omega) h.1, a3⟩) (fun a i q => by unfold xqS at q; omega) (fun a i q => by omega)
theorem jok_feed : jOK s (fun m => c_X9_feed F m 32 x1) (fun m => c_X10_feed F m 101 x1) := by
  refine ⟨(jfed s.2.2.1 x1).1, (s.1, s.2.1, (jfed s.2.2.1 x1).2, s.2.2.2), fun m h => ?_, fun m h => ?_⟩
  · obtain ⟨m1, a1, a2, a3⟩ := xq_feed (F := F) (x1 := x1) h.1 h.2.2.1
    obtain ⟨k1, ⟨k2, k3⟩, k4, k5, k6, k7⟩ := h
    exact ⟨m1, a1, ⟨xqQ_fx a2 (fun a i q => by unfold xqV; omega) k1, ⟨by rw [a2.1.1]; exact k2, by rw [a2.1.2.1]; exact k3⟩, a3, xSl_fx a2 (fun a i z q => by omega) k5, xHm_fx a2 (fun a i q1 q2 z => by omega) k6, xIm_fx (fun a i q1 q2 => a2.I (by omega)) k7⟩, jfC_x a2 (fun a i q z => by omega)⟩
  · obtain ⟨m2, a1, a2, a3, a4⟩ := y_feed (F := F) (x1 := x1) h.1 h.2.2.1
    obtain ⟨-, k2, k3, k4, k5, k6, k7⟩ := h
    exact ⟨m2, a1, ⟨a3, k2, a4, jySl_fx a2 (fun a i z q => by omega) k4, jyHm_fx a2 (fun a i q1 q2 z => by omega) k5, yIm_fx a2 (fun a i q z => by omega) k6, k7⟩, a2.weak (fun a i z => by omega)⟩
theorem jok_strip (hF : 5000 < F) {y : Int64} : jOK s (fun m => c_X9_strip F m 32 x1 y) (fun m => c_X10_strip F m 101 x1 y) := by
  refine ⟨(jstr s.1 s.2.2.2.2.1 s.2.2.2.1 x1 y).1, (s.1, s.2.1, s.2.2.1, (jstr s.1 s.2.2.2.2.1 s.2.2.2.1 x1 y).2, s.2.2.2.2), fun m h => ?_, fun m h => ?_⟩
  · obtain ⟨m1, a1, a2, a3, a4⟩ := xq_strip (F := F) (x1 := x1) (x2 := y) (by omega) h.1 h.2.2.2.2.1 h.2.2.2.1
    obtain ⟨k1, ⟨k2, k3⟩, k4, k5, k6, k7⟩ := h
    exact ⟨m1, a1, ⟨a3, ⟨by rw [a2.1.1]; exact k2, by rw [a2.1.2.1]; exact k3⟩, xTp_fx a2 (fun a i z q => by unfold xqZ xqH at z; omega) k4, a4, xHm_fx a2 (fun a i q1 q2 z => by unfold xqZ xqH at z; omega) k6, xIm_fx (fun a i q1 q2 => a2.I (by unfold xqZ xqH; omega)) k7⟩, jfC_x a2 (fun a i q z => by unfold xqZ xqH at z; omega)⟩
  · obtain ⟨m2, a1, a2, a3, a4⟩ := y_strip (F := F) (x1 := x1) (x2 := y) (by omega) h.2.1 h.1 h.2.2.2.2.1 h.2.2.2.1
    obtain ⟨-, k2, k3, k4, k5, k6, k7⟩ := h
    exact ⟨m2, a1, ⟨a3, k2, jyTp_fx a2 (fun a i z q => by unfold jyPs jyP jyO at z; omega) k3, a4, jyHm_fx a2 (fun a i q1 q2 z => by unfold jyPs jyP jyO at z; omega) k5, yIm_fx a2 (fun a i q z => by unfold jyPs jyP jyO at z; omega) k6, k7⟩, a2.weak (fun a i z => by unfold jyPs jyP jyO at z; omega)⟩
theorem jok_image (hF : 5000 < F) : jOK s (fun m => c_X9_image F m 32) (fun m => c_X10_image F m 101) := by
  refine ⟨Int32.ofNat (jDn s.1), (s.1, s.2.1, s.2.2.1, s.2.2.2.1, s.2.2.2.2.1, jImg s.1), fun m h => ?_, fun m h => ?_⟩
  · obtain ⟨m1, a1, a2, a3, a4⟩ := xq_image (F := F) (by omega) h.1
    obtain ⟨k1, ⟨k2, k3⟩, k4, k5, k6, k7⟩ := h
    exact ⟨m1, a1, ⟨a3, ⟨by rw [a2.1.1]; exact k2, by rw [a2.1.2.1]; exact k3⟩, xTp_fx a2 (fun a i z q => by omega) k4, xSl_fx a2 (fun a i z q => by omega) k5, xHm_fx a2 (fun a i q1 q2 z => by omega) k6, a4⟩, jfC_x a2 (fun a i q z => by omega)⟩
  · obtain ⟨m2, a1, a2, a3, a4⟩ := y_image (F := F) (by omega) h.2.1 h.1
    obtain ⟨-, k2, k3, k4, k5, k6, k7⟩ := h
    exact ⟨m2, a1, ⟨a3, k2, jyTp_fx a2 (fun a i z q => by unfold jyIc at z; omega) k3, jySl_fx a2 (fun a i z q => by unfold jyIc at z; omega) k4, jyHm_fx a2 (fun a i q1 q2 z => by unfold jyIc at z; omega) k5, a4, jIv_i k2⟩, a2.weak (fun a i z => by unfold jyIc at z; omega)⟩
theorem jok_back (hF : 5000 < F) (hDS : jDS s.1 s.2.1) (hv : jIv s.1 s.2.1 s.2.2.2.2.2) : jOK s (fun m => c_X9_back F m 32) (fun m => c_X10_back F m 101) := by
  refine ⟨(jbkr s.1 s.2.2.2.2.2).1, ((jbkr s.1 s.2.2.2.2.2).2, s.2), fun m h => ?_, fun m h => ?_⟩
  · obtain ⟨m1, a1, a2, a3⟩ := xq_back (F := F) (S := s.2.1) (by omega) h.1 (fun q => jIv_ok hDS hv q) hv h.2.2.2.2.2
    obtain ⟨k1, ⟨k2, k3⟩, k4, k5, k6, k7⟩ := h
    exact ⟨m1, a1, ⟨a3, ⟨by rw [a2.1.1]; exact k2, by rw [a2.1.2.1]; exact k3⟩, xTp_fx a2 (fun a i z q => by unfold xqW at z; omega) k4, xSl_fx a2 (fun a i z q => by unfold xqW at z; omega) k5, xHm_fx a2 (fun a i q1 q2 z => by unfold xqW at z; omega) k6, xIm_fx (fun a i q1 q2 => a2.I (by unfold xqW; omega)) k7⟩, jfC_x a2 (fun a i q z => by unfold xqW at z; omega)⟩
  · obtain ⟨m2, a1, a2, a3⟩ := y_back (F := F) (by omega) h.2.1 h.1 h.2.2.2.2.2.2 h.2.2.2.2.2.1
    obtain ⟨-, k2, k3, k4, k5, k6, k7⟩ := h
    refine ⟨m2, a1, ⟨a3, ?_, jyTp_fx a2 (fun a i z q => by unfold jyBc at z; omega) k3, jySl_fx a2 (fun a i z q => by unfold jyBc at z; omega) k4, jyHm_fx a2 (fun a i q1 q2 z => by unfold jyBc at z; omega) k5, yIm_fx a2 (fun a i q z => by unfold jyBc at z; omega) k6, ?_⟩, a2.weak (fun a i z => by unfold jyBc at z; omega)⟩
    · show jDS (jbkr s.1 s.2.2.2.2.2).2 s.2.1
      unfold jbkr
      by_cases e : s.2.2.2.2.2.1 = true
      · rw [if_pos e]; exact jIv_ok k2 k7 e
      · rw [if_neg e]; exact k2
    · show jIv (jbkr s.1 s.2.2.2.2.2).2 s.2.1 s.2.2.2.2.2
      unfold jbkr
      by_cases e : s.2.2.2.2.2.1 = true
      · rw [if_pos e]; exact jIv_b k7 e
      · rw [if_neg e]; exact k7
theorem jtxt_m {D : jD} {S : jTS} {B : Nat × (Nat → Nat)} : jDn (jtxt D S B).2.1 = jDn D ∧ (∀ r, jDz (jtxt D S B).2.1 r = jDz D r) ∧ S.1 ≤ (jtxt D S B).2.2.1.1 := by
  unfold jtxt
  split
  · exact ⟨rfl, fun _ => rfl, Nat.le_refl _⟩
  · split
    · exact ⟨rfl, fun _ => rfl, Nat.le_refl _⟩
    · exact ⟨rfl, fun _ => rfl, Nat.le_succ _⟩
theorem jok_text (hF : 5000 < F) : jOK s (fun m => c_X9_text F m 32) (fun m => c_X10_text F m 101) := by
  obtain ⟨n1, n2, n3⟩ := jtxt_m (D := s.1) (S := s.2.1) (B := s.2.2.1)
  refine ⟨(jtxt s.1 s.2.1 s.2.2.1).1, ((jtxt s.1 s.2.1 s.2.2.1).2.1, (jtxt s.1 s.2.1 s.2.2.1).2.2.1, ((jtxt s.1 s.2.1 s.2.2.1).2.2.2, s.2.2.1.2), s.2.2.2), fun m h => ?_, fun m h => ?_⟩
  · have hw := h.1.1.2.2.2.2.2.1.1
    obtain ⟨m1, a1, a2, a3, a4, a5, a6⟩ := xq_textc (F := F) (S := s.2.1) (by omega) h.1 h.2.1.1 h.2.2.1
    obtain ⟨k1, ⟨k2, k3⟩, k4, ⟨l1, l2, l3⟩, k6, k7⟩ := h
    have hI : ∀ a i, a < 129 → a ≠ 34 → a ≠ 36 → a ≠ 38 → ¬ (a = 32 ∧ i = 12) → jI m1 a i = jI m a i := fun a i z1 z2 z3 z4 z5 => ((a2 a (by omega)).2.2 z3 z4).2 i z5
    have hL : ∀ a i, a < 129 → a ≠ 36 → a ≠ 38 → jL m1 a i = jL m a i := fun a i z1 z2 z3 => by rw [((a2 a (by omega)).2.2 z2 z3).1]
    refine ⟨m1, a1, ⟨a5, ⟨a3, ?_⟩, a6, ⟨l1, by rw [hI _ _ (by omega) (by omega) (by omega) (by omega) (by omega)]; exact l2, fun i hi => by rw [hI _ _ (by omega) (by omega) (by omega) (by omega) (by omega)]; exact l3 i hi⟩, fun x hx => ?_, xIm_fx (fun a i q1 q2 => hI _ _ (by omega) (by omega) (by omega) (by omega) (by omega)) k7⟩, jfC_X hw a2⟩
    · show jT m1 ≤ 7300000 + 300 * (jtxt s.1 s.2.1 s.2.2.1).2.2.1.1
      omega
    · obtain ⟨g1, g2, g3, g4, g5, g6⟩ := k6 x hx
      exact ⟨by rw [hI _ _ (by omega) (by omega) (by omega) (by omega) (by omega)]; exact g1, by rw [hI _ _ (by omega) (by omega) (by omega) (by omega) (by omega)]; exact g2, g3, g4, g5, fun i hi => by rw [hL _ _ (by omega) (by omega) (by omega)]; exact g6 i hi⟩
  · obtain ⟨m2, a1, a2, a3, a4, a5⟩ := y_text (F := F) (by omega) h.2.1 h.1 h.2.2.1
    obtain ⟨-, k2, k3, k4, k5, k6, k7⟩ := h
    exact ⟨m2, a1, ⟨a3, a4, a5, jySl_fx a2 (fun a i z q => by omega) k4, jyHm_fx a2 (fun a i q1 q2 z => by omega) k5, yIm_fx a2 (fun a i q z => by omega) k6, jIv_m k7 (Nat.le_of_eq n1.symm) (fun r => Nat.le_of_eq (n2 r).symm) n3⟩, a2.weak (fun a i z => by omega)⟩
end OKS2
