/-! each call of the class answers as that of the reference -/
section OKS
variable {s : jS6}
def jkC (a i : Nat) : Prop := ¬ (a = 2 ∨ (101 ≤ a ∧ a ≤ 128) ∨ (a = 36 ∧ i = 2) ∨ a = 37 ∨ (a = 32 ∧ i = 13) ∨ a = 48 ∨ (89 ≤ a ∧ a ≤ 96) ∨ (39 ≤ a ∧ a ≤ 42))
def jkR (a i : Nat) : Prop := (101 ≤ a ∧ a ≤ 128) ∧ ¬ ((a = 101 ∧ i = 6) ∨ a = 104 ∨ (a = 101 ∧ i = 49) ∨ a = 121 ∨ (122 ≤ a ∧ a ≤ 128) ∨ (a = 101 ∧ 53 ≤ i ∧ i ≤ 55))
theorem xTp_fx {Q : Nat → Nat → Prop} {B : Nat × (Nat → Nat)} {m m' : jMe} (h : xqF Q m m') (hQ : ∀ a i, Q a i → ¬ ((a = 36 ∧ i = 2) ∨ a = 37)) (k : xTp B m) : xTp B m' := by
  obtain ⟨b1, b2, b3⟩ := k
  exact ⟨by rw [h.I (fun z => hQ _ _ z (by omega))]; exact b1, b2, fun i hi => ⟨by rw [h.I (fun z => hQ _ _ z (by omega))]; exact (b3 i hi).1, (b3 i hi).2⟩⟩
theorem xSl_fx {Q : Nat → Nat → Prop} {L : Nat × (Nat → Int32)} {m m' : jMe} (h : xqF Q m m') (hQ : ∀ a i, Q a i → ¬ ((a = 32 ∧ i = 13) ∨ a = 48)) (k : xSl L m) : xSl L m' := by
  obtain ⟨b1, b2, b3⟩ := k
  exact ⟨b1, by rw [h.I (fun z => hQ _ _ z (by omega))]; exact b2, fun i hi => by rw [h.I (fun z => hQ _ _ z (by omega))]; exact b3 i hi⟩
theorem jyTp_fx {Q : Nat → Nat → Prop} {B : Nat × (Nat → Nat)} {m m' : jMe} (h : jfx Q m m') (hQ : ∀ a i, Q a i → ¬ ((a = 101 ∧ i = 6) ∨ a = 104)) (k : jyTp B m) : jyTp B m' := by
  obtain ⟨b1, b2, b3⟩ := k
  exact ⟨by rw [h.I (fun z => hQ _ _ z (by omega))]; exact b1, b2, fun i hi => ⟨by rw [h.I (fun z => hQ _ _ z (by omega))]; exact (b3 i hi).1, (b3 i hi).2⟩⟩
theorem jySl_fx {Q : Nat → Nat → Prop} {L : Nat × (Nat → Int32)} {m m' : jMe} (h : jfx Q m m') (hQ : ∀ a i, Q a i → ¬ ((a = 101 ∧ i = 49) ∨ a = 121)) (k : jySl L m) : jySl L m' := by
  obtain ⟨b1, b2, b3⟩ := k
  exact ⟨b1, by rw [h.I (fun z => hQ _ _ z (by omega))]; exact b2, fun i hi => by rw [h.I (fun z => hQ _ _ z (by omega))]; exact b3 i hi⟩
theorem jok_D {α : Type} {c r : jMe → Option (α × jMe)} {v : α} {D' : jD} {Qc Qr : Nat → Nat → Prop} (hc : ∀ m, jXA s m → ∃ m1, c m = some (v, m1) ∧ xqF Qc m m1 ∧ xqQ D' s.2.1.1 m1) (hr : ∀ m, jYA s m → ∃ m2, r m = some (v, m2) ∧ jfx Qr m m2 ∧ jyQ D' s.2.1 m2 ∧ jDS D' s.2.1) (hn : jDn s.1 ≤ jDn D' ∧ ∀ r, jDz s.1 r ≤ jDz D' r) (hQc : ∀ a i, Qc a i → jkC a i) (hQr : ∀ a i, Qr a i → jkR a i) : jOK s c r := by
  refine ⟨v, (D', s.2), fun m h => ?_, fun m h => ?_⟩
  · obtain ⟨m1, a1, a2, a3⟩ := hc m h
    obtain ⟨-, ⟨k2, k3⟩, k4, k5, k6, k7⟩ := h
    exact ⟨m1, a1, ⟨a3, ⟨by rw [a2.1.1]; exact k2, by rw [a2.1.2.1]; exact k3⟩, xTp_fx a2 (fun a i z q => hQc a i z (by omega)) k4, xSl_fx a2 (fun a i z q => hQc a i z (by omega)) k5, xHm_fx a2 (fun a i q1 q2 z => hQc a i z (by omega)) k6, xIm_fx (fun a i q1 q2 => a2.I (fun z => hQc a i z (by omega))) k7⟩, jfC_x a2 (fun a i q z => hQc a i z (by omega))⟩
  · obtain ⟨m2, a1, a2, a3, a4⟩ := hr m h
    obtain ⟨-, -, k3, k4, k5, k6, k7⟩ := h
    exact ⟨m2, a1, ⟨a3, a4, jyTp_fx a2 (fun a i z q => (hQr a i z).2 (by omega)) k3, jySl_fx a2 (fun a i z q => (hQr a i z).2 (by omega)) k4, jyHm_fx a2 (fun a i q1 q2 z => (hQr a i z).2 (by omega)) k5, yIm_fx a2 (fun a i q z => (hQr a i z).2 (by omega)) k6, jIv_m k7 hn.1 hn.2 (Nat.le_refl _)⟩, a2.weak (fun a i z => (hQr a i z).1)⟩
theorem jok_K {α : Type} {c r : jMe → Option (α × jMe)} {v : α} {Qc Qr : Nat → Nat → Prop} (hc : ∀ m, jXA s m → ∃ m1, c m = some (v, m1) ∧ xqF Qc m m1 ∧ xqQ s.1 s.2.1.1 m1) (hr : ∀ m, jYA s m → ∃ m2, r m = some (v, m2) ∧ jfx Qr m m2 ∧ jyQ s.1 s.2.1 m2) (hQc : ∀ a i, Qc a i → jkC a i) (hQr : ∀ a i, Qr a i → jkR a i) : jOK s c r :=
  jok_D (D' := s.1) hc (fun m h => by obtain ⟨m2, a1, a2, a3⟩ := hr m h; exact ⟨m2, a1, a2, a3, h.2.1⟩) ⟨Nat.le_refl _, fun _ => Nat.le_refl _⟩ hQc hQr
theorem jkC_O : ∀ a i, xqO a i → jkC a i := fun a i q => by unfold xqO at q; unfold jkC; omega
theorem jkC_P : ∀ a i, xqP a i → jkC a i := fun a i q => by unfold xqP xqH at q; unfold jkC; omega
theorem jkC_W : ∀ a i, xqW a i → jkC a i := fun a i q => by unfold xqW at q; unfold jkC; omega
theorem jkR_O : ∀ a i, jyO a i → jkR a i := fun a i q => by unfold jyO at q; unfold jkR; omega
theorem jkR_P : ∀ a i, jyP a i → jkR a i := fun a i q => by unfold jyP jyO at q; unfold jkR; omega
theorem jkR_P2 : ∀ a i, jyP2 a i → jkR a i := fun a i q => by unfold jyP2 jyO at q; unfold jkR; omega
variable {F : Nat} {x1 x2 x3 x4 x5 : Int32}
theorem jok_relation (hF : 5000 < F) : jOK s (fun m => c_X9_relation F m 32 x1 x2) (fun m => c_X10_relation F m 101 x1 x2) :=
  jok_D (fun m h => xq_relation (by omega) h.1) (fun m h => y_relation (by omega) h.2.1 h.1) (by
    unfold jrela
    repeat' split
    all_goals first
      | exact ⟨Nat.le_succ _, fun _ => Nat.le_refl _⟩
      | exact ⟨Nat.le_refl _, fun _ => Nat.le_refl _⟩) jkC_W (fun a i q => by unfold jkR; omega)
theorem jrowr_z {D : jD} {x1 x2 x3 x4 x5 : Int32} (r : Nat) : jDz D r ≤ jDz (jrowr D x1 x2 x3 x4 x5).2 r := by
  unfold jrowr
  repeat' split
  all_goals first
    | exact Nat.le_refl _
    | (rw [jUw_z]; split <;> simp_all)
theorem jok_row (hF : 5000 < F) : jOK s (fun m => c_X9_row F m 32 x1 x2 x3 x4 x5) (fun m => c_X10_row F m 101 x1 x2 x3 x4 x5) :=
  jok_D (fun m h => xq_row (by omega) h.1) (fun m h => y_row (by omega) h.2.1 h.1) ⟨Nat.le_of_eq jrowr_n.symm, fun r => jrowr_z r⟩ jkC_W (fun a i q => by unfold jkR; omega)
theorem jok_remove (hF : 5000 < F) : jOK s (fun m => c_X9_remove F m 32 x1 x2) (fun m => c_X10_remove F m 101 x1 x2) :=
  jok_D (fun m h => xq_remove h.1) (fun m h => y_remove (by omega) h.2.1 h.1) (by
    unfold jremv
    repeat' split
    all_goals exact ⟨Nat.le_refl _, fun _ => Nat.le_refl _⟩) jkC_W (fun a i q => by unfold jkR; omega)
theorem jok_restore (hF : 5000 < F) : jOK s (fun m => c_X9_restore F m 32 x1 x2) (fun m => c_X10_restore F m 101 x1 x2) :=
  jok_D (fun m h => xq_restore (by omega) h.1) (fun m h => y_restore (by omega) h.2.1 h.1) (by
    unfold jrsto
    repeat' split
    all_goals exact ⟨Nat.le_refl _, fun _ => Nat.le_refl _⟩) jkC_W (fun a i q => by unfold jkR; omega)
theorem jok_copies (hF : 5000 < F) : jOK s (fun m => c_X9_copies F m 32 x1 x2 x3) (fun m => c_X10_copies F m 101 x1 x2 x3) :=
  jok_D (fun m h => xq_copies h.1) (fun m h => y_copies h.2.1 h.1) (by
    unfold jcops
    repeat' split
    all_goals exact ⟨Nat.le_refl _, fun _ => Nat.le_refl _⟩) jkC_W (fun a i q => by unfold jkR; omega)
theorem jok_query (hF : 5000 < F) : jOK s (fun m => c_X9_query F m 32 x1) (fun m => c_X10_query F m 101 x1) :=
  jok_D (fun m h => xq_query h.1) (fun m h => y_query (by omega) h.2.1 h.1) (by
    unfold jqry
    repeat' split
    all_goals exact ⟨Nat.le_refl _, fun _ => Nat.le_refl _⟩) jkC_W (fun a i q => by unfold jkR; omega)
theorem jok_force (hF : 5000 < F) : jOK s (fun m => c_X9_force F m 32 x1) (fun m => c_X10_force F m 101 x1) :=
  jok_D (fun m h => xq_force (S := s.2.1) rfl h.1) (fun m h => y_force h.2.1 h.1) (by
    unfold jfrc
    repeat' split
    all_goals exact ⟨Nat.le_refl _, fun _ => Nat.le_refl _⟩) jkC_W (fun a i q => by unfold jkR; omega)
theorem jok_told (hF : 5000 < F) : jOK s (fun m => c_X9_told F m 32 x1 x2 x3) (fun m => c_X10_told F m 101 x1 x2 x3) :=
  jok_K (fun m h => xq_told5 (by omega) h.1) (fun m h => y_told5 (by omega) h.2.1 h.1) jkC_O jkR_O
theorem jok_about (hF : 5000 < F) : jOK s (fun m => c_X9_about F m 32 x1 x2) (fun m => c_X10_about F m 101 x1 x2) :=
  jok_K (fun m h => xq_about (by omega) h.1) (fun m h => y_about (by omega) h.2.1 (g := jgB s.1) jgB_iff h.1) jkC_O jkR_O
theorem jok_shape (hF : 5000 < F) : jOK s (fun m => c_X9_shape F m 32 x1) (fun m => c_X10_shape F m 101 x1) :=
  jok_K (fun m h => xq_shape (by omega) h.1 (g := jgB s.1) jgB_iff) (fun m h => y_shape (by omega) h.2.1 jgB_iff h.1) jkC_O jkR_O
theorem jok_weight (hF : 5000 < F) : jOK s (fun m => c_X9_weight F m 32 x1 x2) (fun m => c_X10_weight F m 101 x1 x2) :=
  jok_K (fun m h => xq_weight (by omega) h.1 (g := jgB s.1) jgB_iff) (fun m h => y_weight (by omega) h.2.1 jgB_iff h.1) jkC_O jkR_O
theorem jok_bound (hF : 5000 < F) : jOK s (fun m => c_X9_bound F m 32 x1) (fun m => c_X10_bound F m 101 x1) :=
  jok_K (fun m h => xq_bound (by omega) h.1 (g := jgB s.1) jgB_iff) (fun m h => y_bound (by omega) h.2.1 jgB_iff h.1) jkC_O jkR_O
theorem jok_space (hF : 5000 < F) : jOK s (fun m => c_X9_space F m 32) (fun m => c_X10_space F m 101) :=
  jok_K (fun m h => xq_space (by omega) h.1 (g := jgB s.1) jgB_iff) (fun m h => y_space (by omega) h.2.1 jgB_iff h.1) jkC_O jkR_O
theorem jok_answers (hF : 5000 < F) : jOK s (fun m => c_X9_answers F m 32) (fun m => c_X10_answers F m 101) :=
  jok_K (fun m h => xq_answers (by omega) h.1 (g := jgB s.1) jgB_iff) (fun m h => y_answers (by omega) h.2.1 jgB_iff h.1) jkC_O jkR_O
theorem jok_at (hF : 5000 < F) {y : Int64} : jOK s (fun m => c_X9_at F m 32 y x3) (fun m => c_X10_at F m 101 y x3) :=
  jok_K (fun m h => xq_at (by omega) h.1 (g := jgB s.1) jgB_iff) (fun m h => y_at (by omega) h.2.1 jgB_iff h.1) jkC_O jkR_O
theorem jok_find (hF : 5000 < F) : jOK s (fun m => c_X9_find F m 32 x1) (fun m => c_X10_find F m 101 x1) :=
  jok_K (fun m h => xq_find (by omega) h.1 (g := jgB s.1) jgB_iff) (fun m h => y_find (by omega) h.2.1 jgB_iff h.1) jkC_O jkR_O
theorem jok_draw (hF : 5000 < F) : jOK s (fun m => c_X9_draw F m 32 x1 x2) (fun m => c_X10_draw F m 101 x1 x2) :=
  jok_K (fun m h => xq_draw (by omega) h.1 (g := jgB s.1) jgB_iff) (fun m h => y_draw (by omega) h.2.1 jgB_iff h.1) jkC_O jkR_O
theorem jok_shuffle (hF : 5000 < F) : jOK s (fun m => c_X9_shuffle F m 32 x1 x2 x3) (fun m => c_X10_shuffle F m 101 x1 x2 x3) :=
  jok_K (fun m h => xq_shuffle (by omega) h.1 (g := jgB s.1) jgB_iff) (fun m h => y_shuffle (by omega) h.2.1 jgB_iff h.1) jkC_O jkR_O
theorem jok_odds (hF : 5000 < F) : jOK s (fun m => c_X9_odds F m 32 x1 x2 x3) (fun m => c_X10_odds F m 101 x1 x2 x3) :=
  jok_K (fun m h => xq_odds (by omega) h.1 (g := jgB s.1) jgB_iff) (fun m h => y_odds (by omega) h.2.1 jgB_iff h.1) jkC_O jkR_O
theorem jok_values (hF : 5000 < F) : jOK s (fun m => c_X9_values F m 32 x1 x2) (fun m => c_X10_values F m 101 x1 x2) :=
  jok_K (fun m h => xq_values (by omega) h.1 (g := jgB s.1) jgB_iff) (fun m h => y_values (by omega) h.2.1 jgB_iff h.1) jkC_O jkR_O
theorem jok_likeliest (hF : 5000 < F) : jOK s (fun m => c_X9_likeliest F m 32 x1) (fun m => c_X10_likeliest F m 101 x1) :=
  jok_K (fun m h => xq_likeliest (by omega) h.1 (g := jgB s.1) jgB_iff) (fun m h => y_likeliest (by omega) h.2.1 jgB_iff h.1) jkC_O jkR_O
theorem jok_dangling (hF : 5000 < F) : jOK s (fun m => c_X9_dangling F m 32 x1) (fun m => c_X10_dangling F m 101 x1) :=
  jok_K (fun m h => xq_dangling (by omega) h.1 (g := jgB s.1) jgB_iff) (fun m h => y_dangling (by omega) h.2.1 jgB_iff h.1) jkC_O jkR_O
theorem jok_without (hF : 5000 < F) : jOK s (fun m => c_X9_without F m 32 x1 x2) (fun m => c_X10_without F m 101 x1 x2) :=
  jok_K (fun m h => xq_without (by omega) h.1) (fun m h => y_without (by omega) h.2.1 (fun r k _ _ _ => jgB_iff) h.1) jkC_P jkR_P
theorem jok_key (hF : 5000 < F) : jOK s (fun m => c_X9_key F m 32 x1) (fun m => c_X10_key F m 101 x1) :=
  jok_K (fun m h => xq_key (by omega) h.1) (fun m h => y_key (by omega) h.2.1 jgB_iff (fun r k _ _ _ => jgB_iff) h.1) jkC_O jkR_P
theorem jok_lot (hF : 5000 < F) : jOK s (fun m => c_X9_lot F m 32 x1 x2 x3 x4 x5) (fun m => c_X10_lot F m 101 x1 x2 x3 x4 x5) :=
  jok_K (fun m h => xq_lot (by omega) h.1 (g := jgB s.1) jgB_iff) (fun m h => y_lot (by omega) h.2.1 jgB_iff h.1) jkC_O jkR_O
theorem jok_tells (hF : 5000 < F) (hDS : jDS s.1 s.2.1) : jOK s (fun m => c_X9_tells F m 32 x1 x2) (fun m => c_X10_tells F m 101 x1 x2) :=
  jok_K (fun m h => xq_tells (by omega) hDS rfl h.1 h.2.2.2.2.1) (fun m h => y_tells (by omega) h.2.1 h.1 h.2.2.2.2.1) jkC_O jkR_P2
theorem jldl_m {V : Nat → Int64} {x2 at' : Int32} {z : Nat} : ∀ (t k c : Nat) (D : jD), jDn (jldl V x2 z at' t k c D).2 = jDn D ∧ ∀ r, jDz D r ≤ jDz (jldl V x2 z at' t k c D).2 r := by
  intro t
  induction t with
  | zero => intro k c D; exact ⟨rfl, fun _ => Nat.le_refl _⟩
  | succ t ih =>
    intro k c D
    rw [jldl]
    split
    · obtain ⟨a, b⟩ := ih (k + 1) (if (jrowr D x2 (Int64.toInt32 (V (at'.toNatClampNeg + 4 * k))) (Int64.toInt32 (V (at'.toNatClampNeg + 4 * k + 1))) (Int64.toInt32 (V (at'.toNatClampNeg + 4 * k + 2))) (Int64.toInt32 (V (at'.toNatClampNeg + 4 * k + 3)))).1 < 0 then c else c + 1) (jrowr D x2 (Int64.toInt32 (V (at'.toNatClampNeg + 4 * k))) (Int64.toInt32 (V (at'.toNatClampNeg + 4 * k + 1))) (Int64.toInt32 (V (at'.toNatClampNeg + 4 * k + 2))) (Int64.toInt32 (V (at'.toNatClampNeg + 4 * k + 3)))).2
      exact ⟨a.trans jrowr_n, fun r => Nat.le_trans (jrowr_z r) (b r)⟩
    · exact ⟨rfl, fun _ => Nat.le_refl _⟩
theorem jok_load (hF : 5000 < F) : jOK s (fun m => c_X9_load F m 32 x1 x2 x3 x4 x5) (fun m => c_X10_load F m 101 x1 x2 x3 x4 x5) :=
  jok_D (fun m h => xq_load (by omega) h.1 h.2.2.2.2.1) (fun m h => y_load (by omega) h.2.1 h.1 h.2.2.2.2.1) (by
    unfold jldr
    repeat' split
    all_goals first
      | exact ⟨Nat.le_of_eq (jldl_m _ _ _ _).1.symm, (jldl_m _ _ _ _).2⟩
      | exact ⟨Nat.le_refl _, fun _ => Nat.le_refl _⟩) jkC_W (fun a i q => by unfold jkR; omega)
end OKS
