/-! numbers; Bits, Sheet, Shuffle -/
def c_X0_init (F : Nat) (m : jMe) (x0 : Nat) : Option (jMe) :=
  jgd (¬ x0 = 0) <| jgd (jK m x0 = 32) <| some (jsI m x0 0 (0 : Int32))
theorem ec_X0_init {X : jX} {l : Launch} {d : Nat} (O : jOk X) (hd : 2 ≤ d) {F : Nat} {m : jMe} {x0 : Nat} {r : jMe} (H : c_X0_init F m x0 = some r) : jH X l d jm_X0_init [.inr (.inr x0)] m none r := by
  refine jH.of jpl_RX0 rfl (Nat.le_of_ble_eq_true rfl) ?_
  show jS X l d jm_X0_init m _ _ (0, [(0, .inr (.inr x0))], [], m)
  unfold c_X0_init at H
  obtain ⟨w1, H⟩ := jgd_ok H
  refine jS.adv O [(.aload_n 0, 0, 0, 0, 0, 0, 0)] (pc' := 1) (ls' := [(0, .inr (.inr x0))]) (st' := [.inr (.inr x0)]) (m2 := m) (by decide +kernel) rfl trivial ?_
  refine jS.step (c' := (4, [(0, .inr (.inr x0))], [], m)) (jSt.obj (idx := 1) (by omega) w1 (jW_of 357 (by decide +kernel) rfl) (jW_of 267 (by decide +kernel) rfl) (jW_of 268 (by decide +kernel) rfl) (Nat.le_of_ble_eq_true rfl) (by decide +kernel)) ?_
  obtain ⟨w2, H⟩ := jgd_ok H
  refine jS.adv O [(.aload_n 0, 0, 0, 0, 0, 0, 0), (.iconst 0, 0, 0, 0, 0, (0 : Int32), 0), (.putfield 7, 0, 0, 0, 358, 0, 0)] (pc' := 9) (ls' := [(0, .inr (.inr x0))]) (st' := []) (m2 := (jsI m x0 0 (0 : Int32))) (by decide +kernel) rfl ⟨w2, trivial⟩ ?_
  replace H := Option.some.inj H
  subst H
  exact jS.vret rfl (by decide +kernel)
def c_X0_begin (F : Nat) (m : jMe) (x0 : Nat) (x1 : Int32) : Option (jMe) :=
  jgd (jK m x0 = 32) <| some (jsI m x0 0 x1)
theorem ec_X0_begin {X : jX} {l : Launch} {d : Nat} (O : jOk X) (hd : 2 ≤ d) {F : Nat} {m : jMe} {x0 : Nat} {x1 : Int32} {r : jMe} (H : c_X0_begin F m x0 x1 = some r) : jH X l d jm_X0_begin [.inr (.inr x0), .inl x1] m none r := by
  refine jH.of jpl_RX0 rfl (Nat.le_of_ble_eq_true rfl) ?_
  show jS X l d jm_X0_begin m _ _ (0, [(0, .inr (.inr x0)), (1, .inl x1)], [], m)
  unfold c_X0_begin at H
  obtain ⟨w1, H⟩ := jgd_ok H
  refine jS.adv O [(.aload_n 0, 0, 0, 0, 0, 0, 0), (.iload_n 1, 0, 0, 0, 0, 0, 0), (.putfield 7, 0, 0, 0, 358, 0, 0)] (pc' := 5) (ls' := [(0, .inr (.inr x0)), (1, .inl x1)]) (st' := []) (m2 := (jsI m x0 0 x1)) (by decide +kernel) rfl ⟨w1, trivial⟩ ?_
  replace H := Option.some.inj H
  subst H
  exact jS.vret rfl (by decide +kernel)
def c_X0_bit (F : Nat) (m : jMe) (x0 : Nat) : Option (Int32 × jMe) :=
  jgd (jK m x0 = 32) <| some (((jushr (jI (jsI m x0 0 (((jI m x0 0) * (1103515245 : Int32)) + (12345 : Int32))) x0 0) (16 : Int32)) &&& (1 : Int32)), (jsI m x0 0 (((jI m x0 0) * (1103515245 : Int32)) + (12345 : Int32))))
theorem ec_X0_bit {X : jX} {l : Launch} {d : Nat} (O : jOk X) (hd : 2 ≤ d) {F : Nat} {m : jMe} {x0 : Nat} {r : Int32 × jMe} (H : c_X0_bit F m x0 = some r) : jH X l d jm_X0_bit [.inr (.inr x0)] m (some (.inl r.1)) r.2 := by
  refine jH.of jpl_RX0 rfl (Nat.le_of_ble_eq_true rfl) ?_
  show jS X l d jm_X0_bit m _ _ (0, [(0, .inr (.inr x0))], [], m)
  unfold c_X0_bit at H
  obtain ⟨w1, H⟩ := jgd_ok H
  refine jS.adv O [(.aload_n 0, 0, 0, 0, 0, 0, 0), (.aload_n 0, 0, 0, 0, 0, 0, 0), (.getfield 7, 0, 0, 0, 358, 0, 0), (.ldc 13, 0, 1177, 0, 0, (1103515245 : Int32), 0), (.imul, 0, 0, 0, 0, 0, 0), (.sipush 12345, 0, 0, 0, 0, (12345 : Int32), 0), (.iadd, 0, 0, 0, 0, 0, 0), (.putfield 7, 0, 0, 0, 358, 0, 0), (.aload_n 0, 0, 0, 0, 0, 0, 0), (.getfield 7, 0, 0, 0, 358, 0, 0), (.bipush 16, 0, 0, 0, 0, (16 : Int32), 0), (.iushr, 0, 0, 0, 0, 0, 0), (.iconst 1, 0, 0, 0, 0, (1 : Int32), 0), (.iand, 0, 0, 0, 0, 0, 0)] (pc' := 24) (ls' := [(0, .inr (.inr x0))]) (st' := [.inl ((jushr (jI (jsI m x0 0 (((jI m x0 0) * (1103515245 : Int32)) + (12345 : Int32))) x0 0) (16 : Int32)) &&& (1 : Int32))]) (m2 := (jsI m x0 0 (((jI m x0 0) * (1103515245 : Int32)) + (12345 : Int32)))) (by decide +kernel) rfl ⟨w1, w1, w1, trivial⟩ ?_
  replace H := Option.some.inj H
  subst H
  exact jS.iret rfl (by decide +kernel)
def c_X0_below_l2_b (F : Nat) (B : jMe → Nat → Int64 → Int32 → Option (jMe × Nat × Int64 × Int32)) (m : jMe) (y0 : Nat) (y1 : Int64) (y3 : Int32) : Option (jMe × Nat × Int64 × Int32) :=
  (if (63 : Int32) ≤ y3 then some (m, y0, y1, y3) else (if (lg_cmp (jlushr (y1 - (1 : Int64)) y3) (0 : Int64)) = 0 then some (m, y0, y1, y3) else B m y0 y1 (y3 + (1 : Int32))))
theorem ec_X0_below_l2_b {X : jX} {l : Launch} {d : Nat} (O : jOk X) (hd : 3 ≤ d) {F : Nat} {m0 m' : jMe} {v : Option jAV} {B : jMe → Nat → Int64 → Int32 → Option (jMe × Nat × Int64 × Int32)} (hB : ∀ (m : jMe) (y0 : Nat) (y1 : Int64) (y3 : Int32) (r : jMe × Nat × Int64 × Int32), B m y0 y1 y3 = some r → (jS X l d jm_X0_below m0 v m' (24, [(0, .inr (.inr r.2.1)), (1, .inr (.inl r.2.2.1)), (3, .inl r.2.2.2)], [], r.1)) → jS X l d jm_X0_below m0 v m' (2, [(0, .inr (.inr y0)), (1, .inr (.inl y1)), (3, .inl y3)], [], m)) {m : jMe} {y0 : Nat} {y1 : Int64} {y3 : Int32} {r : jMe × Nat × Int64 × Int32} (H : c_X0_below_l2_b F B m y0 y1 y3 = some r) (h2 : jS X l d jm_X0_below m0 v m' (24, [(0, .inr (.inr r.2.1)), (1, .inr (.inl r.2.2.1)), (3, .inl r.2.2.2)], [], r.1)) : jS X l d jm_X0_below m0 v m' (2, [(0, .inr (.inr y0)), (1, .inr (.inl y1)), (3, .inl y3)], [], m) := by
  unfold c_X0_below_l2_b at H
  refine jS.adv O [(.iload_n 3, 0, 0, 0, 0, 0, 0), (.bipush 63, 0, 0, 0, 0, (63 : Int32), 0)] (pc' := 5) (ls' := [(0, .inr (.inr y0)), (1, .inr (.inl y1)), (3, .inl y3)]) (st' := [.inl (63 : Int32), .inl y3]) (m2 := m) (by decide +kernel) rfl trivial ?_
  refine jS.br (i := .if_icmp .ge 19) (P := (63 : Int32) ≤ y3) (rest := []) rfl (by decide +kernel) (tgt := 24) (by decide) (fun c1 => ?_) (fun c1 => ?_)
  · replace H := jif_t c1 H
    replace H := Option.some.inj H
    subst H
    refine jS.loc' [0, 1, 2] (ls' := [(0, .inr (.inr y0)), (1, .inr (.inl y1)), (3, .inl y3)]) rfl ?_
    exact h2
  · replace H := jif_f c1 H
    refine jS.adv O [(.lload_n 1, 0, 0, 0, 0, 0, 0), (.lconst 1, 0, 0, 0, 0, 0, (1 : Int64)), (.lsub, 0, 0, 0, 0, 0, 0), (.iload_n 3, 0, 0, 0, 0, 0, 0), (.lushr, 0, 0, 0, 0, 0, 0), (.lconst 0, 0, 0, 0, 0, 0, (0 : Int64)), (.lcmp, 0, 0, 0, 0, 0, 0)] (pc' := 15) (ls' := [(0, .inr (.inr y0)), (1, .inr (.inl y1)), (3, .inl y3)]) (st' := [.inl (lg_cmp (jlushr (y1 - (1 : Int64)) y3) (0 : Int64))]) (m2 := m) (by decide +kernel) rfl trivial ?_
    refine jS.br (i := .ifCond .eq 9) (P := (lg_cmp (jlushr (y1 - (1 : Int64)) y3) (0 : Int64)) = 0) (rest := []) rfl (by decide +kernel) (tgt := 24) (by decide) (fun c2 => ?_) (fun c2 => ?_)
    · replace H := jif_t c2 H
      replace H := Option.some.inj H
      subst H
      refine jS.loc' [0, 1, 2] (ls' := [(0, .inr (.inr y0)), (1, .inr (.inl y1)), (3, .inl y3)]) rfl ?_
      exact h2
    · replace H := jif_f c2 H
      refine jS.adv O [(.iinc 3 1, 0, 0, 0, 0, (1 : Int32), 0), (.goto (-19), 0, 2, 0, 0, 0, 0)] (pc' := 2) (ls' := [(3, .inl (y3 + (1 : Int32))), (0, .inr (.inr y0)), (1, .inr (.inl y1))]) (st' := []) (m2 := m) (by decide +kernel) rfl trivial ?_
      refine jS.loc' [1, 2, 0] (ls' := [(0, .inr (.inr y0)), (1, .inr (.inl y1)), (3, .inl (y3 + (1 : Int32)))]) rfl ?_
      exact hB _ _ _ _ _ H h2
def c_X0_below_l2 (F : Nat) : Nat → jMe → Nat → Int64 → Int32 → Option (jMe × Nat × Int64 × Int32)
  | 0, _, _, _, _ => none
  | n + 1, m, y0, y1, y3 => c_X0_below_l2_b F (fun m y0 y1 y3 => c_X0_below_l2 F n m y0 y1 y3) m y0 y1 y3
theorem ec_X0_below_l2 {X : jX} {l : Launch} {d : Nat} (O : jOk X) (hd : 3 ≤ d) {F : Nat} {m0 m' : jMe} {v : Option jAV} : ∀ (n : Nat) {m : jMe} {y0 : Nat} {y1 : Int64} {y3 : Int32} {r : jMe × Nat × Int64 × Int32} (H : c_X0_below_l2 F n m y0 y1 y3 = some r) (h2 : jS X l d jm_X0_below m0 v m' (24, [(0, .inr (.inr r.2.1)), (1, .inr (.inl r.2.2.1)), (3, .inl r.2.2.2)], [], r.1)), jS X l d jm_X0_below m0 v m' (2, [(0, .inr (.inr y0)), (1, .inr (.inl y1)), (3, .inl y3)], [], m) := by
  intro n
  induction n with
  | zero =>
    intro m y0 y1 y3 r H h2
    cases (show none = some r from H)
  | succ n ih =>
    intro m y0 y1 y3 r H h2
    exact ec_X0_below_l2_b O hd (B := (fun m y0 y1 y3 => c_X0_below_l2 F n m y0 y1 y3)) (fun m y0 y1 y3 r H h2 => ih H h2) H h2
def c_X0_below_l43_b (F : Nat) (B : jMe → Nat → Int64 → Int32 → Int64 → Int32 → Int32 → Option (jMe × Nat × Int64 × Int32 × Int64 × Int32)) (m : jMe) (y0 : Nat) (y1 : Int64) (y3 : Int32) (y4 : Int64) (y6 : Int32) (y7 : Int32) : Option (jMe × Nat × Int64 × Int32 × Int64 × Int32) :=
  (if y3 ≤ y7 then some (m, y0, y1, y3, y4, y6) else jgd (jK m y0 = 32) <| jb (c_X0_bit F m y0) fun t10 => B t10.2 y0 y1 y3 ((jlshl y4 (1 : Int32)) ||| (Int32.toInt64 t10.1)) y6 (y7 + (1 : Int32)))
theorem ec_X0_below_l43_b {X : jX} {l : Launch} {d : Nat} (O : jOk X) (hd : 3 ≤ d) {F : Nat} {m0 m' : jMe} {v : Option jAV} {B : jMe → Nat → Int64 → Int32 → Int64 → Int32 → Int32 → Option (jMe × Nat × Int64 × Int32 × Int64 × Int32)} (hB : ∀ (m : jMe) (y0 : Nat) (y1 : Int64) (y3 : Int32) (y4 : Int64) (y6 : Int32) (y7 : Int32) (r : jMe × Nat × Int64 × Int32 × Int64 × Int32), B m y0 y1 y3 y4 y6 y7 = some r → (jS X l d jm_X0_below m0 v m' (67, [(0, .inr (.inr r.2.1)), (1, .inr (.inl r.2.2.1)), (3, .inl r.2.2.2.1), (4, .inr (.inl r.2.2.2.2.1)), (6, .inl r.2.2.2.2.2)], [], r.1)) → jS X l d jm_X0_below m0 v m' (43, [(0, .inr (.inr y0)), (1, .inr (.inl y1)), (3, .inl y3), (4, .inr (.inl y4)), (6, .inl y6), (7, .inl y7)], [], m)) {m : jMe} {y0 : Nat} {y1 : Int64} {y3 : Int32} {y4 : Int64} {y6 : Int32} {y7 : Int32} {r : jMe × Nat × Int64 × Int32 × Int64 × Int32} (H : c_X0_below_l43_b F B m y0 y1 y3 y4 y6 y7 = some r) (h2 : jS X l d jm_X0_below m0 v m' (67, [(0, .inr (.inr r.2.1)), (1, .inr (.inl r.2.2.1)), (3, .inl r.2.2.2.1), (4, .inr (.inl r.2.2.2.2.1)), (6, .inl r.2.2.2.2.2)], [], r.1)) : jS X l d jm_X0_below m0 v m' (43, [(0, .inr (.inr y0)), (1, .inr (.inl y1)), (3, .inl y3), (4, .inr (.inl y4)), (6, .inl y6), (7, .inl y7)], [], m) := by
  unfold c_X0_below_l43_b at H
  refine jS.adv O [(.iload 7, 0, 0, 0, 0, 0, 0), (.iload_n 3, 0, 0, 0, 0, 0, 0)] (pc' := 46) (ls' := [(0, .inr (.inr y0)), (1, .inr (.inl y1)), (3, .inl y3), (4, .inr (.inl y4)), (6, .inl y6), (7, .inl y7)]) (st' := [.inl y3, .inl y7]) (m2 := m) (by decide +kernel) rfl trivial ?_
  refine jS.br (i := .if_icmp .ge 21) (P := y3 ≤ y7) (rest := []) rfl (by decide +kernel) (tgt := 67) (by decide) (fun c7 => ?_) (fun c7 => ?_)
  · replace H := jif_t c7 H
    replace H := Option.some.inj H
    subst H
    refine jS.loc' [0, 1, 2, 3, 4] (ls' := [(0, .inr (.inr y0)), (1, .inr (.inl y1)), (3, .inl y3), (4, .inr (.inl y4)), (6, .inl y6)]) rfl ?_
    exact h2
  · replace H := jif_f c7 H
    obtain ⟨w8, H⟩ := jgd_ok H
    refine jS.adv O [(.lload 4, 0, 0, 0, 0, 0, 0), (.iconst 1, 0, 0, 0, 0, (1 : Int32), 0), (.lshl, 0, 0, 0, 0, 0, 0), (.aload_n 0, 0, 0, 0, 0, 0, 0)] (pc' := 54) (ls' := [(0, .inr (.inr y0)), (1, .inr (.inl y1)), (3, .inl y3), (4, .inr (.inl y4)), (6, .inl y6), (7, .inl y7)]) (st' := [.inr (.inr y0), .inr (.inl (jlshl y4 (1 : Int32)))]) (m2 := m) (by decide +kernel) rfl trivial ?_
    obtain ⟨t10, w9, H⟩ := jb_ok H
    refine jS.step (c' := (57, [(0, .inr (.inr y0)), (1, .inr (.inl y1)), (3, .inl y3), (4, .inr (.inl y4)), (6, .inl y6), (7, .inl y7)], [.inl t10.1, .inr (.inl (jlshl y4 (1 : Int32)))], t10.2)) (jSt.callV (c := 0) (As := []) (rest := [.inr (.inl (jlshl y4 (1 : Int32)))]) O (ec_X0_bit (d := 2) O (Nat.le_refl _) w9) w8 (by decide) rfl (by omega) jmw_X0_bit jmv_X0_bit jmn_X0_bit (idx := 14) (jW_of 1173 (by decide +kernel) rfl) (Nat.le_of_ble_eq_true rfl) (by decide +kernel)) ?_
    refine jS.adv O [(.i2l, 0, 0, 0, 0, 0, 0), (.lor, 0, 0, 0, 0, 0, 0), (.lstore 4, 0, 0, 0, 0, 0, 0), (.iinc 7 1, 0, 0, 0, 0, (1 : Int32), 0), (.goto (-21), 0, 43, 0, 0, 0, 0)] (pc' := 43) (ls' := [(7, .inl (y7 + (1 : Int32))), (4, .inr (.inl ((jlshl y4 (1 : Int32)) ||| (Int32.toInt64 t10.1)))), (0, .inr (.inr y0)), (1, .inr (.inl y1)), (3, .inl y3), (6, .inl y6)]) (st' := []) (m2 := t10.2) (by decide +kernel) rfl trivial ?_
    refine jS.loc' [2, 3, 4, 1, 5, 0] (ls' := [(0, .inr (.inr y0)), (1, .inr (.inl y1)), (3, .inl y3), (4, .inr (.inl ((jlshl y4 (1 : Int32)) ||| (Int32.toInt64 t10.1)))), (6, .inl y6), (7, .inl (y7 + (1 : Int32)))]) rfl ?_
    exact hB _ _ _ _ _ _ _ _ H h2
def c_X0_below_l43 (F : Nat) : Nat → jMe → Nat → Int64 → Int32 → Int64 → Int32 → Int32 → Option (jMe × Nat × Int64 × Int32 × Int64 × Int32)
  | 0, _, _, _, _, _, _, _ => none
  | n + 1, m, y0, y1, y3, y4, y6, y7 => c_X0_below_l43_b F (fun m y0 y1 y3 y4 y6 y7 => c_X0_below_l43 F n m y0 y1 y3 y4 y6 y7) m y0 y1 y3 y4 y6 y7
theorem ec_X0_below_l43 {X : jX} {l : Launch} {d : Nat} (O : jOk X) (hd : 3 ≤ d) {F : Nat} {m0 m' : jMe} {v : Option jAV} : ∀ (n : Nat) {m : jMe} {y0 : Nat} {y1 : Int64} {y3 : Int32} {y4 : Int64} {y6 : Int32} {y7 : Int32} {r : jMe × Nat × Int64 × Int32 × Int64 × Int32} (H : c_X0_below_l43 F n m y0 y1 y3 y4 y6 y7 = some r) (h2 : jS X l d jm_X0_below m0 v m' (67, [(0, .inr (.inr r.2.1)), (1, .inr (.inl r.2.2.1)), (3, .inl r.2.2.2.1), (4, .inr (.inl r.2.2.2.2.1)), (6, .inl r.2.2.2.2.2)], [], r.1)), jS X l d jm_X0_below m0 v m' (43, [(0, .inr (.inr y0)), (1, .inr (.inl y1)), (3, .inl y3), (4, .inr (.inl y4)), (6, .inl y6), (7, .inl y7)], [], m) := by
  intro n
  induction n with
  | zero =>
    intro m y0 y1 y3 y4 y6 y7 r H h2
    cases (show none = some r from H)
  | succ n ih =>
    intro m y0 y1 y3 y4 y6 y7 r H h2
    exact ec_X0_below_l43_b O hd (B := (fun m y0 y1 y3 y4 y6 y7 => c_X0_below_l43 F n m y0 y1 y3 y4 y6 y7)) (fun m y0 y1 y3 y4 y6 y7 r H h2 => ih H h2) H h2
def c_X0_below_l30_b (F : Nat) (B : jMe → Nat → Int64 → Int32 → Int64 → Int32 → Option ((Int64 × jMe) ⊕ (jMe × Int64 × Int64))) (m : jMe) (y0 : Nat) (y1 : Int64) (y3 : Int32) (y4 : Int64) (y6 : Int32) : Option ((Int64 × jMe) ⊕ (jMe × Int64 × Int64)) :=
  (if (30 : Int32) ≤ y6 then some (.inr (m, y1, y4)) else jb (c_X0_below_l43 F F m y0 y1 y3 (0 : Int64) y6 (0 : Int32)) fun e12 => (if 0 ≤ (lg_cmp e12.2.2.2.2.1 e12.2.2.1) then B e12.1 e12.2.1 e12.2.2.1 e12.2.2.2.1 e12.2.2.2.2.1 (e12.2.2.2.2.2 + (1 : Int32)) else some (.inl (e12.2.2.2.2.1, e12.1))))
theorem ec_X0_below_l30_b {X : jX} {l : Launch} {d : Nat} (O : jOk X) (hd : 3 ≤ d) {F : Nat} {m0 m' : jMe} {v : Option jAV} {B : jMe → Nat → Int64 → Int32 → Int64 → Int32 → Option ((Int64 × jMe) ⊕ (jMe × Int64 × Int64))} (hB : ∀ (m : jMe) (y0 : Nat) (y1 : Int64) (y3 : Int32) (y4 : Int64) (y6 : Int32) (r : (Int64 × jMe) ⊕ (jMe × Int64 × Int64)), B m y0 y1 y3 y4 y6 = some r → (∀ q, r = .inl q → v = (some (.inr (.inl q.1))) ∧ m' = q.2) → (∀ e, r = .inr e → jS X l d jm_X0_below m0 v m' (83, [(1, .inr (.inl e.2.1)), (4, .inr (.inl e.2.2))], [], e.1)) → jS X l d jm_X0_below m0 v m' (30, [(0, .inr (.inr y0)), (1, .inr (.inl y1)), (3, .inl y3), (4, .inr (.inl y4)), (6, .inl y6)], [], m)) {m : jMe} {y0 : Nat} {y1 : Int64} {y3 : Int32} {y4 : Int64} {y6 : Int32} {r : (Int64 × jMe) ⊕ (jMe × Int64 × Int64)} (H : c_X0_below_l30_b F B m y0 y1 y3 y4 y6 = some r) (h1 : ∀ q, r = .inl q → v = (some (.inr (.inl q.1))) ∧ m' = q.2) (h2 : ∀ e, r = .inr e → jS X l d jm_X0_below m0 v m' (83, [(1, .inr (.inl e.2.1)), (4, .inr (.inl e.2.2))], [], e.1)) : jS X l d jm_X0_below m0 v m' (30, [(0, .inr (.inr y0)), (1, .inr (.inl y1)), (3, .inl y3), (4, .inr (.inl y4)), (6, .inl y6)], [], m) := by
  unfold c_X0_below_l30_b at H
  refine jS.adv O [(.iload 6, 0, 0, 0, 0, 0, 0), (.bipush 30, 0, 0, 0, 0, (30 : Int32), 0)] (pc' := 34) (ls' := [(0, .inr (.inr y0)), (1, .inr (.inl y1)), (3, .inl y3), (4, .inr (.inl y4)), (6, .inl y6)]) (st' := [.inl (30 : Int32), .inl y6]) (m2 := m) (by decide +kernel) rfl trivial ?_
  refine jS.br (i := .if_icmp .ge 49) (P := (30 : Int32) ≤ y6) (rest := []) rfl (by decide +kernel) (tgt := 83) (by decide) (fun c6 => ?_) (fun c6 => ?_)
  · replace H := jif_t c6 H
    replace H := Option.some.inj H
    subst H
    refine jS.loc' [1, 3] (ls' := [(1, .inr (.inl y1)), (4, .inr (.inl y4))]) rfl ?_
    exact h2 _ rfl
  · replace H := jif_f c6 H
    refine jS.adv O [(.lconst 0, 0, 0, 0, 0, 0, (0 : Int64)), (.lstore 4, 0, 0, 0, 0, 0, 0), (.iconst 0, 0, 0, 0, 0, (0 : Int32), 0), (.istore 7, 0, 0, 0, 0, 0, 0)] (pc' := 43) (ls' := [(7, .inl (0 : Int32)), (4, .inr (.inl (0 : Int64))), (0, .inr (.inr y0)), (1, .inr (.inl y1)), (3, .inl y3), (6, .inl y6)]) (st' := []) (m2 := m) (by decide +kernel) rfl trivial ?_
    refine jS.loc' [2, 3, 4, 1, 5, 0] (ls' := [(0, .inr (.inr y0)), (1, .inr (.inl y1)), (3, .inl y3), (4, .inr (.inl (0 : Int64))), (6, .inl y6), (7, .inl (0 : Int32))]) rfl ?_
    obtain ⟨e12, w13, H⟩ := jb_ok H
    refine ec_X0_below_l43 O hd F w13 ?_
    refine jS.adv O [(.lload 4, 0, 0, 0, 0, 0, 0), (.lload_n 1, 0, 0, 0, 0, 0, 0), (.lcmp, 0, 0, 0, 0, 0, 0)] (pc' := 71) (ls' := [(0, .inr (.inr e12.2.1)), (1, .inr (.inl e12.2.2.1)), (3, .inl e12.2.2.2.1), (4, .inr (.inl e12.2.2.2.2.1)), (6, .inl e12.2.2.2.2.2)]) (st' := [.inl (lg_cmp e12.2.2.2.2.1 e12.2.2.1)]) (m2 := e12.1) (by decide +kernel) rfl trivial ?_
    refine jS.br (i := .ifCond .ge 6) (P := 0 ≤ (lg_cmp e12.2.2.2.2.1 e12.2.2.1)) (rest := []) rfl (by decide +kernel) (tgt := 77) (by decide) (fun c14 => ?_) (fun c14 => ?_)
    · replace H := jif_t c14 H
      refine jS.adv O [(.iinc 6 1, 0, 0, 0, 0, (1 : Int32), 0), (.goto (-50), 0, 30, 0, 0, 0, 0)] (pc' := 30) (ls' := [(6, .inl (e12.2.2.2.2.2 + (1 : Int32))), (0, .inr (.inr e12.2.1)), (1, .inr (.inl e12.2.2.1)), (3, .inl e12.2.2.2.1), (4, .inr (.inl e12.2.2.2.2.1))]) (st' := []) (m2 := e12.1) (by decide +kernel) rfl trivial ?_
      refine jS.loc' [1, 2, 3, 4, 0] (ls' := [(0, .inr (.inr e12.2.1)), (1, .inr (.inl e12.2.2.1)), (3, .inl e12.2.2.2.1), (4, .inr (.inl e12.2.2.2.2.1)), (6, .inl (e12.2.2.2.2.2 + (1 : Int32)))]) rfl ?_
      exact hB _ _ _ _ _ _ _ H h1 h2
    · replace H := jif_f c14 H
      refine jS.adv O [(.lload 4, 0, 0, 0, 0, 0, 0)] (pc' := 76) (ls' := [(0, .inr (.inr e12.2.1)), (1, .inr (.inl e12.2.2.1)), (3, .inl e12.2.2.2.1), (4, .inr (.inl e12.2.2.2.2.1)), (6, .inl e12.2.2.2.2.2)]) (st' := [.inr (.inl e12.2.2.2.2.1)]) (m2 := e12.1) (by decide +kernel) rfl trivial ?_
      replace H := Option.some.inj H
      subst H
      obtain ⟨q1, q2⟩ := h1 _ rfl
      subst q1; subst q2
      exact jS.lret rfl (by decide +kernel)
def c_X0_below_l30 (F : Nat) : Nat → jMe → Nat → Int64 → Int32 → Int64 → Int32 → Option ((Int64 × jMe) ⊕ (jMe × Int64 × Int64))
  | 0, _, _, _, _, _, _ => none
  | n + 1, m, y0, y1, y3, y4, y6 => c_X0_below_l30_b F (fun m y0 y1 y3 y4 y6 => c_X0_below_l30 F n m y0 y1 y3 y4 y6) m y0 y1 y3 y4 y6
theorem ec_X0_below_l30 {X : jX} {l : Launch} {d : Nat} (O : jOk X) (hd : 3 ≤ d) {F : Nat} {m0 m' : jMe} {v : Option jAV} : ∀ (n : Nat) {m : jMe} {y0 : Nat} {y1 : Int64} {y3 : Int32} {y4 : Int64} {y6 : Int32} {r : (Int64 × jMe) ⊕ (jMe × Int64 × Int64)} (H : c_X0_below_l30 F n m y0 y1 y3 y4 y6 = some r) (h1 : ∀ q, r = .inl q → v = (some (.inr (.inl q.1))) ∧ m' = q.2) (h2 : ∀ e, r = .inr e → jS X l d jm_X0_below m0 v m' (83, [(1, .inr (.inl e.2.1)), (4, .inr (.inl e.2.2))], [], e.1)), jS X l d jm_X0_below m0 v m' (30, [(0, .inr (.inr y0)), (1, .inr (.inl y1)), (3, .inl y3), (4, .inr (.inl y4)), (6, .inl y6)], [], m) := by
  intro n
  induction n with
  | zero =>
    intro m y0 y1 y3 y4 y6 r H h1 h2
    cases (show none = some r from H)
  | succ n ih =>
    intro m y0 y1 y3 y4 y6 r H h1 h2
    exact ec_X0_below_l30_b O hd (B := (fun m y0 y1 y3 y4 y6 => c_X0_below_l30 F n m y0 y1 y3 y4 y6)) (fun m y0 y1 y3 y4 y6 r H h1 h2 => ih H h1 h2) H h1 h2
def c_X0_below (F : Nat) (m : jMe) (x0 : Nat) (x1 : Int64) : Option (Int64 × jMe) :=
  jb (c_X0_below_l2 F F m x0 x1 (0 : Int32)) fun e4 => jb2 (c_X0_below_l30 F F e4.1 e4.2.1 e4.2.2.1 e4.2.2.2 (0 : Int64) (0 : Int32)) (fun q => some q) fun e16 => (if (lg_cmp e16.2.1 (0 : Int64)) ≤ 0 then some ((0 : Int64), e16.1) else jgd (¬ e16.2.1 = 0) <| some ((jlrem e16.2.2 e16.2.1), e16.1))
theorem ec_X0_below {X : jX} {l : Launch} {d : Nat} (O : jOk X) (hd : 3 ≤ d) {F : Nat} {m : jMe} {x0 : Nat} {x1 : Int64} {r : Int64 × jMe} (H : c_X0_below F m x0 x1 = some r) : jH X l d jm_X0_below [.inr (.inr x0), .inr (.inl x1)] m (some (.inr (.inl r.1))) r.2 := by
  refine jH.of jpl_RX0 rfl (Nat.le_of_ble_eq_true rfl) ?_
  show jS X l d jm_X0_below m _ _ (0, [(0, .inr (.inr x0)), (1, .inr (.inl x1))], [], m)
  unfold c_X0_below at H
  refine jS.adv O [(.iconst 0, 0, 0, 0, 0, (0 : Int32), 0), (.istore_n 3, 0, 0, 0, 0, 0, 0)] (pc' := 2) (ls' := [(3, .inl (0 : Int32)), (0, .inr (.inr x0)), (1, .inr (.inl x1))]) (st' := []) (m2 := m) (by decide +kernel) rfl trivial ?_
  refine jS.loc' [1, 2, 0] (ls' := [(0, .inr (.inr x0)), (1, .inr (.inl x1)), (3, .inl (0 : Int32))]) rfl ?_
  obtain ⟨e4, w5, H⟩ := jb_ok H
  refine ec_X0_below_l2 O hd F w5 ?_
  refine jS.adv O [(.lconst 0, 0, 0, 0, 0, 0, (0 : Int64)), (.lstore 4, 0, 0, 0, 0, 0, 0), (.iconst 0, 0, 0, 0, 0, (0 : Int32), 0), (.istore 6, 0, 0, 0, 0, 0, 0)] (pc' := 30) (ls' := [(6, .inl (0 : Int32)), (4, .inr (.inl (0 : Int64))), (0, .inr (.inr e4.2.1)), (1, .inr (.inl e4.2.2.1)), (3, .inl e4.2.2.2)]) (st' := []) (m2 := e4.1) (by decide +kernel) rfl trivial ?_
  refine jS.loc' [2, 3, 4, 1, 0] (ls' := [(0, .inr (.inr e4.2.1)), (1, .inr (.inl e4.2.2.1)), (3, .inl e4.2.2.2), (4, .inr (.inl (0 : Int64))), (6, .inl (0 : Int32))]) rfl ?_
  rcases jb2_ok H with ⟨q15, w17, H⟩ | ⟨e16, w17, H⟩
  · refine ec_X0_below_l30 O hd F w17 (fun q2 hq2 => ?_) (fun e2 he2 => by cases he2)
    cases hq2
    cases H
    exact ⟨rfl, rfl⟩
  · refine ec_X0_below_l30 O hd F w17 (fun q2 hq2 => by cases hq2) (fun e2 he2 => ?_)
    cases he2
    refine jS.adv O [(.lload_n 1, 0, 0, 0, 0, 0, 0), (.lconst 0, 0, 0, 0, 0, 0, (0 : Int64)), (.lcmp, 0, 0, 0, 0, 0, 0)] (pc' := 86) (ls' := [(1, .inr (.inl e16.2.1)), (4, .inr (.inl e16.2.2))]) (st' := [.inl (lg_cmp e16.2.1 (0 : Int64))]) (m2 := e16.1) (by decide +kernel) rfl trivial ?_
    refine jS.br (i := .ifCond .le 10) (P := (lg_cmp e16.2.1 (0 : Int64)) ≤ 0) (rest := []) rfl (by decide +kernel) (tgt := 96) (by decide) (fun c18 => ?_) (fun c18 => ?_)
    · replace H := jif_t c18 H
      refine jS.adv O [(.lconst 0, 0, 0, 0, 0, 0, (0 : Int64))] (pc' := 97) (ls' := [(1, .inr (.inl e16.2.1)), (4, .inr (.inl e16.2.2))]) (st' := [.inr (.inl (0 : Int64))]) (m2 := e16.1) (by decide +kernel) rfl trivial ?_
      replace H := Option.some.inj H
      subst H
      exact jS.lret rfl (by decide +kernel)
    · replace H := jif_f c18 H
      obtain ⟨w19, H⟩ := jgd_ok H
      refine jS.adv O [(.lload 4, 0, 0, 0, 0, 0, 0), (.lload_n 1, 0, 0, 0, 0, 0, 0), (.lrem, 0, 0, 0, 0, 0, 0), (.goto 4, 0, 97, 0, 0, 0, 0)] (pc' := 97) (ls' := [(1, .inr (.inl e16.2.1)), (4, .inr (.inl e16.2.2))]) (st' := [.inr (.inl (jlrem e16.2.2 e16.2.1))]) (m2 := e16.1) (by decide +kernel) rfl ⟨w19, trivial⟩ ?_
      replace H := Option.some.inj H
      subst H
      exact jS.lret rfl (by decide +kernel)
def c_X9_isIn (F : Nat) (m : jMe) (x0 : Int32) (x1 : Int32) : Option (Int32) :=
  (if x1 < 0 then some (0 : Int32) else (if (32 : Int32) ≤ x1 then some (0 : Int32) else (if ((jushr x0 x1) &&& (1 : Int32)) = (1 : Int32) then some (1 : Int32) else some (0 : Int32))))
theorem ec_X9_isIn {X : jX} {l : Launch} {d : Nat} (O : jOk X) (hd : 2 ≤ d) {F : Nat} {m : jMe} {x0 : Int32} {x1 : Int32} {r : Int32} (H : c_X9_isIn F m x0 x1 = some r) : jH X l d jm_X9_isIn [.inl x0, .inl x1] m (some (.inl r)) m := by
  refine jH.of jpl_RX9 rfl (Nat.le_of_ble_eq_true rfl) ?_
  show jS X l d jm_X9_isIn m _ _ (0, [(0, .inl x0), (1, .inl x1)], [], m)
  unfold c_X9_isIn at H
  refine jS.adv O [(.iload_n 1, 0, 0, 0, 0, 0, 0)] (pc' := 1) (ls' := [(0, .inl x0), (1, .inl x1)]) (st' := [.inl x1]) (m2 := m) (by decide +kernel) rfl trivial ?_
  refine jS.br (i := .ifCond .lt 22) (P := x1 < 0) (rest := []) rfl (by decide +kernel) (tgt := 23) (by decide) (fun c1 => ?_) (fun c1 => ?_)
  · replace H := jif_t c1 H
    refine jS.adv O [(.iconst 0, 0, 0, 0, 0, (0 : Int32), 0)] (pc' := 24) (ls' := [(0, .inl x0), (1, .inl x1)]) (st' := [.inl (0 : Int32)]) (m2 := m) (by decide +kernel) rfl trivial ?_
    replace H := Option.some.inj H
    subst H
    exact jS.zret rfl (Or.inl rfl) (by decide +kernel)
  · replace H := jif_f c1 H
    refine jS.adv O [(.iload_n 1, 0, 0, 0, 0, 0, 0), (.bipush 32, 0, 0, 0, 0, (32 : Int32), 0)] (pc' := 7) (ls' := [(0, .inl x0), (1, .inl x1)]) (st' := [.inl (32 : Int32), .inl x1]) (m2 := m) (by decide +kernel) rfl trivial ?_
    refine jS.br (i := .if_icmp .ge 16) (P := (32 : Int32) ≤ x1) (rest := []) rfl (by decide +kernel) (tgt := 23) (by decide) (fun c2 => ?_) (fun c2 => ?_)
    · replace H := jif_t c2 H
      refine jS.adv O [(.iconst 0, 0, 0, 0, 0, (0 : Int32), 0)] (pc' := 24) (ls' := [(0, .inl x0), (1, .inl x1)]) (st' := [.inl (0 : Int32)]) (m2 := m) (by decide +kernel) rfl trivial ?_
      replace H := Option.some.inj H
      subst H
      exact jS.zret rfl (Or.inl rfl) (by decide +kernel)
    · replace H := jif_f c2 H
      refine jS.adv O [(.iload_n 0, 0, 0, 0, 0, 0, 0), (.iload_n 1, 0, 0, 0, 0, 0, 0), (.iushr, 0, 0, 0, 0, 0, 0), (.iconst 1, 0, 0, 0, 0, (1 : Int32), 0), (.iand, 0, 0, 0, 0, 0, 0), (.iconst 1, 0, 0, 0, 0, (1 : Int32), 0)] (pc' := 16) (ls' := [(0, .inl x0), (1, .inl x1)]) (st' := [.inl (1 : Int32), .inl ((jushr x0 x1) &&& (1 : Int32))]) (m2 := m) (by decide +kernel) rfl trivial ?_
      refine jS.br (i := .if_icmp .ne 7) (P := ¬ ((jushr x0 x1) &&& (1 : Int32)) = (1 : Int32)) (rest := []) rfl (by decide +kernel) (tgt := 23) (by decide) (fun c3 => ?_) (fun c3 => ?_)
      · replace H := jif_f c3 H
        refine jS.adv O [(.iconst 0, 0, 0, 0, 0, (0 : Int32), 0)] (pc' := 24) (ls' := [(0, .inl x0), (1, .inl x1)]) (st' := [.inl (0 : Int32)]) (m2 := m) (by decide +kernel) rfl trivial ?_
        replace H := Option.some.inj H
        subst H
        exact jS.zret rfl (Or.inl rfl) (by decide +kernel)
      · replace H := jif_t (Classical.not_not.mp c3) H
        refine jS.adv O [(.iconst 1, 0, 0, 0, 0, (1 : Int32), 0), (.goto 4, 0, 24, 0, 0, 0, 0)] (pc' := 24) (ls' := [(0, .inl x0), (1, .inl x1)]) (st' := [.inl (1 : Int32)]) (m2 := m) (by decide +kernel) rfl trivial ?_
        replace H := Option.some.inj H
        subst H
        exact jS.zret rfl (Or.inr rfl) (by decide +kernel)
def c_X5_init (F : Nat) (m : jMe) (x0 : Nat) : Option (jMe) :=
  jgd (¬ x0 = 0) <| jgd (¬ (40 : Int32) < 0 ∧ (40 : Int32).toNatClampNeg ≤ 10000) <| jlet (jnew m 2 (40 : Int32).toNatClampNeg (40 : Int32).toNatClampNeg) fun m3 => jgd (jK m3 x0 = 37) <| some (jsI (jsI (jsP m3 x0 0 (32 + jN m)) x0 1 (-1 : Int32)) x0 2 (0 : Int32))
theorem ec_X5_init {X : jX} {l : Launch} {d : Nat} (O : jOk X) (hd : 2 ≤ d) {F : Nat} {m : jMe} {x0 : Nat} {r : jMe} (H : c_X5_init F m x0 = some r) : jH X l d jm_X5_init [.inr (.inr x0)] m none r := by
  refine jH.of jpl_RX5 rfl (Nat.le_of_ble_eq_true rfl) ?_
  show jS X l d jm_X5_init m _ _ (0, [(0, .inr (.inr x0))], [], m)
  unfold c_X5_init at H
  obtain ⟨w1, H⟩ := jgd_ok H
  refine jS.adv O [(.aload_n 0, 0, 0, 0, 0, 0, 0)] (pc' := 1) (ls' := [(0, .inr (.inr x0))]) (st' := [.inr (.inr x0)]) (m2 := m) (by decide +kernel) rfl trivial ?_
  refine jS.step (c' := (4, [(0, .inr (.inr x0))], [], m)) (jSt.obj (idx := 3) (by omega) w1 (jW_of 533 (by decide +kernel) rfl) (jW_of 267 (by decide +kernel) rfl) (jW_of 268 (by decide +kernel) rfl) (Nat.le_of_ble_eq_true rfl) (by decide +kernel)) ?_
  obtain ⟨w2, H⟩ := jgd_ok H
  obtain ⟨m3, em3, H⟩ := jlet_ok H
  refine jS.adv O [(.aload_n 0, 0, 0, 0, 0, 0, 0), (.bipush 40, 0, 0, 0, 0, (40 : Int32), 0), (.newarray .long, 0, 2, 372, 0, 0, 0)] (pc' := 9) (ls' := [(0, .inr (.inr x0))]) (st' := [.inr (.inr (32 + jN m)), .inr (.inr x0)]) (m2 := (jnew m 2 (40 : Int32).toNatClampNeg (40 : Int32).toNatClampNeg)) (by decide +kernel) rfl ⟨w2, trivial⟩ ?_
  refine jS.cast (c' := (9, [(0, .inr (.inr x0))], [.inr (.inr (32 + jN m)), .inr (.inr x0)], m3)) (by rw [em3]) ?_
  obtain ⟨w4, H⟩ := jgd_ok H
  refine jS.adv O [(.putfield 9, 0, 5, 0, 534, 0, 0), (.aload_n 0, 0, 0, 0, 0, 0, 0), (.iconst (-1), 0, 0, 0, 0, (-1 : Int32), 0), (.putfield 15, 0, 5, 1, 536, 0, 0), (.aload_n 0, 0, 0, 0, 0, 0, 0), (.iconst 0, 0, 0, 0, 0, (0 : Int32), 0), (.putfield 19, 0, 5, 2, 538, 0, 0)] (pc' := 22) (ls' := [(0, .inr (.inr x0))]) (st' := []) (m2 := (jsI (jsI (jsP m3 x0 0 (32 + jN m)) x0 1 (-1 : Int32)) x0 2 (0 : Int32))) (by decide +kernel) rfl ⟨w4, w4, w4, trivial⟩ ?_
  replace H := Option.some.inj H
  subst H
  exact jS.vret rfl (by decide +kernel)
def c_X5_become (F : Nat) (m : jMe) (x0 : Nat) (x1 : Int32) (x2 : Int32) : Option (jMe) :=
  jgd (jK m x0 = 37) <| jb (c_J7_fill_d0a16 F (jsI (jsI m x0 1 x1) x0 2 x2) (jP (jsI (jsI m x0 1 x1) x0 2 x2) x0 0) (0 : Int64)) fun t3 => some t3
theorem ec_X5_become {X : jX} {l : Launch} {d : Nat} (O : jOk X) (hd : 3 ≤ d) {F : Nat} {m : jMe} {x0 : Nat} {x1 : Int32} {x2 : Int32} {r : jMe} (H : c_X5_become F m x0 x1 x2 = some r) : jH X l d jm_X5_become [.inr (.inr x0), .inl x1, .inl x2] m none r := by
  refine jH.of jpl_RX5 rfl (Nat.le_of_ble_eq_true rfl) ?_
  show jS X l d jm_X5_become m _ _ (0, [(0, .inr (.inr x0)), (1, .inl x1), (2, .inl x2)], [], m)
  unfold c_X5_become at H
  obtain ⟨w1, H⟩ := jgd_ok H
  refine jS.adv O [(.aload_n 0, 0, 0, 0, 0, 0, 0), (.iload_n 1, 0, 0, 0, 0, 0, 0), (.putfield 15, 0, 5, 1, 536, 0, 0), (.aload_n 0, 0, 0, 0, 0, 0, 0), (.iload_n 2, 0, 0, 0, 0, 0, 0), (.putfield 19, 0, 5, 2, 538, 0, 0), (.aload_n 0, 0, 0, 0, 0, 0, 0), (.getfield 9, 0, 5, 0, 534, 0, 0), (.lconst 0, 0, 0, 0, 0, 0, (0 : Int64))] (pc' := 15) (ls' := [(0, .inr (.inr x0)), (1, .inl x1), (2, .inl x2)]) (st' := [.inr (.inl (0 : Int64)), .inr (.inr (jP (jsI (jsI m x0 1 x1) x0 2 x2) x0 0))]) (m2 := (jsI (jsI m x0 1 x1) x0 2 x2)) (by decide +kernel) rfl ⟨w1, w1, w1, trivial⟩ ?_
  obtain ⟨t3, w2, H⟩ := jb_ok H
  refine jS.step (c' := (18, [(0, .inr (.inr x0)), (1, .inl x1), (2, .inl x2)], [], t3)) (jSt.callS (As := [.inr (.inr (jP (jsI (jsI m x0 1 x1) x0 2 x2) x0 0)), .inr (.inl (0 : Int64))]) (rest := []) O (ec_J7_fill_d0a16 (d := 2) O (Nat.le_refl _) w2) (by omega) jmw_J7_fill_d0a16 jmv_J7_fill_d0a16 jmn_J7_fill_d0a16 (idx := 22) (jW_of 1289 (by decide +kernel) rfl) (Nat.le_of_ble_eq_true rfl) (by decide +kernel)) ?_
  replace H := Option.some.inj H
  subst H
  exact jS.vret rfl (by decide +kernel)
def c_X5_has (F : Nat) (m : jMe) (x0 : Nat) (x1 : Int32) : Option (Int32) :=
  (if x1 < 0 then some (0 : Int32) else jgd (jK m x0 = 37) <| (if (jI m x0 2) ≤ x1 then some (0 : Int32) else some (1 : Int32)))
theorem ec_X5_has {X : jX} {l : Launch} {d : Nat} (O : jOk X) (hd : 2 ≤ d) {F : Nat} {m : jMe} {x0 : Nat} {x1 : Int32} {r : Int32} (H : c_X5_has F m x0 x1 = some r) : jH X l d jm_X5_has [.inr (.inr x0), .inl x1] m (some (.inl r)) m := by
  refine jH.of jpl_RX5 rfl (Nat.le_of_ble_eq_true rfl) ?_
  show jS X l d jm_X5_has m _ _ (0, [(0, .inr (.inr x0)), (1, .inl x1)], [], m)
  unfold c_X5_has at H
  refine jS.adv O [(.iload_n 1, 0, 0, 0, 0, 0, 0)] (pc' := 1) (ls' := [(0, .inr (.inr x0)), (1, .inl x1)]) (st' := [.inl x1]) (m2 := m) (by decide +kernel) rfl trivial ?_
  refine jS.br (i := .ifCond .lt 15) (P := x1 < 0) (rest := []) rfl (by decide +kernel) (tgt := 16) (by decide) (fun c1 => ?_) (fun c1 => ?_)
  · replace H := jif_t c1 H
    refine jS.adv O [(.iconst 0, 0, 0, 0, 0, (0 : Int32), 0)] (pc' := 17) (ls' := [(0, .inr (.inr x0)), (1, .inl x1)]) (st' := [.inl (0 : Int32)]) (m2 := m) (by decide +kernel) rfl trivial ?_
    replace H := Option.some.inj H
    subst H
    exact jS.zret rfl (Or.inl rfl) (by decide +kernel)
  · replace H := jif_f c1 H
    obtain ⟨w2, H⟩ := jgd_ok H
    refine jS.adv O [(.iload_n 1, 0, 0, 0, 0, 0, 0), (.aload_n 0, 0, 0, 0, 0, 0, 0), (.getfield 19, 0, 5, 2, 538, 0, 0)] (pc' := 9) (ls' := [(0, .inr (.inr x0)), (1, .inl x1)]) (st' := [.inl (jI m x0 2), .inl x1]) (m2 := m) (by decide +kernel) rfl ⟨w2, trivial⟩ ?_
    refine jS.br (i := .if_icmp .ge 7) (P := (jI m x0 2) ≤ x1) (rest := []) rfl (by decide +kernel) (tgt := 16) (by decide) (fun c3 => ?_) (fun c3 => ?_)
    · replace H := jif_t c3 H
      refine jS.adv O [(.iconst 0, 0, 0, 0, 0, (0 : Int32), 0)] (pc' := 17) (ls' := [(0, .inr (.inr x0)), (1, .inl x1)]) (st' := [.inl (0 : Int32)]) (m2 := m) (by decide +kernel) rfl trivial ?_
      replace H := Option.some.inj H
      subst H
      exact jS.zret rfl (Or.inl rfl) (by decide +kernel)
    · replace H := jif_f c3 H
      refine jS.adv O [(.iconst 1, 0, 0, 0, 0, (1 : Int32), 0), (.goto 4, 0, 17, 0, 0, 0, 0)] (pc' := 17) (ls' := [(0, .inr (.inr x0)), (1, .inl x1)]) (st' := [.inl (1 : Int32)]) (m2 := m) (by decide +kernel) rfl trivial ?_
      replace H := Option.some.inj H
      subst H
      exact jS.zret rfl (Or.inr rfl) (by decide +kernel)
def c_X5_hasRun (F : Nat) (m : jMe) (x0 : Nat) (x1 : Int32) (x2 : Int32) : Option (Int32) :=
  (if x1 < 0 then some (0 : Int32) else (if x2 < 0 then some (0 : Int32) else jgd (jK m x0 = 37) <| (if (jI m x0 2) < x1 then some (0 : Int32) else (if ((jI m x0 2) - x1) < x2 then some (0 : Int32) else some (1 : Int32)))))
theorem ec_X5_hasRun {X : jX} {l : Launch} {d : Nat} (O : jOk X) (hd : 2 ≤ d) {F : Nat} {m : jMe} {x0 : Nat} {x1 : Int32} {x2 : Int32} {r : Int32} (H : c_X5_hasRun F m x0 x1 x2 = some r) : jH X l d jm_X5_hasRun [.inr (.inr x0), .inl x1, .inl x2] m (some (.inl r)) m := by
  refine jH.of jpl_RX5 rfl (Nat.le_of_ble_eq_true rfl) ?_
  show jS X l d jm_X5_hasRun m _ _ (0, [(0, .inr (.inr x0)), (1, .inl x1), (2, .inl x2)], [], m)
  unfold c_X5_hasRun at H
  refine jS.adv O [(.iload_n 1, 0, 0, 0, 0, 0, 0)] (pc' := 1) (ls' := [(0, .inr (.inr x0)), (1, .inl x1), (2, .inl x2)]) (st' := [.inl x1]) (m2 := m) (by decide +kernel) rfl trivial ?_
  refine jS.br (i := .ifCond .lt 29) (P := x1 < 0) (rest := []) rfl (by decide +kernel) (tgt := 30) (by decide) (fun c1 => ?_) (fun c1 => ?_)
  · replace H := jif_t c1 H
    refine jS.adv O [(.iconst 0, 0, 0, 0, 0, (0 : Int32), 0)] (pc' := 31) (ls' := [(0, .inr (.inr x0)), (1, .inl x1), (2, .inl x2)]) (st' := [.inl (0 : Int32)]) (m2 := m) (by decide +kernel) rfl trivial ?_
    replace H := Option.some.inj H
    subst H
    exact jS.zret rfl (Or.inl rfl) (by decide +kernel)
  · replace H := jif_f c1 H
    refine jS.adv O [(.iload_n 2, 0, 0, 0, 0, 0, 0)] (pc' := 5) (ls' := [(0, .inr (.inr x0)), (1, .inl x1), (2, .inl x2)]) (st' := [.inl x2]) (m2 := m) (by decide +kernel) rfl trivial ?_
    refine jS.br (i := .ifCond .lt 25) (P := x2 < 0) (rest := []) rfl (by decide +kernel) (tgt := 30) (by decide) (fun c2 => ?_) (fun c2 => ?_)
    · replace H := jif_t c2 H
      refine jS.adv O [(.iconst 0, 0, 0, 0, 0, (0 : Int32), 0)] (pc' := 31) (ls' := [(0, .inr (.inr x0)), (1, .inl x1), (2, .inl x2)]) (st' := [.inl (0 : Int32)]) (m2 := m) (by decide +kernel) rfl trivial ?_
      replace H := Option.some.inj H
      subst H
      exact jS.zret rfl (Or.inl rfl) (by decide +kernel)
    · replace H := jif_f c2 H
      obtain ⟨w3, H⟩ := jgd_ok H
      refine jS.adv O [(.iload_n 1, 0, 0, 0, 0, 0, 0), (.aload_n 0, 0, 0, 0, 0, 0, 0), (.getfield 19, 0, 5, 2, 538, 0, 0)] (pc' := 13) (ls' := [(0, .inr (.inr x0)), (1, .inl x1), (2, .inl x2)]) (st' := [.inl (jI m x0 2), .inl x1]) (m2 := m) (by decide +kernel) rfl ⟨w3, trivial⟩ ?_
      refine jS.br (i := .if_icmp .gt 17) (P := (jI m x0 2) < x1) (rest := []) rfl (by decide +kernel) (tgt := 30) (by decide) (fun c4 => ?_) (fun c4 => ?_)
      · replace H := jif_t c4 H
        refine jS.adv O [(.iconst 0, 0, 0, 0, 0, (0 : Int32), 0)] (pc' := 31) (ls' := [(0, .inr (.inr x0)), (1, .inl x1), (2, .inl x2)]) (st' := [.inl (0 : Int32)]) (m2 := m) (by decide +kernel) rfl trivial ?_
        replace H := Option.some.inj H
        subst H
        exact jS.zret rfl (Or.inl rfl) (by decide +kernel)
      · replace H := jif_f c4 H
        refine jS.adv O [(.iload_n 2, 0, 0, 0, 0, 0, 0), (.aload_n 0, 0, 0, 0, 0, 0, 0), (.getfield 19, 0, 5, 2, 538, 0, 0), (.iload_n 1, 0, 0, 0, 0, 0, 0), (.isub, 0, 0, 0, 0, 0, 0)] (pc' := 23) (ls' := [(0, .inr (.inr x0)), (1, .inl x1), (2, .inl x2)]) (st' := [.inl ((jI m x0 2) - x1), .inl x2]) (m2 := m) (by decide +kernel) rfl ⟨w3, trivial⟩ ?_
        refine jS.br (i := .if_icmp .gt 7) (P := ((jI m x0 2) - x1) < x2) (rest := []) rfl (by decide +kernel) (tgt := 30) (by decide) (fun c5 => ?_) (fun c5 => ?_)
        · replace H := jif_t c5 H
          refine jS.adv O [(.iconst 0, 0, 0, 0, 0, (0 : Int32), 0)] (pc' := 31) (ls' := [(0, .inr (.inr x0)), (1, .inl x1), (2, .inl x2)]) (st' := [.inl (0 : Int32)]) (m2 := m) (by decide +kernel) rfl trivial ?_
          replace H := Option.some.inj H
          subst H
          exact jS.zret rfl (Or.inl rfl) (by decide +kernel)
        · replace H := jif_f c5 H
          refine jS.adv O [(.iconst 1, 0, 0, 0, 0, (1 : Int32), 0), (.goto 4, 0, 31, 0, 0, 0, 0)] (pc' := 31) (ls' := [(0, .inr (.inr x0)), (1, .inl x1), (2, .inl x2)]) (st' := [.inl (1 : Int32)]) (m2 := m) (by decide +kernel) rfl trivial ?_
          replace H := Option.some.inj H
          subst H
          exact jS.zret rfl (Or.inr rfl) (by decide +kernel)
def c_X5_lay_j34 (F : Nat) (m : jMe) (s0 : Int64) (s1 : Int32) (s2 : Nat) : Option (jMe) :=
  jgd (jK m s2 = 2) <| jgd (jin s1 (jZ m s2) = true) <| some (jsL m s2 s1.toNatClampNeg s0)
theorem ec_X5_lay_j34 {X : jX} {l : Launch} {d : Nat} (O : jOk X) (hd : 2 ≤ d) {F : Nat} {m0 m : jMe} {s0 : Int64} {s1 : Int32} {s2 : Nat} {r : jMe} (H : c_X5_lay_j34 F m s0 s1 s2 = some r) : jS X l d jm_X5_lay m0 none r (34, [], [.inr (.inl s0), .inl s1, .inr (.inr s2)], m) := by
  unfold c_X5_lay_j34 at H
  obtain ⟨w4, H⟩ := jgd_ok H
  obtain ⟨w5, H⟩ := jgd_ok H
  refine jS.adv O [(.lastore, 0, 0, 0, 0, 0, 0)] (pc' := 35) (ls' := []) (st' := []) (m2 := (jsL m s2 s1.toNatClampNeg s0)) (by decide +kernel) rfl ⟨⟨w4, jib_ok w5⟩, trivial⟩ ?_
  replace H := Option.some.inj H
  subst H
  exact jS.vret rfl (by decide +kernel)
def c_X5_lay (F : Nat) (m : jMe) (x0 : Nat) (x1 : Int32) (x2 : Int64) : Option (jMe) :=
  jgd (jK m x0 = 37) <| (if (jI m x0 1) = 0 then c_X5_lay_j34 F m x2 x1 (jP m x0 0) else (if (jI m x0 1) = (1 : Int32) then c_X5_lay_j34 F m (Int32.toInt64 (Int64.toInt32 x2)) x1 (jP m x0 0) else c_X5_lay_j34 F m (Int32.toInt64 (ji2b (Int64.toInt32 x2))) x1 (jP m x0 0)))
theorem ec_X5_lay {X : jX} {l : Launch} {d : Nat} (O : jOk X) (hd : 2 ≤ d) {F : Nat} {m : jMe} {x0 : Nat} {x1 : Int32} {x2 : Int64} {r : jMe} (H : c_X5_lay F m x0 x1 x2 = some r) : jH X l d jm_X5_lay [.inr (.inr x0), .inl x1, .inr (.inl x2)] m none r := by
  refine jH.of jpl_RX5 rfl (Nat.le_of_ble_eq_true rfl) ?_
  show jS X l d jm_X5_lay m _ _ (0, [(0, .inr (.inr x0)), (1, .inl x1), (2, .inr (.inl x2))], [], m)
  unfold c_X5_lay at H
  obtain ⟨w1, H⟩ := jgd_ok H
  refine jS.adv O [(.aload_n 0, 0, 0, 0, 0, 0, 0), (.getfield 9, 0, 5, 0, 534, 0, 0), (.iload_n 1, 0, 0, 0, 0, 0, 0), (.aload_n 0, 0, 0, 0, 0, 0, 0), (.getfield 15, 0, 5, 1, 536, 0, 0)] (pc' := 9) (ls' := [(0, .inr (.inr x0)), (1, .inl x1), (2, .inr (.inl x2))]) (st' := [.inl (jI m x0 1), .inl x1, .inr (.inr (jP m x0 0))]) (m2 := m) (by decide +kernel) rfl ⟨w1, w1, trivial⟩ ?_
  refine jS.br (i := .ifCond .ne 7) (P := ¬ (jI m x0 1) = 0) (rest := [.inl x1, .inr (.inr (jP m x0 0))]) rfl (by decide +kernel) (tgt := 16) (by decide) (fun c2 => ?_) (fun c2 => ?_)
  · replace H := jif_f c2 H
    refine jS.adv O [(.aload_n 0, 0, 0, 0, 0, 0, 0), (.getfield 15, 0, 5, 1, 536, 0, 0), (.iconst 1, 0, 0, 0, 0, (1 : Int32), 0)] (pc' := 21) (ls' := [(0, .inr (.inr x0)), (1, .inl x1), (2, .inr (.inl x2))]) (st' := [.inl (1 : Int32), .inl (jI m x0 1), .inl x1, .inr (.inr (jP m x0 0))]) (m2 := m) (by decide +kernel) rfl ⟨w1, trivial⟩ ?_
    refine jS.br (i := .if_icmp .ne 9) (P := ¬ (jI m x0 1) = (1 : Int32)) (rest := [.inl x1, .inr (.inr (jP m x0 0))]) rfl (by decide +kernel) (tgt := 30) (by decide) (fun c3 => ?_) (fun c3 => ?_)
    · replace H := jif_f c3 H
      refine jS.adv O [(.lload_n 2, 0, 0, 0, 0, 0, 0), (.l2i, 0, 0, 0, 0, 0, 0), (.i2b, 0, 0, 0, 0, 0, 0), (.i2l, 0, 0, 0, 0, 0, 0)] (pc' := 34) (ls' := [(0, .inr (.inr x0)), (1, .inl x1), (2, .inr (.inl x2))]) (st' := [.inr (.inl (Int32.toInt64 (ji2b (Int64.toInt32 x2)))), .inl x1, .inr (.inr (jP m x0 0))]) (m2 := m) (by decide +kernel) rfl trivial ?_
      refine jS.loc' [] (ls' := []) rfl ?_
      exact ec_X5_lay_j34 O hd H
    · replace H := jif_t (Classical.not_not.mp c3) H
      refine jS.adv O [(.lload_n 2, 0, 0, 0, 0, 0, 0), (.l2i, 0, 0, 0, 0, 0, 0), (.i2l, 0, 0, 0, 0, 0, 0), (.goto 7, 0, 34, 0, 0, 0, 0)] (pc' := 34) (ls' := [(0, .inr (.inr x0)), (1, .inl x1), (2, .inr (.inl x2))]) (st' := [.inr (.inl (Int32.toInt64 (Int64.toInt32 x2))), .inl x1, .inr (.inr (jP m x0 0))]) (m2 := m) (by decide +kernel) rfl trivial ?_
      refine jS.loc' [] (ls' := []) rfl ?_
      exact ec_X5_lay_j34 O hd H
  · replace H := jif_t (Classical.not_not.mp c2) H
    refine jS.adv O [(.lload_n 2, 0, 0, 0, 0, 0, 0), (.goto 21, 0, 34, 0, 0, 0, 0)] (pc' := 34) (ls' := [(0, .inr (.inr x0)), (1, .inl x1), (2, .inr (.inl x2))]) (st' := [.inr (.inl x2), .inl x1, .inr (.inr (jP m x0 0))]) (m2 := m) (by decide +kernel) rfl trivial ?_
    refine jS.loc' [] (ls' := []) rfl ?_
    exact ec_X5_lay_j34 O hd H
def c_X6_init (F : Nat) (m : jMe) (x0 : Nat) : Option (jMe) :=
  jgd (¬ x0 = 0) <| jlet (jnew m (32 + 0) 0 (jnf 0)) fun m2 => jb (c_X0_init F m2 (32 + jN m)) fun t4 => jgd (jK t4 x0 = 38) <| jgd (¬ (8 : Int32) < 0 ∧ (8 : Int32).toNatClampNeg ≤ 10000) <| jlet (jnew (jsP t4 x0 0 (32 + jN m)) 2 (8 : Int32).toNatClampNeg (8 : Int32).toNatClampNeg) fun m7 => jgd (jK m7 x0 = 38) <| jgd (¬ (8 : Int32) < 0 ∧ (8 : Int32).toNatClampNeg ≤ 10000) <| jlet (jnew (jsP m7 x0 1 (32 + jN (jsP t4 x0 0 (32 + jN m)))) 2 (8 : Int32).toNatClampNeg (8 : Int32).toNatClampNeg) fun m10 => jgd (jK m10 x0 = 38) <| some (jsP m10 x0 2 (32 + jN (jsP m7 x0 1 (32 + jN (jsP t4 x0 0 (32 + jN m))))))
theorem ec_X6_init {X : jX} {l : Launch} {d : Nat} (O : jOk X) (hd : 3 ≤ d) {F : Nat} {m : jMe} {x0 : Nat} {r : jMe} (H : c_X6_init F m x0 = some r) : jH X l d jm_X6_init [.inr (.inr x0)] m none r := by
  refine jH.of jpl_RX6 rfl (Nat.le_of_ble_eq_true rfl) ?_
  show jS X l d jm_X6_init m _ _ (0, [(0, .inr (.inr x0))], [], m)
  unfold c_X6_init at H
  obtain ⟨w1, H⟩ := jgd_ok H
  refine jS.adv O [(.aload_n 0, 0, 0, 0, 0, 0, 0)] (pc' := 1) (ls' := [(0, .inr (.inr x0))]) (st' := [.inr (.inr x0)]) (m2 := m) (by decide +kernel) rfl trivial ?_
  refine jS.step (c' := (4, [(0, .inr (.inr x0))], [], m)) (jSt.obj (idx := 3) (by omega) w1 (jW_of 351 (by decide +kernel) rfl) (jW_of 267 (by decide +kernel) rfl) (jW_of 268 (by decide +kernel) rfl) (Nat.le_of_ble_eq_true rfl) (by decide +kernel)) ?_
  obtain ⟨m2, em2, H⟩ := jlet_ok H
  refine jS.adv O [(.aload_n 0, 0, 0, 0, 0, 0, 0), (.new 9, 0, 0, 352, 353, 0, 0)] (pc' := 8) (ls' := [(0, .inr (.inr x0))]) (st' := [.inr (.inr (32 + jN m)), .inr (.inr x0)]) (m2 := (jnew m (32 + 0) 0 (jnf 0))) (by decide +kernel) rfl trivial ?_
  refine jS.cast (c' := (8, [(0, .inr (.inr x0))], [.inr (.inr (32 + jN m)), .inr (.inr x0)], m2)) (by rw [em2]) ?_
  refine jS.adv O [(.dup, 0, 0, 0, 0, 0, 0)] (pc' := 9) (ls' := [(0, .inr (.inr x0))]) (st' := [.inr (.inr (32 + jN m)), .inr (.inr (32 + jN m)), .inr (.inr x0)]) (m2 := m2) (by decide +kernel) rfl trivial ?_
  obtain ⟨t4, w3, H⟩ := jb_ok H
  refine jS.step (c' := (12, [(0, .inr (.inr x0))], [.inr (.inr (32 + jN m)), .inr (.inr x0)], t4)) (jSt.callIN (As := []) (rest := [.inr (.inr (32 + jN m)), .inr (.inr x0)]) O (ec_X0_init (d := 2) O (Nat.le_refl _) w3) (by omega) (by omega) jmw_X0_init jmv_X0_init jmn_X0_init (host := "JoinDraws") (idx := 11) jln_JoinDraws_Shuffle_11 (Nat.le_of_ble_eq_true rfl) (by decide +kernel)) ?_
  obtain ⟨w5, H⟩ := jgd_ok H
  obtain ⟨w6, H⟩ := jgd_ok H
  obtain ⟨m7, em7, H⟩ := jlet_ok H
  refine jS.adv O [(.putfield 12, 0, 6, 0, 362, 0, 0), (.aload_n 0, 0, 0, 0, 0, 0, 0), (.bipush 8, 0, 0, 0, 0, (8 : Int32), 0), (.newarray .long, 0, 2, 372, 0, 0, 0)] (pc' := 20) (ls' := [(0, .inr (.inr x0))]) (st' := [.inr (.inr (32 + jN (jsP t4 x0 0 (32 + jN m)))), .inr (.inr x0)]) (m2 := (jnew (jsP t4 x0 0 (32 + jN m)) 2 (8 : Int32).toNatClampNeg (8 : Int32).toNatClampNeg)) (by decide +kernel) rfl ⟨w5, w6, trivial⟩ ?_
  refine jS.cast (c' := (20, [(0, .inr (.inr x0))], [.inr (.inr (32 + jN (jsP t4 x0 0 (32 + jN m)))), .inr (.inr x0)], m7)) (by rw [em7]) ?_
  obtain ⟨w8, H⟩ := jgd_ok H
  obtain ⟨w9, H⟩ := jgd_ok H
  obtain ⟨m10, em10, H⟩ := jlet_ok H
  refine jS.adv O [(.putfield 18, 0, 6, 1, 363, 0, 0), (.aload_n 0, 0, 0, 0, 0, 0, 0), (.bipush 8, 0, 0, 0, 0, (8 : Int32), 0), (.newarray .long, 0, 2, 372, 0, 0, 0)] (pc' := 28) (ls' := [(0, .inr (.inr x0))]) (st' := [.inr (.inr (32 + jN (jsP m7 x0 1 (32 + jN (jsP t4 x0 0 (32 + jN m)))))), .inr (.inr x0)]) (m2 := (jnew (jsP m7 x0 1 (32 + jN (jsP t4 x0 0 (32 + jN m)))) 2 (8 : Int32).toNatClampNeg (8 : Int32).toNatClampNeg)) (by decide +kernel) rfl ⟨w8, w9, trivial⟩ ?_
  refine jS.cast (c' := (28, [(0, .inr (.inr x0))], [.inr (.inr (32 + jN (jsP m7 x0 1 (32 + jN (jsP t4 x0 0 (32 + jN m)))))), .inr (.inr x0)], m10)) (by rw [em10]) ?_
  obtain ⟨w11, H⟩ := jgd_ok H
  refine jS.adv O [(.putfield 22, 0, 6, 2, 364, 0, 0)] (pc' := 31) (ls' := [(0, .inr (.inr x0))]) (st' := []) (m2 := (jsP m10 x0 2 (32 + jN (jsP m7 x0 1 (32 + jN (jsP t4 x0 0 (32 + jN m))))))) (by decide +kernel) rfl ⟨w11, trivial⟩ ?_
  replace H := Option.some.inj H
  subst H
  exact jS.vret rfl (by decide +kernel)
def c_X6_standingAt_l5_b (F : Nat) (B : Nat → Int64 → Int32 → Option (Int64 ⊕ Int64)) (m : jMe) (y0 : Nat) (y1 : Int64) (y4 : Int32) : Option (Int64 ⊕ Int64) :=
  (if y4 < 0 then some (.inr (y1)) else jgd (jK m y0 = 38) <| jgd (jK m (jP m y0 1) = 2) <| jgd (jin y4 (jZ m (jP m y0 1)) = true) <| (if (lg_cmp (jL m (jP m y0 1) y4.toNatClampNeg) y1) = 0 then jgd (jK m (jP m y0 2) = 2) <| jgd (jin y4 (jZ m (jP m y0 2)) = true) <| some (.inl (jL m (jP m y0 2) y4.toNatClampNeg)) else B y0 y1 (y4 + (-1 : Int32))))
theorem ec_X6_standingAt_l5_b {X : jX} {l : Launch} {d : Nat} (O : jOk X) (hd : 2 ≤ d) {F : Nat} {m0 m' : jMe} {v : Option jAV} {m : jMe} {B : Nat → Int64 → Int32 → Option (Int64 ⊕ Int64)} (hB : ∀ (y0 : Nat) (y1 : Int64) (y4 : Int32) (r : Int64 ⊕ Int64), B y0 y1 y4 = some r → (∀ q, r = .inl q → v = (some (.inr (.inl q))) ∧ m' = m) → (∀ e, r = .inr e → jS X l d jm_X6_standingAt m0 v m' (36, [(1, .inr (.inl e))], [], m)) → jS X l d jm_X6_standingAt m0 v m' (5, [(0, .inr (.inr y0)), (1, .inr (.inl y1)), (4, .inl y4)], [], m)) {y0 : Nat} {y1 : Int64} {y4 : Int32} {r : Int64 ⊕ Int64} (H : c_X6_standingAt_l5_b F B m y0 y1 y4 = some r) (h1 : ∀ q, r = .inl q → v = (some (.inr (.inl q))) ∧ m' = m) (h2 : ∀ e, r = .inr e → jS X l d jm_X6_standingAt m0 v m' (36, [(1, .inr (.inl e))], [], m)) : jS X l d jm_X6_standingAt m0 v m' (5, [(0, .inr (.inr y0)), (1, .inr (.inl y1)), (4, .inl y4)], [], m) := by
  unfold c_X6_standingAt_l5_b at H
  refine jS.adv O [(.iload 4, 0, 0, 0, 0, 0, 0)] (pc' := 7) (ls' := [(0, .inr (.inr y0)), (1, .inr (.inl y1)), (4, .inl y4)]) (st' := [.inl y4]) (m2 := m) (by decide +kernel) rfl trivial ?_
  refine jS.br (i := .ifCond .lt 29) (P := y4 < 0) (rest := []) rfl (by decide +kernel) (tgt := 36) (by decide) (fun c1 => ?_) (fun c1 => ?_)
  · replace H := jif_t c1 H
    replace H := Option.some.inj H
    subst H
    refine jS.loc' [1] (ls' := [(1, .inr (.inl y1))]) rfl ?_
    exact h2 _ rfl
  · replace H := jif_f c1 H
    obtain ⟨w2, H⟩ := jgd_ok H
    obtain ⟨w3, H⟩ := jgd_ok H
    obtain ⟨w4, H⟩ := jgd_ok H
    refine jS.adv O [(.aload_n 0, 0, 0, 0, 0, 0, 0), (.getfield 18, 0, 6, 1, 363, 0, 0), (.iload 4, 0, 0, 0, 0, 0, 0), (.laload, 0, 0, 0, 0, 0, 0), (.lload_n 1, 0, 0, 0, 0, 0, 0), (.lcmp, 0, 0, 0, 0, 0, 0)] (pc' := 19) (ls' := [(0, .inr (.inr y0)), (1, .inr (.inl y1)), (4, .inl y4)]) (st' := [.inl (lg_cmp (jL m (jP m y0 1) y4.toNatClampNeg) y1)]) (m2 := m) (by decide +kernel) rfl ⟨w2, ⟨w3, jib_ok w4⟩, trivial⟩ ?_
    refine jS.br (i := .ifCond .ne 11) (P := ¬ (lg_cmp (jL m (jP m y0 1) y4.toNatClampNeg) y1) = 0) (rest := []) rfl (by decide +kernel) (tgt := 30) (by decide) (fun c5 => ?_) (fun c5 => ?_)
    · replace H := jif_f c5 H
      refine jS.adv O [(.iinc 4 (-1), 0, 0, 0, 0, (-1 : Int32), 0), (.goto (-28), 0, 5, 0, 0, 0, 0)] (pc' := 5) (ls' := [(4, .inl (y4 + (-1 : Int32))), (0, .inr (.inr y0)), (1, .inr (.inl y1))]) (st' := []) (m2 := m) (by decide +kernel) rfl trivial ?_
      refine jS.loc' [1, 2, 0] (ls' := [(0, .inr (.inr y0)), (1, .inr (.inl y1)), (4, .inl (y4 + (-1 : Int32)))]) rfl ?_
      exact hB _ _ _ _ H h1 h2
    · replace H := jif_t (Classical.not_not.mp c5) H
      obtain ⟨w6, H⟩ := jgd_ok H
      obtain ⟨w7, H⟩ := jgd_ok H
      refine jS.adv O [(.aload_n 0, 0, 0, 0, 0, 0, 0), (.getfield 22, 0, 6, 2, 364, 0, 0), (.iload 4, 0, 0, 0, 0, 0, 0), (.laload, 0, 0, 0, 0, 0, 0)] (pc' := 29) (ls' := [(0, .inr (.inr y0)), (1, .inr (.inl y1)), (4, .inl y4)]) (st' := [.inr (.inl (jL m (jP m y0 2) y4.toNatClampNeg))]) (m2 := m) (by decide +kernel) rfl ⟨w2, ⟨w6, jib_ok w7⟩, trivial⟩ ?_
      replace H := Option.some.inj H
      subst H
      obtain ⟨q1, q2⟩ := h1 _ rfl
      subst q1; subst q2
      exact jS.lret rfl (by decide +kernel)
def c_X6_standingAt_l5 (F : Nat) (m : jMe) : Nat → Nat → Int64 → Int32 → Option (Int64 ⊕ Int64)
  | 0, _, _, _ => none
  | n + 1, y0, y1, y4 => c_X6_standingAt_l5_b F (fun y0 y1 y4 => c_X6_standingAt_l5 F m n y0 y1 y4) m y0 y1 y4
theorem ec_X6_standingAt_l5 {X : jX} {l : Launch} {d : Nat} (O : jOk X) (hd : 2 ≤ d) {F : Nat} {m0 m' : jMe} {v : Option jAV} {m : jMe} : ∀ (n : Nat) {y0 : Nat} {y1 : Int64} {y4 : Int32} {r : Int64 ⊕ Int64} (H : c_X6_standingAt_l5 F m n y0 y1 y4 = some r) (h1 : ∀ q, r = .inl q → v = (some (.inr (.inl q))) ∧ m' = m) (h2 : ∀ e, r = .inr e → jS X l d jm_X6_standingAt m0 v m' (36, [(1, .inr (.inl e))], [], m)), jS X l d jm_X6_standingAt m0 v m' (5, [(0, .inr (.inr y0)), (1, .inr (.inl y1)), (4, .inl y4)], [], m) := by
  intro n
  induction n with
  | zero =>
    intro y0 y1 y4 r H h1 h2
    cases (show none = some r from H)
  | succ n ih =>
    intro y0 y1 y4 r H h1 h2
    exact ec_X6_standingAt_l5_b O hd (B := (fun y0 y1 y4 => c_X6_standingAt_l5 F m n y0 y1 y4)) (fun y0 y1 y4 r H h1 h2 => ih H h1 h2) H h1 h2
def c_X6_standingAt (F : Nat) (m : jMe) (x0 : Nat) (x1 : Int64) (x3 : Int32) : Option (Int64) :=
  jb2 (c_X6_standingAt_l5 F m F x0 x1 (x3 - (1 : Int32))) (fun q => some q) fun e9 => some e9
theorem ec_X6_standingAt {X : jX} {l : Launch} {d : Nat} (O : jOk X) (hd : 2 ≤ d) {F : Nat} {m : jMe} {x0 : Nat} {x1 : Int64} {x3 : Int32} {r : Int64} (H : c_X6_standingAt F m x0 x1 x3 = some r) : jH X l d jm_X6_standingAt [.inr (.inr x0), .inr (.inl x1), .inl x3] m (some (.inr (.inl r))) m := by
  refine jH.of jpl_RX6 rfl (Nat.le_of_ble_eq_true rfl) ?_
  show jS X l d jm_X6_standingAt m _ _ (0, [(0, .inr (.inr x0)), (1, .inr (.inl x1)), (3, .inl x3)], [], m)
  unfold c_X6_standingAt at H
  refine jS.adv O [(.iload_n 3, 0, 0, 0, 0, 0, 0), (.iconst 1, 0, 0, 0, 0, (1 : Int32), 0), (.isub, 0, 0, 0, 0, 0, 0), (.istore 4, 0, 0, 0, 0, 0, 0)] (pc' := 5) (ls' := [(4, .inl (x3 - (1 : Int32))), (0, .inr (.inr x0)), (1, .inr (.inl x1)), (3, .inl x3)]) (st' := []) (m2 := m) (by decide +kernel) rfl trivial ?_
  refine jS.loc' [1, 2, 0] (ls' := [(0, .inr (.inr x0)), (1, .inr (.inl x1)), (4, .inl (x3 - (1 : Int32)))]) rfl ?_
  rcases jb2_ok H with ⟨q8, w10, H⟩ | ⟨e9, w10, H⟩
  · refine ec_X6_standingAt_l5 O hd F w10 (fun q2 hq2 => ?_) (fun e2 he2 => by cases he2)
    cases hq2
    cases H
    exact ⟨rfl, rfl⟩
  · refine ec_X6_standingAt_l5 O hd F w10 (fun q2 hq2 => by cases hq2) (fun e2 he2 => ?_)
    cases he2
    refine jS.adv O [(.lload_n 1, 0, 0, 0, 0, 0, 0)] (pc' := 37) (ls' := [(1, .inr (.inl e9))]) (st' := [.inr (.inl e9)]) (m2 := m) (by decide +kernel) rfl trivial ?_
    replace H := Option.some.inj H
    subst H
    exact jS.lret rfl (by decide +kernel)
def c_X6_placed_l16_b (F : Nat) (B : jMe → Nat → Int64 → Int32 → Int64 → Int32 → Option (jMe × Int64)) (m : jMe) (y0 : Nat) (y2 : Int64) (y4 : Int32) (y5 : Int64) (y7 : Int32) : Option (jMe × Int64) :=
  (if y4 < y7 then some (m, y5) else (if (8 : Int32) ≤ y7 then some (m, y5) else jgd (jK m y0 = 38) <| jgd (jK m (jP m y0 0) = 32) <| jb (c_X0_below F m (jP m y0 0) (y2 - (Int32.toInt64 y7))) fun t10 => jgd (jK t10.2 y0 = 38) <| jb (c_X6_standingAt F t10.2 y0 ((Int32.toInt64 y7) + t10.1) y7) fun t13 => jb (c_X6_standingAt F t10.2 y0 (Int32.toInt64 y7) y7) fun t15 => jgd (jK t10.2 (jP t10.2 y0 2) = 2) <| jgd (jin y7 (jZ t10.2 (jP t10.2 y0 2)) = true) <| jgd (jK t10.2 (jP (jsL t10.2 (jP t10.2 y0 2) y7.toNatClampNeg t15) y0 1) = 2) <| jgd (jin y7 (jZ t10.2 (jP (jsL t10.2 (jP t10.2 y0 2) y7.toNatClampNeg t15) y0 1)) = true) <| B (jsL (jsL t10.2 (jP t10.2 y0 2) y7.toNatClampNeg t15) (jP (jsL t10.2 (jP t10.2 y0 2) y7.toNatClampNeg t15) y0 1) y7.toNatClampNeg ((Int32.toInt64 y7) + t10.1)) y0 y2 y4 t13 (y7 + (1 : Int32))))
theorem ec_X6_placed_l16_b {X : jX} {l : Launch} {d : Nat} (O : jOk X) (hd : 4 ≤ d) {F : Nat} {m0 m' : jMe} {v : Option jAV} {B : jMe → Nat → Int64 → Int32 → Int64 → Int32 → Option (jMe × Int64)} (hB : ∀ (m : jMe) (y0 : Nat) (y2 : Int64) (y4 : Int32) (y5 : Int64) (y7 : Int32) (r : jMe × Int64), B m y0 y2 y4 y5 y7 = some r → (jS X l d jm_X6_placed m0 v m' (89, [(5, .inr (.inl r.2))], [], r.1)) → jS X l d jm_X6_placed m0 v m' (16, [(0, .inr (.inr y0)), (2, .inr (.inl y2)), (4, .inl y4), (5, .inr (.inl y5)), (7, .inl y7)], [], m)) {m : jMe} {y0 : Nat} {y2 : Int64} {y4 : Int32} {y5 : Int64} {y7 : Int32} {r : jMe × Int64} (H : c_X6_placed_l16_b F B m y0 y2 y4 y5 y7 = some r) (h2 : jS X l d jm_X6_placed m0 v m' (89, [(5, .inr (.inl r.2))], [], r.1)) : jS X l d jm_X6_placed m0 v m' (16, [(0, .inr (.inr y0)), (2, .inr (.inl y2)), (4, .inl y4), (5, .inr (.inl y5)), (7, .inl y7)], [], m) := by
  unfold c_X6_placed_l16_b at H
  refine jS.adv O [(.iload 7, 0, 0, 0, 0, 0, 0), (.iload 4, 0, 0, 0, 0, 0, 0)] (pc' := 20) (ls' := [(0, .inr (.inr y0)), (2, .inr (.inl y2)), (4, .inl y4), (5, .inr (.inl y5)), (7, .inl y7)]) (st' := [.inl y4, .inl y7]) (m2 := m) (by decide +kernel) rfl trivial ?_
  refine jS.br (i := .if_icmp .gt 69) (P := y4 < y7) (rest := []) rfl (by decide +kernel) (tgt := 89) (by decide) (fun c5 => ?_) (fun c5 => ?_)
  · replace H := jif_t c5 H
    replace H := Option.some.inj H
    subst H
    refine jS.loc' [3] (ls' := [(5, .inr (.inl y5))]) rfl ?_
    exact h2
  · replace H := jif_f c5 H
    refine jS.adv O [(.iload 7, 0, 0, 0, 0, 0, 0), (.bipush 8, 0, 0, 0, 0, (8 : Int32), 0)] (pc' := 27) (ls' := [(0, .inr (.inr y0)), (2, .inr (.inl y2)), (4, .inl y4), (5, .inr (.inl y5)), (7, .inl y7)]) (st' := [.inl (8 : Int32), .inl y7]) (m2 := m) (by decide +kernel) rfl trivial ?_
    refine jS.br (i := .if_icmp .ge 62) (P := (8 : Int32) ≤ y7) (rest := []) rfl (by decide +kernel) (tgt := 89) (by decide) (fun c6 => ?_) (fun c6 => ?_)
    · replace H := jif_t c6 H
      replace H := Option.some.inj H
      subst H
      refine jS.loc' [3] (ls' := [(5, .inr (.inl y5))]) rfl ?_
      exact h2
    · replace H := jif_f c6 H
      obtain ⟨w7, H⟩ := jgd_ok H
      obtain ⟨w8, H⟩ := jgd_ok H
      refine jS.adv O [(.iload 7, 0, 0, 0, 0, 0, 0), (.i2l, 0, 0, 0, 0, 0, 0), (.aload_n 0, 0, 0, 0, 0, 0, 0), (.getfield 12, 0, 6, 0, 362, 0, 0), (.lload_n 2, 0, 0, 0, 0, 0, 0), (.iload 7, 0, 0, 0, 0, 0, 0), (.i2l, 0, 0, 0, 0, 0, 0), (.lsub, 0, 0, 0, 0, 0, 0)] (pc' := 42) (ls' := [(0, .inr (.inr y0)), (2, .inr (.inl y2)), (4, .inl y4), (5, .inr (.inl y5)), (7, .inl y7)]) (st' := [.inr (.inl (y2 - (Int32.toInt64 y7))), .inr (.inr (jP m y0 0)), .inr (.inl (Int32.toInt64 y7))]) (m2 := m) (by decide +kernel) rfl ⟨w7, trivial⟩ ?_
      obtain ⟨t10, w9, H⟩ := jb_ok H
      refine jS.step (c' := (45, [(0, .inr (.inr y0)), (2, .inr (.inl y2)), (4, .inl y4), (5, .inr (.inl y5)), (7, .inl y7)], [.inr (.inl t10.1), .inr (.inl (Int32.toInt64 y7))], t10.2)) (jSt.callV (c := 0) (As := [.inr (.inl (y2 - (Int32.toInt64 y7)))]) (rest := [.inr (.inl (Int32.toInt64 y7))]) O (ec_X0_below (d := 3) O (Nat.le_refl _) w9) w8 (by decide) rfl (by omega) jmw_X0_below jmv_X0_below jmn_X0_below (idx := 31) (jW_of 1190 (by decide +kernel) rfl) (Nat.le_of_ble_eq_true rfl) (by decide +kernel)) ?_
      obtain ⟨w11, H⟩ := jgd_ok H
      refine jS.adv O [(.ladd, 0, 0, 0, 0, 0, 0), (.lstore 8, 0, 0, 0, 0, 0, 0), (.aload_n 0, 0, 0, 0, 0, 0, 0), (.lload 8, 0, 0, 0, 0, 0, 0), (.iload 7, 0, 0, 0, 0, 0, 0)] (pc' := 53) (ls' := [(8, .inr (.inl ((Int32.toInt64 y7) + t10.1))), (0, .inr (.inr y0)), (2, .inr (.inl y2)), (4, .inl y4), (5, .inr (.inl y5)), (7, .inl y7)]) (st' := [.inl y7, .inr (.inl ((Int32.toInt64 y7) + t10.1)), .inr (.inr y0)]) (m2 := t10.2) (by decide +kernel) rfl trivial ?_
      obtain ⟨t13, w12, H⟩ := jb_ok H
      refine jS.step (c' := (56, [(8, .inr (.inl ((Int32.toInt64 y7) + t10.1))), (0, .inr (.inr y0)), (2, .inr (.inl y2)), (4, .inl y4), (5, .inr (.inl y5)), (7, .inl y7)], [.inr (.inl t13)], t10.2)) (jSt.callV (c := 6) (As := [.inr (.inl ((Int32.toInt64 y7) + t10.1)), .inl y7]) (rest := []) O (ec_X6_standingAt (d := 2) O (Nat.le_refl _) w12) w11 (by decide) rfl (by omega) jmw_X6_standingAt jmv_X6_standingAt jmn_X6_standingAt (idx := 35) (jW_of 1191 (by decide +kernel) rfl) (Nat.le_of_ble_eq_true rfl) (by decide +kernel)) ?_
      refine jS.adv O [(.lstore 5, 0, 0, 0, 0, 0, 0), (.aload_n 0, 0, 0, 0, 0, 0, 0), (.getfield 22, 0, 6, 2, 364, 0, 0), (.iload 7, 0, 0, 0, 0, 0, 0), (.aload_n 0, 0, 0, 0, 0, 0, 0), (.iload 7, 0, 0, 0, 0, 0, 0), (.i2l, 0, 0, 0, 0, 0, 0), (.iload 7, 0, 0, 0, 0, 0, 0)] (pc' := 70) (ls' := [(5, .inr (.inl t13)), (8, .inr (.inl ((Int32.toInt64 y7) + t10.1))), (0, .inr (.inr y0)), (2, .inr (.inl y2)), (4, .inl y4), (7, .inl y7)]) (st' := [.inl y7, .inr (.inl (Int32.toInt64 y7)), .inr (.inr y0), .inl y7, .inr (.inr (jP t10.2 y0 2))]) (m2 := t10.2) (by decide +kernel) rfl ⟨w11, trivial⟩ ?_
      obtain ⟨t15, w14, H⟩ := jb_ok H
      refine jS.step (c' := (73, [(5, .inr (.inl t13)), (8, .inr (.inl ((Int32.toInt64 y7) + t10.1))), (0, .inr (.inr y0)), (2, .inr (.inl y2)), (4, .inl y4), (7, .inl y7)], [.inr (.inl t15), .inl y7, .inr (.inr (jP t10.2 y0 2))], t10.2)) (jSt.callV (c := 6) (As := [.inr (.inl (Int32.toInt64 y7)), .inl y7]) (rest := [.inl y7, .inr (.inr (jP t10.2 y0 2))]) O (ec_X6_standingAt (d := 2) O (Nat.le_refl _) w14) w11 (by decide) rfl (by omega) jmw_X6_standingAt jmv_X6_standingAt jmn_X6_standingAt (idx := 35) (jW_of 1191 (by decide +kernel) rfl) (Nat.le_of_ble_eq_true rfl) (by decide +kernel)) ?_
      obtain ⟨w16, H⟩ := jgd_ok H
      obtain ⟨w17, H⟩ := jgd_ok H
      obtain ⟨w18, H⟩ := jgd_ok H
      obtain ⟨w19, H⟩ := jgd_ok H
      refine jS.adv O [(.lastore, 0, 0, 0, 0, 0, 0), (.aload_n 0, 0, 0, 0, 0, 0, 0), (.getfield 18, 0, 6, 1, 363, 0, 0), (.iload 7, 0, 0, 0, 0, 0, 0), (.lload 8, 0, 0, 0, 0, 0, 0), (.lastore, 0, 0, 0, 0, 0, 0), (.iinc 7 1, 0, 0, 0, 0, (1 : Int32), 0), (.goto (-70), 0, 16, 0, 0, 0, 0)] (pc' := 16) (ls' := [(7, .inl (y7 + (1 : Int32))), (5, .inr (.inl t13)), (8, .inr (.inl ((Int32.toInt64 y7) + t10.1))), (0, .inr (.inr y0)), (2, .inr (.inl y2)), (4, .inl y4)]) (st' := []) (m2 := (jsL (jsL t10.2 (jP t10.2 y0 2) y7.toNatClampNeg t15) (jP (jsL t10.2 (jP t10.2 y0 2) y7.toNatClampNeg t15) y0 1) y7.toNatClampNeg ((Int32.toInt64 y7) + t10.1))) (by decide +kernel) rfl ⟨⟨w16, jib_ok w17⟩, w11, ⟨w18, jib_ok w19⟩, trivial⟩ ?_
      refine jS.loc' [3, 4, 5, 1, 0] (ls' := [(0, .inr (.inr y0)), (2, .inr (.inl y2)), (4, .inl y4), (5, .inr (.inl t13)), (7, .inl (y7 + (1 : Int32)))]) rfl ?_
      exact hB _ _ _ _ _ _ _ H h2
def c_X6_placed_l16 (F : Nat) : Nat → jMe → Nat → Int64 → Int32 → Int64 → Int32 → Option (jMe × Int64)
  | 0, _, _, _, _, _, _ => none
  | n + 1, m, y0, y2, y4, y5, y7 => c_X6_placed_l16_b F (fun m y0 y2 y4 y5 y7 => c_X6_placed_l16 F n m y0 y2 y4 y5 y7) m y0 y2 y4 y5 y7
theorem ec_X6_placed_l16 {X : jX} {l : Launch} {d : Nat} (O : jOk X) (hd : 4 ≤ d) {F : Nat} {m0 m' : jMe} {v : Option jAV} : ∀ (n : Nat) {m : jMe} {y0 : Nat} {y2 : Int64} {y4 : Int32} {y5 : Int64} {y7 : Int32} {r : jMe × Int64} (H : c_X6_placed_l16 F n m y0 y2 y4 y5 y7 = some r) (h2 : jS X l d jm_X6_placed m0 v m' (89, [(5, .inr (.inl r.2))], [], r.1)), jS X l d jm_X6_placed m0 v m' (16, [(0, .inr (.inr y0)), (2, .inr (.inl y2)), (4, .inl y4), (5, .inr (.inl y5)), (7, .inl y7)], [], m) := by
  intro n
  induction n with
  | zero =>
    intro m y0 y2 y4 y5 y7 r H h2
    cases (show none = some r from H)
  | succ n ih =>
    intro m y0 y2 y4 y5 y7 r H h2
    exact ec_X6_placed_l16_b O hd (B := (fun m y0 y2 y4 y5 y7 => c_X6_placed_l16 F n m y0 y2 y4 y5 y7)) (fun m y0 y2 y4 y5 y7 r H h2 => ih H h2) H h2
def c_X6_placed (F : Nat) (m : jMe) (x0 : Nat) (x1 : Int32) (x2 : Int64) (x4 : Int32) : Option (Int64 × jMe) :=
  jgd (jK m x0 = 38) <| jgd (jK m (jP m x0 0) = 32) <| jb (c_X0_begin F m (jP m x0 0) x1) fun t4 => jb (c_X6_placed_l16 F F t4 x0 x2 x4 (-4611686018427387904 : Int64) (0 : Int32)) fun e21 => some (e21.2, e21.1)
theorem ec_X6_placed {X : jX} {l : Launch} {d : Nat} (O : jOk X) (hd : 4 ≤ d) {F : Nat} {m : jMe} {x0 : Nat} {x1 : Int32} {x2 : Int64} {x4 : Int32} {r : Int64 × jMe} (H : c_X6_placed F m x0 x1 x2 x4 = some r) : jH X l d jm_X6_placed [.inr (.inr x0), .inl x1, .inr (.inl x2), .inl x4] m (some (.inr (.inl r.1))) r.2 := by
  refine jH.of jpl_RX6 rfl (Nat.le_of_ble_eq_true rfl) ?_
  show jS X l d jm_X6_placed m _ _ (0, [(0, .inr (.inr x0)), (1, .inl x1), (2, .inr (.inl x2)), (4, .inl x4)], [], m)
  unfold c_X6_placed at H
  obtain ⟨w1, H⟩ := jgd_ok H
  obtain ⟨w2, H⟩ := jgd_ok H
  refine jS.adv O [(.aload_n 0, 0, 0, 0, 0, 0, 0), (.getfield 12, 0, 6, 0, 362, 0, 0), (.iload_n 1, 0, 0, 0, 0, 0, 0)] (pc' := 5) (ls' := [(0, .inr (.inr x0)), (1, .inl x1), (2, .inr (.inl x2)), (4, .inl x4)]) (st' := [.inl x1, .inr (.inr (jP m x0 0))]) (m2 := m) (by decide +kernel) rfl ⟨w1, trivial⟩ ?_
  obtain ⟨t4, w3, H⟩ := jb_ok H
  refine jS.step (c' := (8, [(0, .inr (.inr x0)), (1, .inl x1), (2, .inr (.inl x2)), (4, .inl x4)], [], t4)) (jSt.callV (c := 0) (As := [.inl x1]) (rest := []) O (ec_X0_begin (d := 2) O (Nat.le_refl _) w3) w2 (by decide) rfl (by omega) jmw_X0_begin jmv_X0_begin jmn_X0_begin (idx := 25) (jW_of 1188 (by decide +kernel) rfl) (Nat.le_of_ble_eq_true rfl) (by decide +kernel)) ?_
  refine jS.adv O [(.ldc2_w 29, 0, 1189, 0, 0, 0, (-4611686018427387904 : Int64)), (.lstore 5, 0, 0, 0, 0, 0, 0), (.iconst 0, 0, 0, 0, 0, (0 : Int32), 0), (.istore 7, 0, 0, 0, 0, 0, 0)] (pc' := 16) (ls' := [(7, .inl (0 : Int32)), (5, .inr (.inl (-4611686018427387904 : Int64))), (0, .inr (.inr x0)), (1, .inl x1), (2, .inr (.inl x2)), (4, .inl x4)]) (st' := []) (m2 := t4) (by decide +kernel) rfl trivial ?_
  refine jS.loc' [2, 4, 5, 1, 0] (ls' := [(0, .inr (.inr x0)), (2, .inr (.inl x2)), (4, .inl x4), (5, .inr (.inl (-4611686018427387904 : Int64))), (7, .inl (0 : Int32))]) rfl ?_
  obtain ⟨e21, w22, H⟩ := jb_ok H
  refine ec_X6_placed_l16 O hd F w22 ?_
  refine jS.adv O [(.lload 5, 0, 0, 0, 0, 0, 0)] (pc' := 91) (ls' := [(5, .inr (.inl e21.2))]) (st' := [.inr (.inl e21.2)]) (m2 := e21.1) (by decide +kernel) rfl trivial ?_
  replace H := Option.some.inj H
  subst H
  exact jS.lret rfl (by decide +kernel)
def c_X9_isPart (F : Nat) (m : jMe) (x0 : Int32) : Option (Int32) :=
  (if x0 = 0 then some (1 : Int32) else (if x0 = (1 : Int32) then some (1 : Int32) else some (0 : Int32)))
theorem ec_X9_isPart {X : jX} {l : Launch} {d : Nat} (O : jOk X) (hd : 2 ≤ d) {F : Nat} {m : jMe} {x0 : Int32} {r : Int32} (H : c_X9_isPart F m x0 = some r) : jH X l d jm_X9_isPart [.inl x0] m (some (.inl r)) m := by
  refine jH.of jpl_RX9 rfl (Nat.le_of_ble_eq_true rfl) ?_
  show jS X l d jm_X9_isPart m _ _ (0, [(0, .inl x0)], [], m)
  unfold c_X9_isPart at H
  refine jS.adv O [(.iload_n 0, 0, 0, 0, 0, 0, 0)] (pc' := 1) (ls' := [(0, .inl x0)]) (st' := [.inl x0]) (m2 := m) (by decide +kernel) rfl trivial ?_
  refine jS.br (i := .ifCond .eq 8) (P := x0 = 0) (rest := []) rfl (by decide +kernel) (tgt := 9) (by decide) (fun c1 => ?_) (fun c1 => ?_)
  · replace H := jif_t c1 H
    refine jS.adv O [(.iconst 1, 0, 0, 0, 0, (1 : Int32), 0), (.goto 4, 0, 14, 0, 0, 0, 0)] (pc' := 14) (ls' := [(0, .inl x0)]) (st' := [.inl (1 : Int32)]) (m2 := m) (by decide +kernel) rfl trivial ?_
    replace H := Option.some.inj H
    subst H
    exact jS.zret rfl (Or.inr rfl) (by decide +kernel)
  · replace H := jif_f c1 H
    refine jS.adv O [(.iload_n 0, 0, 0, 0, 0, 0, 0), (.iconst 1, 0, 0, 0, 0, (1 : Int32), 0)] (pc' := 6) (ls' := [(0, .inl x0)]) (st' := [.inl (1 : Int32), .inl x0]) (m2 := m) (by decide +kernel) rfl trivial ?_
    refine jS.br (i := .if_icmp .ne 7) (P := ¬ x0 = (1 : Int32)) (rest := []) rfl (by decide +kernel) (tgt := 13) (by decide) (fun c2 => ?_) (fun c2 => ?_)
    · replace H := jif_f c2 H
      refine jS.adv O [(.iconst 0, 0, 0, 0, 0, (0 : Int32), 0)] (pc' := 14) (ls' := [(0, .inl x0)]) (st' := [.inl (0 : Int32)]) (m2 := m) (by decide +kernel) rfl trivial ?_
      replace H := Option.some.inj H
      subst H
      exact jS.zret rfl (Or.inl rfl) (by decide +kernel)
    · replace H := jif_t (Classical.not_not.mp c2) H
      refine jS.adv O [(.iconst 1, 0, 0, 0, 0, (1 : Int32), 0), (.goto 4, 0, 14, 0, 0, 0, 0)] (pc' := 14) (ls' := [(0, .inl x0)]) (st' := [.inl (1 : Int32)]) (m2 := m) (by decide +kernel) rfl trivial ?_
      replace H := Option.some.inj H
      subst H
      exact jS.zret rfl (Or.inr rfl) (by decide +kernel)
def c_X9_commonOf_l9_b (F : Nat) (B : Int64 → Int64 → Int32 → Option (Int64)) (m : jMe) (y4 : Int64) (y6 : Int64) (y8 : Int32) : Option (Int64) :=
  (if (200 : Int32) ≤ y8 then some (y4) else (if (lg_cmp y6 (0 : Int64)) = 0 then some (y4) else jgd (¬ y6 = 0) <| B y6 (jlrem y4 y6) (y8 + (1 : Int32))))
theorem ec_X9_commonOf_l9_b {X : jX} {l : Launch} {d : Nat} (O : jOk X) (hd : 2 ≤ d) {F : Nat} {m0 m' : jMe} {v : Option jAV} {m : jMe} {B : Int64 → Int64 → Int32 → Option (Int64)} (hB : ∀ (y4 : Int64) (y6 : Int64) (y8 : Int32) (r : Int64), B y4 y6 y8 = some r → (jS X l d jm_X9_commonOf m0 v m' (45, [(4, .inr (.inl r))], [], m)) → jS X l d jm_X9_commonOf m0 v m' (9, [(4, .inr (.inl y4)), (6, .inr (.inl y6)), (8, .inl y8)], [], m)) {y4 : Int64} {y6 : Int64} {y8 : Int32} {r : Int64} (H : c_X9_commonOf_l9_b F B m y4 y6 y8 = some r) (h2 : jS X l d jm_X9_commonOf m0 v m' (45, [(4, .inr (.inl r))], [], m)) : jS X l d jm_X9_commonOf m0 v m' (9, [(4, .inr (.inl y4)), (6, .inr (.inl y6)), (8, .inl y8)], [], m) := by
  unfold c_X9_commonOf_l9_b at H
  refine jS.adv O [(.iload 8, 0, 0, 0, 0, 0, 0), (.sipush 200, 0, 0, 0, 0, (200 : Int32), 0)] (pc' := 14) (ls' := [(4, .inr (.inl y4)), (6, .inr (.inl y6)), (8, .inl y8)]) (st' := [.inl (200 : Int32), .inl y8]) (m2 := m) (by decide +kernel) rfl trivial ?_
  refine jS.br (i := .if_icmp .ge 31) (P := (200 : Int32) ≤ y8) (rest := []) rfl (by decide +kernel) (tgt := 45) (by decide) (fun c1 => ?_) (fun c1 => ?_)
  · replace H := jif_t c1 H
    replace H := Option.some.inj H
    subst H
    refine jS.loc' [0] (ls' := [(4, .inr (.inl y4))]) rfl ?_
    exact h2
  · replace H := jif_f c1 H
    refine jS.adv O [(.lload 6, 0, 0, 0, 0, 0, 0), (.lconst 0, 0, 0, 0, 0, 0, (0 : Int64)), (.lcmp, 0, 0, 0, 0, 0, 0)] (pc' := 21) (ls' := [(4, .inr (.inl y4)), (6, .inr (.inl y6)), (8, .inl y8)]) (st' := [.inl (lg_cmp y6 (0 : Int64))]) (m2 := m) (by decide +kernel) rfl trivial ?_
    refine jS.br (i := .ifCond .eq 24) (P := (lg_cmp y6 (0 : Int64)) = 0) (rest := []) rfl (by decide +kernel) (tgt := 45) (by decide) (fun c2 => ?_) (fun c2 => ?_)
    · replace H := jif_t c2 H
      replace H := Option.some.inj H
      subst H
      refine jS.loc' [0] (ls' := [(4, .inr (.inl y4))]) rfl ?_
      exact h2
    · replace H := jif_f c2 H
      obtain ⟨w3, H⟩ := jgd_ok H
      refine jS.adv O [(.lload 4, 0, 0, 0, 0, 0, 0), (.lload 6, 0, 0, 0, 0, 0, 0), (.lrem, 0, 0, 0, 0, 0, 0), (.lstore 9, 0, 0, 0, 0, 0, 0), (.lload 6, 0, 0, 0, 0, 0, 0), (.lstore 4, 0, 0, 0, 0, 0, 0), (.lload 9, 0, 0, 0, 0, 0, 0), (.lstore 6, 0, 0, 0, 0, 0, 0), (.iinc 8 1, 0, 0, 0, 0, (1 : Int32), 0), (.goto (-33), 0, 9, 0, 0, 0, 0)] (pc' := 9) (ls' := [(8, .inl (y8 + (1 : Int32))), (6, .inr (.inl (jlrem y4 y6))), (4, .inr (.inl y6)), (9, .inr (.inl (jlrem y4 y6)))]) (st' := []) (m2 := m) (by decide +kernel) rfl ⟨w3, trivial⟩ ?_
      refine jS.loc' [2, 1, 0] (ls' := [(4, .inr (.inl y6)), (6, .inr (.inl (jlrem y4 y6))), (8, .inl (y8 + (1 : Int32)))]) rfl ?_
      exact hB _ _ _ _ H h2
def c_X9_commonOf_l9 (F : Nat) (m : jMe) : Nat → Int64 → Int64 → Int32 → Option (Int64)
  | 0, _, _, _ => none
  | n + 1, y4, y6, y8 => c_X9_commonOf_l9_b F (fun y4 y6 y8 => c_X9_commonOf_l9 F m n y4 y6 y8) m y4 y6 y8
theorem ec_X9_commonOf_l9 {X : jX} {l : Launch} {d : Nat} (O : jOk X) (hd : 2 ≤ d) {F : Nat} {m0 m' : jMe} {v : Option jAV} {m : jMe} : ∀ (n : Nat) {y4 : Int64} {y6 : Int64} {y8 : Int32} {r : Int64} (H : c_X9_commonOf_l9 F m n y4 y6 y8 = some r) (h2 : jS X l d jm_X9_commonOf m0 v m' (45, [(4, .inr (.inl r))], [], m)), jS X l d jm_X9_commonOf m0 v m' (9, [(4, .inr (.inl y4)), (6, .inr (.inl y6)), (8, .inl y8)], [], m) := by
  intro n
  induction n with
  | zero =>
    intro y4 y6 y8 r H h2
    cases (show none = some r from H)
  | succ n ih =>
    intro y4 y6 y8 r H h2
    exact ec_X9_commonOf_l9_b O hd (B := (fun y4 y6 y8 => c_X9_commonOf_l9 F m n y4 y6 y8)) (fun y4 y6 y8 r H h2 => ih H h2) H h2
def c_X9_commonOf (F : Nat) (m : jMe) (x0 : Int64) (x2 : Int64) : Option (Int64) :=
  jb (c_X9_commonOf_l9 F m F x0 x2 (0 : Int32)) fun e5 => some e5
theorem ec_X9_commonOf {X : jX} {l : Launch} {d : Nat} (O : jOk X) (hd : 2 ≤ d) {F : Nat} {m : jMe} {x0 : Int64} {x2 : Int64} {r : Int64} (H : c_X9_commonOf F m x0 x2 = some r) : jH X l d jm_X9_commonOf [.inr (.inl x0), .inr (.inl x2)] m (some (.inr (.inl r))) m := by
  refine jH.of jpl_RX9 rfl (Nat.le_of_ble_eq_true rfl) ?_
  show jS X l d jm_X9_commonOf m _ _ (0, [(0, .inr (.inl x0)), (2, .inr (.inl x2))], [], m)
  unfold c_X9_commonOf at H
  refine jS.adv O [(.lload_n 0, 0, 0, 0, 0, 0, 0), (.lstore 4, 0, 0, 0, 0, 0, 0), (.lload_n 2, 0, 0, 0, 0, 0, 0), (.lstore 6, 0, 0, 0, 0, 0, 0), (.iconst 0, 0, 0, 0, 0, (0 : Int32), 0), (.istore 8, 0, 0, 0, 0, 0, 0)] (pc' := 9) (ls' := [(8, .inl (0 : Int32)), (6, .inr (.inl x2)), (4, .inr (.inl x0)), (0, .inr (.inl x0)), (2, .inr (.inl x2))]) (st' := []) (m2 := m) (by decide +kernel) rfl trivial ?_
  refine jS.loc' [2, 1, 0] (ls' := [(4, .inr (.inl x0)), (6, .inr (.inl x2)), (8, .inl (0 : Int32))]) rfl ?_
  obtain ⟨e5, w6, H⟩ := jb_ok H
  refine ec_X9_commonOf_l9 O hd F w6 ?_
  refine jS.adv O [(.lload 4, 0, 0, 0, 0, 0, 0)] (pc' := 47) (ls' := [(4, .inr (.inl e5))]) (st' := [.inr (.inl e5)]) (m2 := m) (by decide +kernel) rfl trivial ?_
  replace H := Option.some.inj H
  subst H
  exact jS.lret rfl (by decide +kernel)
def c_X9_partOf_j17 (F : Nat) (m : jMe) (y5 : Int64) (s0 : Int64) : Option (Int64) :=
  (if (lg_cmp y5 (0 : Int64)) = 0 then some s0 else jgd (¬ y5 = 0) <| some (s0 / y5))
theorem ec_X9_partOf_j17 {X : jX} {l : Launch} {d : Nat} (O : jOk X) (hd : 3 ≤ d) {F : Nat} {m0 m : jMe} {y5 : Int64} {s0 : Int64} {r : Int64} (H : c_X9_partOf_j17 F m y5 s0 = some r) : jS X l d jm_X9_partOf m0 (some (.inr (.inl r))) m (17, [(5, .inr (.inl y5))], [.inr (.inl s0)], m) := by
  unfold c_X9_partOf_j17 at H
  refine jS.adv O [(.lstore 7, 0, 0, 0, 0, 0, 0), (.lload 5, 0, 0, 0, 0, 0, 0), (.lconst 0, 0, 0, 0, 0, 0, (0 : Int64)), (.lcmp, 0, 0, 0, 0, 0, 0)] (pc' := 23) (ls' := [(7, .inr (.inl s0)), (5, .inr (.inl y5))]) (st' := [.inl (lg_cmp y5 (0 : Int64))]) (m2 := m) (by decide +kernel) rfl trivial ?_
  refine jS.br (i := .ifCond .ne 8) (P := ¬ (lg_cmp y5 (0 : Int64)) = 0) (rest := []) rfl (by decide +kernel) (tgt := 31) (by decide) (fun c4 => ?_) (fun c4 => ?_)
  · replace H := jif_f c4 H
    obtain ⟨w5, H⟩ := jgd_ok H
    refine jS.adv O [(.lload 7, 0, 0, 0, 0, 0, 0), (.lload 5, 0, 0, 0, 0, 0, 0), (.ldiv, 0, 0, 0, 0, 0, 0)] (pc' := 36) (ls' := [(7, .inr (.inl s0)), (5, .inr (.inl y5))]) (st' := [.inr (.inl (s0 / y5))]) (m2 := m) (by decide +kernel) rfl ⟨w5, trivial⟩ ?_
    replace H := Option.some.inj H
    subst H
    exact jS.lret rfl (by decide +kernel)
  · replace H := jif_t (Classical.not_not.mp c4) H
    refine jS.adv O [(.lload 7, 0, 0, 0, 0, 0, 0), (.goto 8, 0, 36, 0, 0, 0, 0)] (pc' := 36) (ls' := [(7, .inr (.inl s0)), (5, .inr (.inl y5))]) (st' := [.inr (.inl s0)]) (m2 := m) (by decide +kernel) rfl trivial ?_
    replace H := Option.some.inj H
    subst H
    exact jS.lret rfl (by decide +kernel)
def c_X9_partOf (F : Nat) (m : jMe) (x0 : Int64) (x2 : Int64) (x4 : Int32) : Option (Int64) :=
  jb (c_X9_commonOf F m x0 x2) fun t2 => (if x4 = 0 then c_X9_partOf_j17 F m t2 x0 else c_X9_partOf_j17 F m t2 x2)
theorem ec_X9_partOf {X : jX} {l : Launch} {d : Nat} (O : jOk X) (hd : 3 ≤ d) {F : Nat} {m : jMe} {x0 : Int64} {x2 : Int64} {x4 : Int32} {r : Int64} (H : c_X9_partOf F m x0 x2 x4 = some r) : jH X l d jm_X9_partOf [.inr (.inl x0), .inr (.inl x2), .inl x4] m (some (.inr (.inl r))) m := by
  refine jH.of jpl_RX9 rfl (Nat.le_of_ble_eq_true rfl) ?_
  show jS X l d jm_X9_partOf m _ _ (0, [(0, .inr (.inl x0)), (2, .inr (.inl x2)), (4, .inl x4)], [], m)
  unfold c_X9_partOf at H
  refine jS.adv O [(.lload_n 0, 0, 0, 0, 0, 0, 0), (.lload_n 2, 0, 0, 0, 0, 0, 0)] (pc' := 2) (ls' := [(0, .inr (.inl x0)), (2, .inr (.inl x2)), (4, .inl x4)]) (st' := [.inr (.inl x2), .inr (.inl x0)]) (m2 := m) (by decide +kernel) rfl trivial ?_
  obtain ⟨t2, w1, H⟩ := jb_ok H
  refine jS.step (c' := (5, [(0, .inr (.inl x0)), (2, .inr (.inl x2)), (4, .inl x4)], [.inr (.inl t2)], m)) (jSt.callS (As := [.inr (.inl x0), .inr (.inl x2)]) (rest := []) O (ec_X9_commonOf (d := 2) O (Nat.le_refl _) w1) (by omega) jmw_X9_commonOf jmv_X9_commonOf jmn_X9_commonOf (idx := 370) (jW_of 1205 (by decide +kernel) rfl) (Nat.le_of_ble_eq_true rfl) (by decide +kernel)) ?_
  refine jS.adv O [(.lstore 5, 0, 0, 0, 0, 0, 0), (.iload 4, 0, 0, 0, 0, 0, 0)] (pc' := 9) (ls' := [(5, .inr (.inl t2)), (0, .inr (.inl x0)), (2, .inr (.inl x2)), (4, .inl x4)]) (st' := [.inl x4]) (m2 := m) (by decide +kernel) rfl trivial ?_
  refine jS.br (i := .ifCond .ne 7) (P := ¬ x4 = 0) (rest := []) rfl (by decide +kernel) (tgt := 16) (by decide) (fun c3 => ?_) (fun c3 => ?_)
  · replace H := jif_f c3 H
    refine jS.adv O [(.lload_n 2, 0, 0, 0, 0, 0, 0)] (pc' := 17) (ls' := [(5, .inr (.inl t2)), (0, .inr (.inl x0)), (2, .inr (.inl x2)), (4, .inl x4)]) (st' := [.inr (.inl x2)]) (m2 := m) (by decide +kernel) rfl trivial ?_
    refine jS.loc' [0] (ls' := [(5, .inr (.inl t2))]) rfl ?_
    exact ec_X9_partOf_j17 O hd H
  · replace H := jif_t (Classical.not_not.mp c3) H
    refine jS.adv O [(.lload_n 0, 0, 0, 0, 0, 0, 0), (.goto 4, 0, 17, 0, 0, 0, 0)] (pc' := 17) (ls' := [(5, .inr (.inl t2)), (0, .inr (.inl x0)), (2, .inr (.inl x2)), (4, .inl x4)]) (st' := [.inr (.inl x0)]) (m2 := m) (by decide +kernel) rfl trivial ?_
    refine jS.loc' [0] (ls' := [(5, .inr (.inl t2))]) rfl ?_
    exact ec_X9_partOf_j17 O hd H
def c_X9_isSheet (F : Nat) (m : jMe) (x0 : Int32) : Option (Int32) :=
  (if x0 < 0 then some (0 : Int32) else (if (4 : Int32) ≤ x0 then some (0 : Int32) else some (1 : Int32)))
theorem ec_X9_isSheet {X : jX} {l : Launch} {d : Nat} (O : jOk X) (hd : 2 ≤ d) {F : Nat} {m : jMe} {x0 : Int32} {r : Int32} (H : c_X9_isSheet F m x0 = some r) : jH X l d jm_X9_isSheet [.inl x0] m (some (.inl r)) m := by
  refine jH.of jpl_RX9 rfl (Nat.le_of_ble_eq_true rfl) ?_
  show jS X l d jm_X9_isSheet m _ _ (0, [(0, .inl x0)], [], m)
  unfold c_X9_isSheet at H
  refine jS.adv O [(.iload_n 0, 0, 0, 0, 0, 0, 0)] (pc' := 1) (ls' := [(0, .inl x0)]) (st' := [.inl x0]) (m2 := m) (by decide +kernel) rfl trivial ?_
  refine jS.br (i := .ifCond .lt 12) (P := x0 < 0) (rest := []) rfl (by decide +kernel) (tgt := 13) (by decide) (fun c1 => ?_) (fun c1 => ?_)
  · replace H := jif_t c1 H
    refine jS.adv O [(.iconst 0, 0, 0, 0, 0, (0 : Int32), 0)] (pc' := 14) (ls' := [(0, .inl x0)]) (st' := [.inl (0 : Int32)]) (m2 := m) (by decide +kernel) rfl trivial ?_
    replace H := Option.some.inj H
    subst H
    exact jS.zret rfl (Or.inl rfl) (by decide +kernel)
  · replace H := jif_f c1 H
    refine jS.adv O [(.iload_n 0, 0, 0, 0, 0, 0, 0), (.iconst 4, 0, 0, 0, 0, (4 : Int32), 0)] (pc' := 6) (ls' := [(0, .inl x0)]) (st' := [.inl (4 : Int32), .inl x0]) (m2 := m) (by decide +kernel) rfl trivial ?_
    refine jS.br (i := .if_icmp .ge 7) (P := (4 : Int32) ≤ x0) (rest := []) rfl (by decide +kernel) (tgt := 13) (by decide) (fun c2 => ?_) (fun c2 => ?_)
    · replace H := jif_t c2 H
      refine jS.adv O [(.iconst 0, 0, 0, 0, 0, (0 : Int32), 0)] (pc' := 14) (ls' := [(0, .inl x0)]) (st' := [.inl (0 : Int32)]) (m2 := m) (by decide +kernel) rfl trivial ?_
      replace H := Option.some.inj H
      subst H
      exact jS.zret rfl (Or.inl rfl) (by decide +kernel)
    · replace H := jif_f c2 H
      refine jS.adv O [(.iconst 1, 0, 0, 0, 0, (1 : Int32), 0), (.goto 4, 0, 14, 0, 0, 0, 0)] (pc' := 14) (ls' := [(0, .inl x0)]) (st' := [.inl (1 : Int32)]) (m2 := m) (by decide +kernel) rfl trivial ?_
      replace H := Option.some.inj H
      subst H
      exact jS.zret rfl (Or.inr rfl) (by decide +kernel)
