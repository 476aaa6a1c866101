/-! the JDK's own methods, as functions -/
def c_J6_bitCount_0f7a4 (F : Nat) (m : jMe) (x0 : Int32) : Option (Int32) :=
  jlet (((x0 - ((jushr x0 (1 : Int32)) &&& (1431655765 : Int32))) &&& (858993459 : Int32)) + ((jushr (x0 - ((jushr x0 (1 : Int32)) &&& (1431655765 : Int32))) (2 : Int32)) &&& (858993459 : Int32))) fun v1 => jlet (((v1 + (jushr v1 (4 : Int32))) &&& (252645135 : Int32)) + (jushr ((v1 + (jushr v1 (4 : Int32))) &&& (252645135 : Int32)) (8 : Int32))) fun v2 => some ((v2 + (jushr v2 (16 : Int32))) &&& (63 : Int32))
theorem ec_J6_bitCount_0f7a4 {X : jX} {l : Launch} {d : Nat} (O : jOk X) (hd : 2 ≤ d) {F : Nat} {m : jMe} {x0 : Int32} {r : Int32} (H : c_J6_bitCount_0f7a4 F m x0 = some r) : jH X l d jm_J6_bitCount_0f7a4 [.inl x0] m (some (.inl r)) m := by
  refine jH.of jpl_RJ6 rfl (Nat.le_of_ble_eq_true rfl) ?_
  show jS X l d jm_J6_bitCount_0f7a4 m _ _ (0, [(0, .inl x0)], [], m)
  unfold c_J6_bitCount_0f7a4 at H
  obtain ⟨v1, ev1, H⟩ := jlet_ok H
  refine jS.adv O [(.iload_n 0, 0, 0, 0, 0, 0, 0), (.iload_n 0, 0, 0, 0, 0, 0, 0), (.iconst 1, 0, 0, 0, 0, (1 : Int32), 0), (.iushr, 0, 0, 0, 0, 0, 0), (.ldc_w 265, 0, 634, 0, 0, (1431655765 : Int32), 0), (.iand, 0, 0, 0, 0, 0, 0), (.isub, 0, 0, 0, 0, 0, 0), (.istore_n 0, 0, 0, 0, 0, 0, 0), (.iload_n 0, 0, 0, 0, 0, 0, 0), (.ldc_w 266, 0, 635, 0, 0, (858993459 : Int32), 0), (.iand, 0, 0, 0, 0, 0, 0), (.iload_n 0, 0, 0, 0, 0, 0, 0), (.iconst 2, 0, 0, 0, 0, (2 : Int32), 0), (.iushr, 0, 0, 0, 0, 0, 0), (.ldc_w 266, 0, 635, 0, 0, (858993459 : Int32), 0), (.iand, 0, 0, 0, 0, 0, 0), (.iadd, 0, 0, 0, 0, 0, 0), (.istore_n 0, 0, 0, 0, 0, 0, 0)] (pc' := 24) (ls' := [(0, .inl (((x0 - ((jushr x0 (1 : Int32)) &&& (1431655765 : Int32))) &&& (858993459 : Int32)) + ((jushr (x0 - ((jushr x0 (1 : Int32)) &&& (1431655765 : Int32))) (2 : Int32)) &&& (858993459 : Int32))))]) (st' := []) (m2 := m) (by decide +kernel) rfl trivial ?_
  refine jS.cast (c' := (24, [(0, .inl v1)], [], m)) (by rw [ev1]) ?_
  obtain ⟨v2, ev2, H⟩ := jlet_ok H
  refine jS.adv O [(.iload_n 0, 0, 0, 0, 0, 0, 0), (.iload_n 0, 0, 0, 0, 0, 0, 0), (.iconst 4, 0, 0, 0, 0, (4 : Int32), 0), (.iushr, 0, 0, 0, 0, 0, 0), (.iadd, 0, 0, 0, 0, 0, 0), (.ldc_w 267, 0, 636, 0, 0, (252645135 : Int32), 0), (.iand, 0, 0, 0, 0, 0, 0), (.istore_n 0, 0, 0, 0, 0, 0, 0), (.iload_n 0, 0, 0, 0, 0, 0, 0), (.iload_n 0, 0, 0, 0, 0, 0, 0), (.bipush 8, 0, 0, 0, 0, (8 : Int32), 0), (.iushr, 0, 0, 0, 0, 0, 0), (.iadd, 0, 0, 0, 0, 0, 0), (.istore_n 0, 0, 0, 0, 0, 0, 0)] (pc' := 41) (ls' := [(0, .inl (((v1 + (jushr v1 (4 : Int32))) &&& (252645135 : Int32)) + (jushr ((v1 + (jushr v1 (4 : Int32))) &&& (252645135 : Int32)) (8 : Int32))))]) (st' := []) (m2 := m) (by decide +kernel) rfl trivial ?_
  refine jS.cast (c' := (41, [(0, .inl v2)], [], m)) (by rw [ev2]) ?_
  refine jS.adv O [(.iload_n 0, 0, 0, 0, 0, 0, 0), (.iload_n 0, 0, 0, 0, 0, 0, 0), (.bipush 16, 0, 0, 0, 0, (16 : Int32), 0), (.iushr, 0, 0, 0, 0, 0, 0), (.iadd, 0, 0, 0, 0, 0, 0), (.istore_n 0, 0, 0, 0, 0, 0, 0), (.iload_n 0, 0, 0, 0, 0, 0, 0), (.bipush 63, 0, 0, 0, 0, (63 : Int32), 0), (.iand, 0, 0, 0, 0, 0, 0)] (pc' := 52) (ls' := [(0, .inl (v2 + (jushr v2 (16 : Int32))))]) (st' := [.inl ((v2 + (jushr v2 (16 : Int32))) &&& (63 : Int32))]) (m2 := m) (by decide +kernel) rfl trivial ?_
  replace H := Option.some.inj H
  subst H
  exact jS.iret rfl (by decide +kernel)
def c_J7_fill_53178_l5_b (F : Nat) (B : jMe → Nat → Int32 → Int32 → Int32 → Option (jMe)) (m : jMe) (y0 : Nat) (y1 : Int32) (y2 : Int32) (y3 : Int32) : Option (jMe) :=
  (if y3 ≤ y2 then some (m) else jgd (jK m y0 = 1) <| jgd (jin y2 (jZ m y0) = true) <| B (jsI m y0 y2.toNatClampNeg y1) y0 y1 (y2 + (1 : Int32)) y3)
theorem ec_J7_fill_53178_l5_b {X : jX} {l : Launch} {d : Nat} (O : jOk X) (hd : 2 ≤ d) {F : Nat} {m0 m' : jMe} {v : Option jAV} {B : jMe → Nat → Int32 → Int32 → Int32 → Option (jMe)} (hB : ∀ (m : jMe) (y0 : Nat) (y1 : Int32) (y2 : Int32) (y3 : Int32) (r : jMe), B m y0 y1 y2 y3 = some r → (jS X l d jm_J7_fill_53178 m0 v m' (20, [], [], r)) → jS X l d jm_J7_fill_53178 m0 v m' (5, [(0, .inr (.inr y0)), (1, .inl y1), (2, .inl y2), (3, .inl y3)], [], m)) {m : jMe} {y0 : Nat} {y1 : Int32} {y2 : Int32} {y3 : Int32} {r : jMe} (H : c_J7_fill_53178_l5_b F B m y0 y1 y2 y3 = some r) (h2 : jS X l d jm_J7_fill_53178 m0 v m' (20, [], [], r)) : jS X l d jm_J7_fill_53178 m0 v m' (5, [(0, .inr (.inr y0)), (1, .inl y1), (2, .inl y2), (3, .inl y3)], [], m) := by
  unfold c_J7_fill_53178_l5_b at H
  refine jS.adv O [(.iload_n 2, 0, 0, 0, 0, 0, 0), (.iload_n 3, 0, 0, 0, 0, 0, 0)] (pc' := 7) (ls' := [(0, .inr (.inr y0)), (1, .inl y1), (2, .inl y2), (3, .inl y3)]) (st' := [.inl y3, .inl y2]) (m2 := m) (by decide +kernel) rfl trivial ?_
  refine jS.br (i := .if_icmp .ge 13) (P := y3 ≤ y2) (rest := []) rfl (by decide +kernel) (tgt := 20) (by decide) (fun c2 => ?_) (fun c2 => ?_)
  · replace H := jif_t c2 H
    replace H := Option.some.inj H
    subst H
    refine jS.loc' [] (ls' := []) rfl ?_
    exact h2
  · replace H := jif_f c2 H
    obtain ⟨w3, H⟩ := jgd_ok H
    obtain ⟨w4, H⟩ := jgd_ok H
    refine jS.adv O [(.aload_n 0, 0, 0, 0, 0, 0, 0), (.iload_n 2, 0, 0, 0, 0, 0, 0), (.iload_n 1, 0, 0, 0, 0, 0, 0), (.iastore, 0, 0, 0, 0, 0, 0), (.iinc 2 1, 0, 0, 0, 0, (1 : Int32), 0), (.goto (-12), 0, 5, 0, 0, 0, 0)] (pc' := 5) (ls' := [(2, .inl (y2 + (1 : Int32))), (0, .inr (.inr y0)), (1, .inl y1), (3, .inl y3)]) (st' := []) (m2 := (jsI m y0 y2.toNatClampNeg y1)) (by decide +kernel) rfl ⟨⟨w3, jib_ok w4⟩, trivial⟩ ?_
    refine jS.loc' [1, 2, 0, 3] (ls' := [(0, .inr (.inr y0)), (1, .inl y1), (2, .inl (y2 + (1 : Int32))), (3, .inl y3)]) rfl ?_
    exact hB _ _ _ _ _ _ H h2
def c_J7_fill_53178_l5 (F : Nat) : Nat → jMe → Nat → Int32 → Int32 → Int32 → Option (jMe)
  | 0, _, _, _, _, _ => none
  | n + 1, m, y0, y1, y2, y3 => c_J7_fill_53178_l5_b F (fun m y0 y1 y2 y3 => c_J7_fill_53178_l5 F n m y0 y1 y2 y3) m y0 y1 y2 y3
theorem ec_J7_fill_53178_l5 {X : jX} {l : Launch} {d : Nat} (O : jOk X) (hd : 2 ≤ d) {F : Nat} {m0 m' : jMe} {v : Option jAV} : ∀ (n : Nat) {m : jMe} {y0 : Nat} {y1 : Int32} {y2 : Int32} {y3 : Int32} {r : jMe} (H : c_J7_fill_53178_l5 F n m y0 y1 y2 y3 = some r) (h2 : jS X l d jm_J7_fill_53178 m0 v m' (20, [], [], r)), jS X l d jm_J7_fill_53178 m0 v m' (5, [(0, .inr (.inr y0)), (1, .inl y1), (2, .inl y2), (3, .inl y3)], [], m) := by
  intro n
  induction n with
  | zero =>
    intro m y0 y1 y2 y3 r H h2
    cases (show none = some r from H)
  | succ n ih =>
    intro m y0 y1 y2 y3 r H h2
    exact ec_J7_fill_53178_l5_b O hd (B := (fun m y0 y1 y2 y3 => c_J7_fill_53178_l5 F n m y0 y1 y2 y3)) (fun m y0 y1 y2 y3 r H h2 => ih H h2) H h2
def c_J7_fill_53178 (F : Nat) (m : jMe) (x0 : Nat) (x1 : Int32) : Option (jMe) :=
  jgd (jK m x0 = 1) <| jb (c_J7_fill_53178_l5 F F m x0 x1 (0 : Int32) (Int32.ofNat (jZ m x0))) fun e6 => some e6
theorem ec_J7_fill_53178 {X : jX} {l : Launch} {d : Nat} (O : jOk X) (hd : 2 ≤ d) {F : Nat} {m : jMe} {x0 : Nat} {x1 : Int32} {r : jMe} (H : c_J7_fill_53178 F m x0 x1 = some r) : jH X l d jm_J7_fill_53178 [.inr (.inr x0), .inl x1] m none r := by
  refine jH.of jpl_RJ7 rfl (Nat.le_of_ble_eq_true rfl) ?_
  show jS X l d jm_J7_fill_53178 m _ _ (0, [(0, .inr (.inr x0)), (1, .inl x1)], [], m)
  unfold c_J7_fill_53178 at H
  obtain ⟨w1, H⟩ := jgd_ok H
  refine jS.adv O [(.iconst 0, 0, 0, 0, 0, (0 : Int32), 0), (.istore_n 2, 0, 0, 0, 0, 0, 0), (.aload_n 0, 0, 0, 0, 0, 0, 0), (.arraylength, 0, 1, 0, 0, 0, 0), (.istore_n 3, 0, 0, 0, 0, 0, 0)] (pc' := 5) (ls' := [(3, .inl (Int32.ofNat (jZ m x0))), (2, .inl (0 : Int32)), (0, .inr (.inr x0)), (1, .inl x1)]) (st' := []) (m2 := m) (by decide +kernel) rfl ⟨w1, trivial⟩ ?_
  refine jS.loc' [2, 3, 1, 0] (ls' := [(0, .inr (.inr x0)), (1, .inl x1), (2, .inl (0 : Int32)), (3, .inl (Int32.ofNat (jZ m x0)))]) rfl ?_
  obtain ⟨e6, w7, H⟩ := jb_ok H
  refine ec_J7_fill_53178_l5 O hd F w7 ?_
  replace H := Option.some.inj H
  subst H
  exact jS.vret rfl (by decide +kernel)
def c_J7_fill_d0a16_l6_b (F : Nat) (B : jMe → Nat → Int64 → Int32 → Int32 → Option (jMe)) (m : jMe) (y0 : Nat) (y1 : Int64) (y3 : Int32) (y4 : Int32) : Option (jMe) :=
  (if y4 ≤ y3 then some (m) else jgd (jK m y0 = 2) <| jgd (jin y3 (jZ m y0) = true) <| B (jsL m y0 y3.toNatClampNeg y1) y0 y1 (y3 + (1 : Int32)) y4)
theorem ec_J7_fill_d0a16_l6_b {X : jX} {l : Launch} {d : Nat} (O : jOk X) (hd : 2 ≤ d) {F : Nat} {m0 m' : jMe} {v : Option jAV} {B : jMe → Nat → Int64 → Int32 → Int32 → Option (jMe)} (hB : ∀ (m : jMe) (y0 : Nat) (y1 : Int64) (y3 : Int32) (y4 : Int32) (r : jMe), B m y0 y1 y3 y4 = some r → (jS X l d jm_J7_fill_d0a16 m0 v m' (22, [], [], r)) → jS X l d jm_J7_fill_d0a16 m0 v m' (6, [(0, .inr (.inr y0)), (1, .inr (.inl y1)), (3, .inl y3), (4, .inl y4)], [], m)) {m : jMe} {y0 : Nat} {y1 : Int64} {y3 : Int32} {y4 : Int32} {r : jMe} (H : c_J7_fill_d0a16_l6_b F B m y0 y1 y3 y4 = some r) (h2 : jS X l d jm_J7_fill_d0a16 m0 v m' (22, [], [], r)) : jS X l d jm_J7_fill_d0a16 m0 v m' (6, [(0, .inr (.inr y0)), (1, .inr (.inl y1)), (3, .inl y3), (4, .inl y4)], [], m) := by
  unfold c_J7_fill_d0a16_l6_b at H
  refine jS.adv O [(.iload_n 3, 0, 0, 0, 0, 0, 0), (.iload 4, 0, 0, 0, 0, 0, 0)] (pc' := 9) (ls' := [(0, .inr (.inr y0)), (1, .inr (.inl y1)), (3, .inl y3), (4, .inl y4)]) (st' := [.inl y4, .inl y3]) (m2 := m) (by decide +kernel) rfl trivial ?_
  refine jS.br (i := .if_icmp .ge 13) (P := y4 ≤ y3) (rest := []) rfl (by decide +kernel) (tgt := 22) (by decide) (fun c2 => ?_) (fun c2 => ?_)
  · replace H := jif_t c2 H
    replace H := Option.some.inj H
    subst H
    refine jS.loc' [] (ls' := []) rfl ?_
    exact h2
  · replace H := jif_f c2 H
    obtain ⟨w3, H⟩ := jgd_ok H
    obtain ⟨w4, H⟩ := jgd_ok H
    refine jS.adv O [(.aload_n 0, 0, 0, 0, 0, 0, 0), (.iload_n 3, 0, 0, 0, 0, 0, 0), (.lload_n 1, 0, 0, 0, 0, 0, 0), (.lastore, 0, 0, 0, 0, 0, 0), (.iinc 3 1, 0, 0, 0, 0, (1 : Int32), 0), (.goto (-13), 0, 6, 0, 0, 0, 0)] (pc' := 6) (ls' := [(3, .inl (y3 + (1 : Int32))), (0, .inr (.inr y0)), (1, .inr (.inl y1)), (4, .inl y4)]) (st' := []) (m2 := (jsL m y0 y3.toNatClampNeg y1)) (by decide +kernel) rfl ⟨⟨w3, jib_ok w4⟩, trivial⟩ ?_
    refine jS.loc' [1, 2, 0, 3] (ls' := [(0, .inr (.inr y0)), (1, .inr (.inl y1)), (3, .inl (y3 + (1 : Int32))), (4, .inl y4)]) rfl ?_
    exact hB _ _ _ _ _ _ H h2
def c_J7_fill_d0a16_l6 (F : Nat) : Nat → jMe → Nat → Int64 → Int32 → Int32 → Option (jMe)
  | 0, _, _, _, _, _ => none
  | n + 1, m, y0, y1, y3, y4 => c_J7_fill_d0a16_l6_b F (fun m y0 y1 y3 y4 => c_J7_fill_d0a16_l6 F n m y0 y1 y3 y4) m y0 y1 y3 y4
theorem ec_J7_fill_d0a16_l6 {X : jX} {l : Launch} {d : Nat} (O : jOk X) (hd : 2 ≤ d) {F : Nat} {m0 m' : jMe} {v : Option jAV} : ∀ (n : Nat) {m : jMe} {y0 : Nat} {y1 : Int64} {y3 : Int32} {y4 : Int32} {r : jMe} (H : c_J7_fill_d0a16_l6 F n m y0 y1 y3 y4 = some r) (h2 : jS X l d jm_J7_fill_d0a16 m0 v m' (22, [], [], r)), jS X l d jm_J7_fill_d0a16 m0 v m' (6, [(0, .inr (.inr y0)), (1, .inr (.inl y1)), (3, .inl y3), (4, .inl y4)], [], m) := by
  intro n
  induction n with
  | zero =>
    intro m y0 y1 y3 y4 r H h2
    cases (show none = some r from H)
  | succ n ih =>
    intro m y0 y1 y3 y4 r H h2
    exact ec_J7_fill_d0a16_l6_b O hd (B := (fun m y0 y1 y3 y4 => c_J7_fill_d0a16_l6 F n m y0 y1 y3 y4)) (fun m y0 y1 y3 y4 r H h2 => ih H h2) H h2
def c_J7_fill_d0a16 (F : Nat) (m : jMe) (x0 : Nat) (x1 : Int64) : Option (jMe) :=
  jgd (jK m x0 = 2) <| jb (c_J7_fill_d0a16_l6 F F m x0 x1 (0 : Int32) (Int32.ofNat (jZ m x0))) fun e6 => some e6
theorem ec_J7_fill_d0a16 {X : jX} {l : Launch} {d : Nat} (O : jOk X) (hd : 2 ≤ d) {F : Nat} {m : jMe} {x0 : Nat} {x1 : Int64} {r : jMe} (H : c_J7_fill_d0a16 F m x0 x1 = some r) : jH X l d jm_J7_fill_d0a16 [.inr (.inr x0), .inr (.inl x1)] m none r := by
  refine jH.of jpl_RJ7 rfl (Nat.le_of_ble_eq_true rfl) ?_
  show jS X l d jm_J7_fill_d0a16 m _ _ (0, [(0, .inr (.inr x0)), (1, .inr (.inl x1))], [], m)
  unfold c_J7_fill_d0a16 at H
  obtain ⟨w1, H⟩ := jgd_ok H
  refine jS.adv O [(.iconst 0, 0, 0, 0, 0, (0 : Int32), 0), (.istore_n 3, 0, 0, 0, 0, 0, 0), (.aload_n 0, 0, 0, 0, 0, 0, 0), (.arraylength, 0, 2, 0, 0, 0, 0), (.istore 4, 0, 0, 0, 0, 0, 0)] (pc' := 6) (ls' := [(4, .inl (Int32.ofNat (jZ m x0))), (3, .inl (0 : Int32)), (0, .inr (.inr x0)), (1, .inr (.inl x1))]) (st' := []) (m2 := m) (by decide +kernel) rfl ⟨w1, trivial⟩ ?_
  refine jS.loc' [2, 3, 1, 0] (ls' := [(0, .inr (.inr x0)), (1, .inr (.inl x1)), (3, .inl (0 : Int32)), (4, .inl (Int32.ofNat (jZ m x0)))]) rfl ?_
  obtain ⟨e6, w7, H⟩ := jb_ok H
  refine ec_J7_fill_d0a16_l6 O hd F w7 ?_
  replace H := Option.some.inj H
  subst H
  exact jS.vret rfl (by decide +kernel)
def c_J7_copyOf_59c91 (F : Nat) (m : jMe) (x0 : Nat) (x1 : Int32) : Option (Nat × jMe) :=
  jgd (jK m x0 = 1) <| (if x1 = (Int32.ofNat (jZ m x0)) then some ((32 + jN m), (jdup m x0)) else jgd (¬ x1 < 0 ∧ x1.toNatClampNeg ≤ 10000) <| jlet (jnew m 1 x1.toNatClampNeg x1.toNatClampNeg) fun m4 => jgd (jK m4 x0 = 1) <| jgd (jK m4 (32 + jN m) = 1) <| jgd (¬ (0 : Int32) < 0) <| jgd (¬ (0 : Int32) < 0) <| jgd (¬ (if x1 < (Int32.ofNat (jZ m4 x0)) then x1 else (Int32.ofNat (jZ m4 x0))) < 0) <| jgd ((0 : Int32).toNatClampNeg + (if x1 < (Int32.ofNat (jZ m4 x0)) then x1 else (Int32.ofNat (jZ m4 x0))).toNatClampNeg ≤ jZ m4 x0) <| jgd ((0 : Int32).toNatClampNeg + (if x1 < (Int32.ofNat (jZ m4 x0)) then x1 else (Int32.ofNat (jZ m4 x0))).toNatClampNeg ≤ jZ m4 (32 + jN m)) <| some ((32 + jN m), (jcpI m4 x0 (0 : Int32).toNatClampNeg (32 + jN m) (0 : Int32).toNatClampNeg (if x1 < (Int32.ofNat (jZ m4 x0)) then x1 else (Int32.ofNat (jZ m4 x0))).toNatClampNeg)))
theorem ec_J7_copyOf_59c91 {X : jX} {l : Launch} {d : Nat} (O : jOk X) (hd : 2 ≤ d) {F : Nat} {m : jMe} {x0 : Nat} {x1 : Int32} {r : Nat × jMe} (H : c_J7_copyOf_59c91 F m x0 x1 = some r) : jH X l d jm_J7_copyOf_59c91 [.inr (.inr x0), .inl x1] m (some (.inr (.inr r.1))) r.2 := by
  refine jH.of jpl_RJ7 rfl (Nat.le_of_ble_eq_true rfl) ?_
  show jS X l d jm_J7_copyOf_59c91 m _ _ (0, [(0, .inr (.inr x0)), (1, .inl x1)], [], m)
  unfold c_J7_copyOf_59c91 at H
  obtain ⟨w1, H⟩ := jgd_ok H
  refine jS.adv O [(.iload_n 1, 0, 0, 0, 0, 0, 0), (.aload_n 0, 0, 0, 0, 0, 0, 0), (.arraylength, 0, 1, 0, 0, 0, 0)] (pc' := 3) (ls' := [(0, .inr (.inr x0)), (1, .inl x1)]) (st' := [.inl (Int32.ofNat (jZ m x0)), .inl x1]) (m2 := m) (by decide +kernel) rfl ⟨w1, trivial⟩ ?_
  refine jS.br (i := .if_icmp .ne 11) (P := ¬ x1 = (Int32.ofNat (jZ m x0))) (rest := []) rfl (by decide +kernel) (tgt := 14) (by decide) (fun c2 => ?_) (fun c2 => ?_)
  · replace H := jif_f c2 H
    obtain ⟨w3, H⟩ := jgd_ok H
    obtain ⟨m4, em4, H⟩ := jlet_ok H
    refine jS.adv O [(.iload_n 1, 0, 0, 0, 0, 0, 0), (.newarray .int, 0, 1, 313, 0, 0, 0)] (pc' := 17) (ls' := [(0, .inr (.inr x0)), (1, .inl x1)]) (st' := [.inr (.inr (32 + jN m))]) (m2 := (jnew m 1 x1.toNatClampNeg x1.toNatClampNeg)) (by decide +kernel) rfl ⟨w3, trivial⟩ ?_
    refine jS.cast (c' := (17, [(0, .inr (.inr x0)), (1, .inl x1)], [.inr (.inr (32 + jN m))], m4)) (by rw [em4]) ?_
    obtain ⟨w5, H⟩ := jgd_ok H
    refine jS.adv O [(.astore_n 2, 0, 0, 0, 0, 0, 0), (.aload_n 0, 0, 0, 0, 0, 0, 0), (.iconst 0, 0, 0, 0, 0, (0 : Int32), 0), (.aload_n 2, 0, 0, 0, 0, 0, 0), (.iconst 0, 0, 0, 0, 0, (0 : Int32), 0), (.aload_n 0, 0, 0, 0, 0, 0, 0), (.arraylength, 0, 1, 0, 0, 0, 0), (.iload_n 1, 0, 0, 0, 0, 0, 0)] (pc' := 25) (ls' := [(2, .inr (.inr (32 + jN m))), (0, .inr (.inr x0)), (1, .inl x1)]) (st' := [.inl x1, .inl (Int32.ofNat (jZ m4 x0)), .inl (0 : Int32), .inr (.inr (32 + jN m)), .inl (0 : Int32), .inr (.inr x0)]) (m2 := m4) (by decide +kernel) rfl ⟨w5, trivial⟩ ?_
    refine jS.step (c' := (28, [(2, .inr (.inr (32 + jN m))), (0, .inr (.inr x0)), (1, .inl x1)], [.inl (if x1 < (Int32.ofNat (jZ m4 x0)) then x1 else (Int32.ofNat (jZ m4 x0))), .inl (0 : Int32), .inr (.inr (32 + jN m)), .inl (0 : Int32), .inr (.inr x0)], m4)) (jSt.mmin (idx := 304) (by omega) (jW_of 565 (by decide +kernel) rfl) (jW_of 566 (by decide +kernel) rfl) (jW_of 251 (by decide +kernel) rfl) (jW_of 567 (by decide +kernel) rfl) (Nat.le_of_ble_eq_true rfl) (by decide +kernel)) ?_
    obtain ⟨w6, H⟩ := jgd_ok H
    obtain ⟨w7, H⟩ := jgd_ok H
    obtain ⟨w8, H⟩ := jgd_ok H
    obtain ⟨w9, H⟩ := jgd_ok H
    obtain ⟨w10, H⟩ := jgd_ok H
    obtain ⟨w11, H⟩ := jgd_ok H
    refine jS.step (c' := (31, [(2, .inr (.inr (32 + jN m))), (0, .inr (.inr x0)), (1, .inl x1)], [], (jcpI m4 x0 (0 : Int32).toNatClampNeg (32 + jN m) (0 : Int32).toNatClampNeg (if x1 < (Int32.ofNat (jZ m4 x0)) then x1 else (Int32.ofNat (jZ m4 x0))).toNatClampNeg))) (jSt.cpyI (idx := 150) O (by omega) (jW_of 568 (by decide +kernel) rfl) jnat_cpy (jW_of 569 (by decide +kernel) rfl) (jW_of 253 (by decide +kernel) rfl) w5 w6 w7 w8 w9 w10 w11 (Nat.le_of_ble_eq_true rfl) (by decide +kernel)) ?_
    refine jS.adv O [(.aload_n 2, 0, 0, 0, 0, 0, 0)] (pc' := 32) (ls' := [(2, .inr (.inr (32 + jN m))), (0, .inr (.inr x0)), (1, .inl x1)]) (st' := [.inr (.inr (32 + jN m))]) (m2 := (jcpI m4 x0 (0 : Int32).toNatClampNeg (32 + jN m) (0 : Int32).toNatClampNeg (if x1 < (Int32.ofNat (jZ m4 x0)) then x1 else (Int32.ofNat (jZ m4 x0))).toNatClampNeg)) (by decide +kernel) rfl trivial ?_
    replace H := Option.some.inj H
    subst H
    exact jS.aret rfl (by first | exact Or.inl ⟨_, rfl⟩ | exact Or.inr ⟨_, rfl⟩) (by decide +kernel)
  · replace H := jif_t (Classical.not_not.mp c2) H
    refine jS.adv O [(.aload_n 0, 0, 0, 0, 0, 0, 0)] (pc' := 7) (ls' := [(0, .inr (.inr x0)), (1, .inl x1)]) (st' := [.inr (.inr x0)]) (m2 := m) (by decide +kernel) rfl trivial ?_
    refine jS.step (c' := (13, [(0, .inr (.inr x0)), (1, .inl x1)], [.inr (.inr (32 + jN m))], (jdup m x0))) (jSt.clone (idx := 316) (idx2 := 317) O (by omega) w1 (jW_of 558 (by decide +kernel) rfl) (List.mem_filter.mpr ⟨by decide +kernel, rfl⟩) (List.mem_filter.mpr ⟨by decide +kernel, rfl⟩) (jW_of 561 (by decide +kernel) rfl) (jW_of 562 (by decide +kernel) rfl) (by decide +kernel) (jW_of 564 (by decide +kernel) rfl) (Nat.le_of_ble_eq_true rfl) (by decide +kernel) (by decide +kernel)) ?_
    replace H := Option.some.inj H
    subst H
    exact jS.aret rfl (by first | exact Or.inl ⟨_, rfl⟩ | exact Or.inr ⟨_, rfl⟩) (by decide +kernel)
def c_J0_coder_7d493 (F : Nat) (m : jMe) (x0 : Nat) : Option (Int32) :=
  (if (1 : Int32) = 0 then jgd (vp_nar .byte (1 : Int32) = (1 : Int32)) <| some (1 : Int32) else jgd (jK m x0 = 10) <| jgd (vp_nar .byte (0 : Int32) = (0 : Int32)) <| some (0 : Int32))
theorem ec_J0_coder_7d493 {X : jX} {l : Launch} {d : Nat} (O : jOk X) (hd : 2 ≤ d) {F : Nat} {m : jMe} {x0 : Nat} {r : Int32} (H : c_J0_coder_7d493 F m x0 = some r) : jH X l d jm_J0_coder_7d493 [.inr (.inr x0)] m (some (.inl r)) m := by
  refine jH.of jpl_RJ0 rfl (Nat.le_of_ble_eq_true rfl) ?_
  show jS X l d jm_J0_coder_7d493 m _ _ (0, [(0, .inr (.inr x0))], [], m)
  unfold c_J0_coder_7d493 at H
  refine jS.step (c' := (3, [(0, .inr (.inr x0))], [.inl (1 : Int32)], m)) (jSt.scs (idx := 38) O (jW_of 906 (by decide +kernel) rfl) (by decide +kernel)) ?_
  refine jS.br (i := .ifCond .eq 10) (P := (1 : Int32) = 0) (rest := []) rfl (by decide +kernel) (tgt := 13) (by decide) (fun c1 => ?_) (fun c1 => ?_)
  · replace H := jif_t c1 H
    obtain ⟨w2, H⟩ := jgd_ok H
    refine jS.adv O [(.iconst 1, 0, 0, 0, 0, (1 : Int32), 0)] (pc' := 14) (ls' := [(0, .inr (.inr x0))]) (st' := [.inl (1 : Int32)]) (m2 := m) (by decide +kernel) rfl trivial ?_
    replace H := Option.some.inj H
    subst H
    exact jS.cret rfl w2 (by decide +kernel)
  · replace H := jif_f c1 H
    obtain ⟨w3, H⟩ := jgd_ok H
    refine jS.adv O [(.aload_n 0, 0, 0, 0, 0, 0, 0)] (pc' := 7) (ls' := [(0, .inr (.inr x0))]) (st' := [.inr (.inr x0)]) (m2 := m) (by decide +kernel) rfl trivial ?_
    refine jS.step (c' := (10, [(0, .inr (.inr x0))], [.inl (0 : Int32)], m)) (jSt.scod (idx := 15) O w3 (jW_of 2021 (by decide +kernel) rfl) (by decide +kernel)) ?_
    obtain ⟨w4, H⟩ := jgd_ok H
    refine jS.adv O [(.goto 4, 0, 14, 0, 0, 0, 0)] (pc' := 14) (ls' := [(0, .inr (.inr x0))]) (st' := [.inl (0 : Int32)]) (m2 := m) (by decide +kernel) rfl trivial ?_
    replace H := Option.some.inj H
    subst H
    exact jS.cret rfl w4 (by decide +kernel)
def c_J0_length_8abf5 (F : Nat) (m : jMe) (x0 : Nat) : Option (Int32) :=
  jgd (jK m x0 = 10) <| jgd (jK m (x0 + 8) = 11) <| jb (c_J0_coder_7d493 F m x0) fun t4 => some (jshr (Int32.ofNat (jZ m (x0 + 8))) t4)
theorem ec_J0_length_8abf5 {X : jX} {l : Launch} {d : Nat} (O : jOk X) (hd : 3 ≤ d) {F : Nat} {m : jMe} {x0 : Nat} {r : Int32} (H : c_J0_length_8abf5 F m x0 = some r) : jH X l d jm_J0_length_8abf5 [.inr (.inr x0)] m (some (.inl r)) m := by
  refine jH.of jpl_RJ0 rfl (Nat.le_of_ble_eq_true rfl) ?_
  show jS X l d jm_J0_length_8abf5 m _ _ (0, [(0, .inr (.inr x0))], [], m)
  unfold c_J0_length_8abf5 at H
  obtain ⟨w1, H⟩ := jgd_ok H
  refine jS.adv O [(.aload_n 0, 0, 0, 0, 0, 0, 0)] (pc' := 1) (ls' := [(0, .inr (.inr x0))]) (st' := [.inr (.inr x0)]) (m2 := m) (by decide +kernel) rfl trivial ?_
  refine jS.step (c' := (4, [(0, .inr (.inr x0))], [.inr (.inr (x0 + 8))], m)) (jSt.sval (idx := 9) O w1 (jW_of 2020 (by decide +kernel) rfl) (by decide +kernel)) ?_
  obtain ⟨w2, H⟩ := jgd_ok H
  refine jS.step (c' := (5, [(0, .inr (.inr x0))], [.inl (Int32.ofNat (jZ m (x0 + 8)))], m)) (jSt.slen O w2 (by decide +kernel)) ?_
  refine jS.adv O [(.aload_n 0, 0, 0, 0, 0, 0, 0)] (pc' := 6) (ls' := [(0, .inr (.inr x0))]) (st' := [.inr (.inr x0), .inl (Int32.ofNat (jZ m (x0 + 8)))]) (m2 := m) (by decide +kernel) rfl trivial ?_
  obtain ⟨t4, w3, H⟩ := jb_ok H
  refine jS.step (c' := (9, [(0, .inr (.inr x0))], [.inl t4, .inl (Int32.ofNat (jZ m (x0 + 8)))], m)) (jSt.callT (As := []) (rest := [.inl (Int32.ofNat (jZ m (x0 + 8)))]) O (ec_J0_coder_7d493 (d := 2) O (Nat.le_refl _) w3) w1 rfl (by omega) jmw_J0_coder_7d493 jmv_J0_coder_7d493 jmn_J0_coder_7d493 (idx := 335) (jW_of 902 (by decide +kernel) rfl) (Nat.le_of_ble_eq_true rfl) (by decide +kernel)) ?_
  refine jS.adv O [(.ishr, 0, 0, 0, 0, 0, 0)] (pc' := 10) (ls' := [(0, .inr (.inr x0))]) (st' := [.inl (jshr (Int32.ofNat (jZ m (x0 + 8))) t4)]) (m2 := m) (by decide +kernel) rfl trivial ?_
  replace H := Option.some.inj H
  subst H
  exact jS.iret rfl (by decide +kernel)
def c_J0_isLatin1_aae02 (F : Nat) (m : jMe) (x0 : Nat) : Option (Int32) :=
  (if (1 : Int32) = 0 then some (0 : Int32) else jgd (jK m x0 = 10) <| (if (0 : Int32) = 0 then some (1 : Int32) else some (0 : Int32)))
theorem ec_J0_isLatin1_aae02 {X : jX} {l : Launch} {d : Nat} (O : jOk X) (hd : 2 ≤ d) {F : Nat} {m : jMe} {x0 : Nat} {r : Int32} (H : c_J0_isLatin1_aae02 F m x0 = some r) : jH X l d jm_J0_isLatin1_aae02 [.inr (.inr x0)] m (some (.inl r)) m := by
  refine jH.of jpl_RJ0 rfl (Nat.le_of_ble_eq_true rfl) ?_
  show jS X l d jm_J0_isLatin1_aae02 m _ _ (0, [(0, .inr (.inr x0))], [], m)
  unfold c_J0_isLatin1_aae02 at H
  refine jS.step (c' := (3, [(0, .inr (.inr x0))], [.inl (1 : Int32)], m)) (jSt.scs (idx := 38) O (jW_of 906 (by decide +kernel) rfl) (by decide +kernel)) ?_
  refine jS.br (i := .ifCond .eq 14) (P := (1 : Int32) = 0) (rest := []) rfl (by decide +kernel) (tgt := 17) (by decide) (fun c1 => ?_) (fun c1 => ?_)
  · replace H := jif_t c1 H
    refine jS.adv O [(.iconst 0, 0, 0, 0, 0, (0 : Int32), 0)] (pc' := 18) (ls' := [(0, .inr (.inr x0))]) (st' := [.inl (0 : Int32)]) (m2 := m) (by decide +kernel) rfl trivial ?_
    replace H := Option.some.inj H
    subst H
    exact jS.zret rfl (Or.inl rfl) (by decide +kernel)
  · replace H := jif_f c1 H
    obtain ⟨w2, H⟩ := jgd_ok H
    refine jS.adv O [(.aload_n 0, 0, 0, 0, 0, 0, 0)] (pc' := 7) (ls' := [(0, .inr (.inr x0))]) (st' := [.inr (.inr x0)]) (m2 := m) (by decide +kernel) rfl trivial ?_
    refine jS.step (c' := (10, [(0, .inr (.inr x0))], [.inl (0 : Int32)], m)) (jSt.scod (idx := 15) O w2 (jW_of 2021 (by decide +kernel) rfl) (by decide +kernel)) ?_
    refine jS.br (i := .ifCond .ne 7) (P := ¬ (0 : Int32) = 0) (rest := []) rfl (by decide +kernel) (tgt := 17) (by decide) (fun c3 => ?_) (fun c3 => ?_)
    · replace H := jif_f c3 H
      refine jS.adv O [(.iconst 0, 0, 0, 0, 0, (0 : Int32), 0)] (pc' := 18) (ls' := [(0, .inr (.inr x0))]) (st' := [.inl (0 : Int32)]) (m2 := m) (by decide +kernel) rfl trivial ?_
      replace H := Option.some.inj H
      subst H
      exact jS.zret rfl (Or.inl rfl) (by decide +kernel)
    · replace H := jif_t (Classical.not_not.mp c3) H
      refine jS.adv O [(.iconst 1, 0, 0, 0, 0, (1 : Int32), 0), (.goto 4, 0, 18, 0, 0, 0, 0)] (pc' := 18) (ls' := [(0, .inr (.inr x0))]) (st' := [.inl (1 : Int32)]) (m2 := m) (by decide +kernel) rfl trivial ?_
      replace H := Option.some.inj H
      subst H
      exact jS.zret rfl (Or.inr rfl) (by decide +kernel)
def c_J3_checkIndex_8e157_j9 (F : Nat) (m : jMe) (y0 : Int32) (y1 : Int32) (y2 : Nat) : Option (Int32) :=
  none
theorem ec_J3_checkIndex_8e157_j9 {X : jX} {l : Launch} {d : Nat} (O : jOk X) (hd : 2 ≤ d) {F : Nat} {m0 m : jMe} {y0 : Int32} {y1 : Int32} {y2 : Nat} {r : Int32} (H : c_J3_checkIndex_8e157_j9 F m y0 y1 y2 = some r) : jS X l d jm_J3_checkIndex_8e157 m0 (some (.inl r)) m (9, [(0, .inl y0), (1, .inl y1), (2, .inr (.inr y2))], [], m) := by
  unfold c_J3_checkIndex_8e157_j9 at H
  cases H
def c_J3_checkIndex_8e157 (F : Nat) (m : jMe) (x0 : Int32) (x1 : Int32) (x2 : Nat) : Option (Int32) :=
  (if x0 < 0 then c_J3_checkIndex_8e157_j9 F m x0 x1 x2 else (if x0 < x1 then some x0 else c_J3_checkIndex_8e157_j9 F m x0 x1 x2))
theorem ec_J3_checkIndex_8e157 {X : jX} {l : Launch} {d : Nat} (O : jOk X) (hd : 2 ≤ d) {F : Nat} {m : jMe} {x0 : Int32} {x1 : Int32} {x2 : Nat} {r : Int32} (H : c_J3_checkIndex_8e157 F m x0 x1 x2 = some r) : jH X l d jm_J3_checkIndex_8e157 [.inl x0, .inl x1, .inr (.inr x2)] m (some (.inl r)) m := by
  refine jH.of jpl_RJ3 rfl (Nat.le_of_ble_eq_true rfl) ?_
  show jS X l d jm_J3_checkIndex_8e157 m _ _ (0, [(0, .inl x0), (1, .inl x1), (2, .inr (.inr x2))], [], m)
  unfold c_J3_checkIndex_8e157 at H
  refine jS.adv O [(.iload_n 0, 0, 0, 0, 0, 0, 0)] (pc' := 1) (ls' := [(0, .inl x0), (1, .inl x1), (2, .inr (.inr x2))]) (st' := [.inl x0]) (m2 := m) (by decide +kernel) rfl trivial ?_
  refine jS.br (i := .ifCond .lt 8) (P := x0 < 0) (rest := []) rfl (by decide +kernel) (tgt := 9) (by decide) (fun c1 => ?_) (fun c1 => ?_)
  · replace H := jif_t c1 H
    refine jS.loc' [0, 1, 2] (ls' := [(0, .inl x0), (1, .inl x1), (2, .inr (.inr x2))]) rfl ?_
    exact ec_J3_checkIndex_8e157_j9 O hd H
  · replace H := jif_f c1 H
    refine jS.adv O [(.iload_n 0, 0, 0, 0, 0, 0, 0), (.iload_n 1, 0, 0, 0, 0, 0, 0)] (pc' := 6) (ls' := [(0, .inl x0), (1, .inl x1), (2, .inr (.inr x2))]) (st' := [.inl x1, .inl x0]) (m2 := m) (by decide +kernel) rfl trivial ?_
    refine jS.br (i := .if_icmp .lt 10) (P := x0 < x1) (rest := []) rfl (by decide +kernel) (tgt := 16) (by decide) (fun c2 => ?_) (fun c2 => ?_)
    · replace H := jif_t c2 H
      refine jS.adv O [(.iload_n 0, 0, 0, 0, 0, 0, 0)] (pc' := 17) (ls' := [(0, .inl x0), (1, .inl x1), (2, .inr (.inr x2))]) (st' := [.inl x0]) (m2 := m) (by decide +kernel) rfl trivial ?_
      replace H := Option.some.inj H
      subst H
      exact jS.iret rfl (by decide +kernel)
    · replace H := jif_f c2 H
      refine jS.loc' [0, 1, 2] (ls' := [(0, .inl x0), (1, .inl x1), (2, .inr (.inr x2))]) rfl ?_
      exact ec_J3_checkIndex_8e157_j9 O hd H
def c_J1_canEncode_9a6ad (F : Nat) (m : jMe) (x0 : Int32) : Option (Int32) :=
  (if x0 < 0 then some (0 : Int32) else (if (255 : Int32) < x0 then some (0 : Int32) else some (1 : Int32)))
theorem ec_J1_canEncode_9a6ad {X : jX} {l : Launch} {d : Nat} (O : jOk X) (hd : 2 ≤ d) {F : Nat} {m : jMe} {x0 : Int32} {r : Int32} (H : c_J1_canEncode_9a6ad F m x0 = some r) : jH X l d jm_J1_canEncode_9a6ad [.inl x0] m (some (.inl r)) m := by
  refine jH.of jpl_RJ1 rfl (Nat.le_of_ble_eq_true rfl) ?_
  show jS X l d jm_J1_canEncode_9a6ad m _ _ (0, [(0, .inl x0)], [], m)
  unfold c_J1_canEncode_9a6ad at H
  refine jS.adv O [(.iload_n 0, 0, 0, 0, 0, 0, 0)] (pc' := 1) (ls' := [(0, .inl x0)]) (st' := [.inl x0]) (m2 := m) (by decide +kernel) rfl trivial ?_
  refine jS.br (i := .ifCond .lt 14) (P := x0 < 0) (rest := []) rfl (by decide +kernel) (tgt := 15) (by decide) (fun c1 => ?_) (fun c1 => ?_)
  · replace H := jif_t c1 H
    refine jS.adv O [(.iconst 0, 0, 0, 0, 0, (0 : Int32), 0)] (pc' := 16) (ls' := [(0, .inl x0)]) (st' := [.inl (0 : Int32)]) (m2 := m) (by decide +kernel) rfl trivial ?_
    replace H := Option.some.inj H
    subst H
    exact jS.zret rfl (Or.inl rfl) (by decide +kernel)
  · replace H := jif_f c1 H
    refine jS.adv O [(.iload_n 0, 0, 0, 0, 0, 0, 0), (.sipush 255, 0, 0, 0, 0, (255 : Int32), 0)] (pc' := 8) (ls' := [(0, .inl x0)]) (st' := [.inl (255 : Int32), .inl x0]) (m2 := m) (by decide +kernel) rfl trivial ?_
    refine jS.br (i := .if_icmp .gt 7) (P := (255 : Int32) < x0) (rest := []) rfl (by decide +kernel) (tgt := 15) (by decide) (fun c2 => ?_) (fun c2 => ?_)
    · replace H := jif_t c2 H
      refine jS.adv O [(.iconst 0, 0, 0, 0, 0, (0 : Int32), 0)] (pc' := 16) (ls' := [(0, .inl x0)]) (st' := [.inl (0 : Int32)]) (m2 := m) (by decide +kernel) rfl trivial ?_
      replace H := Option.some.inj H
      subst H
      exact jS.zret rfl (Or.inl rfl) (by decide +kernel)
    · replace H := jif_f c2 H
      refine jS.adv O [(.iconst 1, 0, 0, 0, 0, (1 : Int32), 0), (.goto 4, 0, 16, 0, 0, 0, 0)] (pc' := 16) (ls' := [(0, .inl x0)]) (st' := [.inl (1 : Int32)]) (m2 := m) (by decide +kernel) rfl trivial ?_
      replace H := Option.some.inj H
      subst H
      exact jS.zret rfl (Or.inr rfl) (by decide +kernel)
def c_J1_indexOfChar_4cfef_l7_b (F : Nat) (B : Nat → Int32 → Int32 → Int32 → Option (Int32 ⊕ Unit)) (m : jMe) (y0 : Nat) (y3 : Int32) (y4 : Int32) (y5 : Int32) : Option (Int32 ⊕ Unit) :=
  (if y3 ≤ y5 then some (.inr ()) else jgd (jK m y0 = 11) <| jgd (jin y5 (jZ m y0) = true) <| (if (jI m y0 y5.toNatClampNeg) = y4 then some (.inl y5) else B y0 y3 y4 (y5 + (1 : Int32))))
theorem ec_J1_indexOfChar_4cfef_l7_b {X : jX} {l : Launch} {d : Nat} (O : jOk X) (hd : 2 ≤ d) {F : Nat} {m0 m' : jMe} {v : Option jAV} {m : jMe} {B : Nat → Int32 → Int32 → Int32 → Option (Int32 ⊕ Unit)} (hB : ∀ (y0 : Nat) (y3 : Int32) (y4 : Int32) (y5 : Int32) (r : Int32 ⊕ Unit), B y0 y3 y4 y5 = some r → (∀ q, r = .inl q → v = (some (.inl q)) ∧ m' = m) → (∀ e, r = .inr e → jS X l d jm_J1_indexOfChar_4cfef m0 v m' (31, [], [], m)) → jS X l d jm_J1_indexOfChar_4cfef m0 v m' (7, [(0, .inr (.inr y0)), (3, .inl y3), (4, .inl y4), (5, .inl y5)], [], m)) {y0 : Nat} {y3 : Int32} {y4 : Int32} {y5 : Int32} {r : Int32 ⊕ Unit} (H : c_J1_indexOfChar_4cfef_l7_b F B m y0 y3 y4 y5 = some r) (h1 : ∀ q, r = .inl q → v = (some (.inl q)) ∧ m' = m) (h2 : ∀ e, r = .inr e → jS X l d jm_J1_indexOfChar_4cfef m0 v m' (31, [], [], m)) : jS X l d jm_J1_indexOfChar_4cfef m0 v m' (7, [(0, .inr (.inr y0)), (3, .inl y3), (4, .inl y4), (5, .inl y5)], [], m) := by
  unfold c_J1_indexOfChar_4cfef_l7_b at H
  refine jS.adv O [(.iload 5, 0, 0, 0, 0, 0, 0), (.iload_n 3, 0, 0, 0, 0, 0, 0)] (pc' := 10) (ls' := [(0, .inr (.inr y0)), (3, .inl y3), (4, .inl y4), (5, .inl y5)]) (st' := [.inl y3, .inl y5]) (m2 := m) (by decide +kernel) rfl trivial ?_
  refine jS.br (i := .if_icmp .ge 21) (P := y3 ≤ y5) (rest := []) rfl (by decide +kernel) (tgt := 31) (by decide) (fun c1 => ?_) (fun c1 => ?_)
  · replace H := jif_t c1 H
    replace H := Option.some.inj H
    subst H
    refine jS.loc' [] (ls' := []) rfl ?_
    exact h2 _ rfl
  · replace H := jif_f c1 H
    obtain ⟨w2, H⟩ := jgd_ok H
    obtain ⟨w3, H⟩ := jgd_ok H
    refine jS.adv O [(.aload_n 0, 0, 0, 0, 0, 0, 0), (.iload 5, 0, 0, 0, 0, 0, 0)] (pc' := 16) (ls' := [(0, .inr (.inr y0)), (3, .inl y3), (4, .inl y4), (5, .inl y5)]) (st' := [.inl y5, .inr (.inr y0)]) (m2 := m) (by decide +kernel) rfl trivial ?_
    refine jS.step (c' := (17, [(0, .inr (.inr y0)), (3, .inl y3), (4, .inl y4), (5, .inl y5)], [.inl (jI m y0 y5.toNatClampNeg)], m)) (jSt.sbl O w2 (jib_ok w3) (by decide +kernel)) ?_
    refine jS.adv O [(.iload 4, 0, 0, 0, 0, 0, 0)] (pc' := 19) (ls' := [(0, .inr (.inr y0)), (3, .inl y3), (4, .inl y4), (5, .inl y5)]) (st' := [.inl y4, .inl (jI m y0 y5.toNatClampNeg)]) (m2 := m) (by decide +kernel) rfl trivial ?_
    refine jS.br (i := .if_icmp .ne 6) (P := ¬ (jI m y0 y5.toNatClampNeg) = y4) (rest := []) rfl (by decide +kernel) (tgt := 25) (by decide) (fun c4 => ?_) (fun c4 => ?_)
    · replace H := jif_f c4 H
      refine jS.adv O [(.iinc 5 1, 0, 0, 0, 0, (1 : Int32), 0), (.goto (-21), 0, 7, 0, 0, 0, 0)] (pc' := 7) (ls' := [(5, .inl (y5 + (1 : Int32))), (0, .inr (.inr y0)), (3, .inl y3), (4, .inl y4)]) (st' := []) (m2 := m) (by decide +kernel) rfl trivial ?_
      refine jS.loc' [1, 2, 3, 0] (ls' := [(0, .inr (.inr y0)), (3, .inl y3), (4, .inl y4), (5, .inl (y5 + (1 : Int32)))]) rfl ?_
      exact hB _ _ _ _ _ H h1 h2
    · replace H := jif_t (Classical.not_not.mp c4) H
      refine jS.adv O [(.iload 5, 0, 0, 0, 0, 0, 0)] (pc' := 24) (ls' := [(0, .inr (.inr y0)), (3, .inl y3), (4, .inl y4), (5, .inl y5)]) (st' := [.inl y5]) (m2 := m) (by decide +kernel) rfl trivial ?_
      replace H := Option.some.inj H
      subst H
      obtain ⟨q1, q2⟩ := h1 _ rfl
      subst q1; subst q2
      exact jS.iret rfl (by decide +kernel)
def c_J1_indexOfChar_4cfef_l7 (F : Nat) (m : jMe) : Nat → Nat → Int32 → Int32 → Int32 → Option (Int32 ⊕ Unit)
  | 0, _, _, _, _ => none
  | n + 1, y0, y3, y4, y5 => c_J1_indexOfChar_4cfef_l7_b F (fun y0 y3 y4 y5 => c_J1_indexOfChar_4cfef_l7 F m n y0 y3 y4 y5) m y0 y3 y4 y5
theorem ec_J1_indexOfChar_4cfef_l7 {X : jX} {l : Launch} {d : Nat} (O : jOk X) (hd : 2 ≤ d) {F : Nat} {m0 m' : jMe} {v : Option jAV} {m : jMe} : ∀ (n : Nat) {y0 : Nat} {y3 : Int32} {y4 : Int32} {y5 : Int32} {r : Int32 ⊕ Unit} (H : c_J1_indexOfChar_4cfef_l7 F m n y0 y3 y4 y5 = some r) (h1 : ∀ q, r = .inl q → v = (some (.inl q)) ∧ m' = m) (h2 : ∀ e, r = .inr e → jS X l d jm_J1_indexOfChar_4cfef m0 v m' (31, [], [], m)), jS X l d jm_J1_indexOfChar_4cfef m0 v m' (7, [(0, .inr (.inr y0)), (3, .inl y3), (4, .inl y4), (5, .inl y5)], [], m) := by
  intro n
  induction n with
  | zero =>
    intro y0 y3 y4 y5 r H h1 h2
    cases (show none = some r from H)
  | succ n ih =>
    intro y0 y3 y4 y5 r H h1 h2
    exact ec_J1_indexOfChar_4cfef_l7_b O hd (B := (fun y0 y3 y4 y5 => c_J1_indexOfChar_4cfef_l7 F m n y0 y3 y4 y5)) (fun y0 y3 y4 y5 r H h1 h2 => ih H h1 h2) H h1 h2
def c_J1_indexOfChar_4cfef (F : Nat) (m : jMe) (x0 : Nat) (x1 : Int32) (x2 : Int32) (x3 : Int32) : Option (Int32) :=
  jb2 (c_J1_indexOfChar_4cfef_l7 F m F x0 x3 (ji2b x1) x2) (fun q => some q) fun e6 => some (-1 : Int32)
theorem ec_J1_indexOfChar_4cfef {X : jX} {l : Launch} {d : Nat} (O : jOk X) (hd : 2 ≤ d) {F : Nat} {m : jMe} {x0 : Nat} {x1 : Int32} {x2 : Int32} {x3 : Int32} {r : Int32} (H : c_J1_indexOfChar_4cfef F m x0 x1 x2 x3 = some r) : jH X l d jm_J1_indexOfChar_4cfef [.inr (.inr x0), .inl x1, .inl x2, .inl x3] m (some (.inl r)) m := by
  refine jH.of jpl_RJ1 rfl (Nat.le_of_ble_eq_true rfl) ?_
  show jS X l d jm_J1_indexOfChar_4cfef m _ _ (0, [(0, .inr (.inr x0)), (1, .inl x1), (2, .inl x2), (3, .inl x3)], [], m)
  unfold c_J1_indexOfChar_4cfef at H
  refine jS.adv O [(.iload_n 1, 0, 0, 0, 0, 0, 0), (.i2b, 0, 0, 0, 0, 0, 0), (.istore 4, 0, 0, 0, 0, 0, 0), (.iload_n 2, 0, 0, 0, 0, 0, 0), (.istore 5, 0, 0, 0, 0, 0, 0)] (pc' := 7) (ls' := [(5, .inl x2), (4, .inl (ji2b x1)), (0, .inr (.inr x0)), (1, .inl x1), (2, .inl x2), (3, .inl x3)]) (st' := []) (m2 := m) (by decide +kernel) rfl trivial ?_
  refine jS.loc' [2, 5, 1, 0] (ls' := [(0, .inr (.inr x0)), (3, .inl x3), (4, .inl (ji2b x1)), (5, .inl x2)]) rfl ?_
  rcases jb2_ok H with ⟨q5, w7, H⟩ | ⟨e6, w7, H⟩
  · refine ec_J1_indexOfChar_4cfef_l7 O hd F w7 (fun q2 hq2 => ?_) (fun e2 he2 => by cases he2)
    cases hq2
    cases H
    exact ⟨rfl, rfl⟩
  · refine ec_J1_indexOfChar_4cfef_l7 O hd F w7 (fun q2 hq2 => by cases hq2) (fun e2 he2 => ?_)
    cases he2
    refine jS.adv O [(.iconst (-1), 0, 0, 0, 0, (-1 : Int32), 0)] (pc' := 32) (ls' := []) (st' := [.inl (-1 : Int32)]) (m2 := m) (by decide +kernel) rfl trivial ?_
    replace H := Option.some.inj H
    subst H
    exact jS.iret rfl (by decide +kernel)
def c_J1_indexOf_4cfef (F : Nat) (m : jMe) (x0 : Nat) (x1 : Int32) (x2 : Int32) (x3 : Int32) : Option (Int32) :=
  jb (c_J1_canEncode_9a6ad F m x1) fun t2 => (if t2 = 0 then some (-1 : Int32) else jgd (jK m x0 = 11) <| (if (if x2 < (0 : Int32) then (0 : Int32) else x2) < (if (Int32.ofNat (jZ m x0)) < x3 then (Int32.ofNat (jZ m x0)) else x3) then jb (c_J1_indexOfChar_4cfef F m x0 x1 (if x2 < (0 : Int32) then (0 : Int32) else x2) (if (Int32.ofNat (jZ m x0)) < x3 then (Int32.ofNat (jZ m x0)) else x3)) fun t7 => some t7 else some (-1 : Int32)))
theorem ec_J1_indexOf_4cfef {X : jX} {l : Launch} {d : Nat} (O : jOk X) (hd : 3 ≤ d) {F : Nat} {m : jMe} {x0 : Nat} {x1 : Int32} {x2 : Int32} {x3 : Int32} {r : Int32} (H : c_J1_indexOf_4cfef F m x0 x1 x2 x3 = some r) : jH X l d jm_J1_indexOf_4cfef [.inr (.inr x0), .inl x1, .inl x2, .inl x3] m (some (.inl r)) m := by
  refine jH.of jpl_RJ1 rfl (Nat.le_of_ble_eq_true rfl) ?_
  show jS X l d jm_J1_indexOf_4cfef m _ _ (0, [(0, .inr (.inr x0)), (1, .inl x1), (2, .inl x2), (3, .inl x3)], [], m)
  unfold c_J1_indexOf_4cfef at H
  refine jS.adv O [(.iload_n 1, 0, 0, 0, 0, 0, 0)] (pc' := 1) (ls' := [(0, .inr (.inr x0)), (1, .inl x1), (2, .inl x2), (3, .inl x3)]) (st' := [.inl x1]) (m2 := m) (by decide +kernel) rfl trivial ?_
  obtain ⟨t2, w1, H⟩ := jb_ok H
  refine jS.step (c' := (4, [(0, .inr (.inr x0)), (1, .inl x1), (2, .inl x2), (3, .inl x3)], [.inl t2], m)) (jSt.callS (As := [.inl x1]) (rest := []) O (ec_J1_canEncode_9a6ad (d := 2) O (Nat.le_refl _) w1) (by omega) jmw_J1_canEncode_9a6ad jmv_J1_canEncode_9a6ad jmn_J1_canEncode_9a6ad (idx := 88) (jW_of 980 (by decide +kernel) rfl) (Nat.le_of_ble_eq_true rfl) (by decide +kernel)) ?_
  refine jS.br (i := .ifCond .ne 5) (P := ¬ t2 = 0) (rest := []) rfl (by decide +kernel) (tgt := 9) (by decide) (fun c3 => ?_) (fun c3 => ?_)
  · replace H := jif_f c3 H
    refine jS.adv O [(.iload_n 2, 0, 0, 0, 0, 0, 0), (.iconst 0, 0, 0, 0, 0, (0 : Int32), 0)] (pc' := 11) (ls' := [(0, .inr (.inr x0)), (1, .inl x1), (2, .inl x2), (3, .inl x3)]) (st' := [.inl (0 : Int32), .inl x2]) (m2 := m) (by decide +kernel) rfl trivial ?_
    refine jS.step (c' := (14, [(0, .inr (.inr x0)), (1, .inl x1), (2, .inl x2), (3, .inl x3)], [.inl (if x2 < (0 : Int32) then (0 : Int32) else x2)], m)) (jSt.mmax (idx := 92) (by omega) (jW_of 983 (by decide +kernel) rfl) (jW_of 553 (by decide +kernel) rfl) (jW_of 251 (by decide +kernel) rfl) (jW_of 554 (by decide +kernel) rfl) (Nat.le_of_ble_eq_true rfl) (by decide +kernel)) ?_
    obtain ⟨w4, H⟩ := jgd_ok H
    refine jS.adv O [(.istore_n 2, 0, 0, 0, 0, 0, 0), (.iload_n 3, 0, 0, 0, 0, 0, 0), (.aload_n 0, 0, 0, 0, 0, 0, 0)] (pc' := 17) (ls' := [(2, .inl (if x2 < (0 : Int32) then (0 : Int32) else x2)), (0, .inr (.inr x0)), (1, .inl x1), (3, .inl x3)]) (st' := [.inr (.inr x0), .inl x3]) (m2 := m) (by decide +kernel) rfl trivial ?_
    refine jS.step (c' := (18, [(2, .inl (if x2 < (0 : Int32) then (0 : Int32) else x2)), (0, .inr (.inr x0)), (1, .inl x1), (3, .inl x3)], [.inl (Int32.ofNat (jZ m x0)), .inl x3], m)) (jSt.slen O w4 (by decide +kernel)) ?_
    refine jS.step (c' := (21, [(2, .inl (if x2 < (0 : Int32) then (0 : Int32) else x2)), (0, .inr (.inr x0)), (1, .inl x1), (3, .inl x3)], [.inl (if (Int32.ofNat (jZ m x0)) < x3 then (Int32.ofNat (jZ m x0)) else x3)], m)) (jSt.mmin (idx := 38) (by omega) (jW_of 984 (by decide +kernel) rfl) (jW_of 566 (by decide +kernel) rfl) (jW_of 251 (by decide +kernel) rfl) (jW_of 567 (by decide +kernel) rfl) (Nat.le_of_ble_eq_true rfl) (by decide +kernel)) ?_
    refine jS.adv O [(.istore_n 3, 0, 0, 0, 0, 0, 0), (.iload_n 2, 0, 0, 0, 0, 0, 0), (.iload_n 3, 0, 0, 0, 0, 0, 0)] (pc' := 24) (ls' := [(3, .inl (if (Int32.ofNat (jZ m x0)) < x3 then (Int32.ofNat (jZ m x0)) else x3)), (2, .inl (if x2 < (0 : Int32) then (0 : Int32) else x2)), (0, .inr (.inr x0)), (1, .inl x1)]) (st' := [.inl (if (Int32.ofNat (jZ m x0)) < x3 then (Int32.ofNat (jZ m x0)) else x3), .inl (if x2 < (0 : Int32) then (0 : Int32) else x2)]) (m2 := m) (by decide +kernel) rfl trivial ?_
    refine jS.br (i := .if_icmp .lt 5) (P := (if x2 < (0 : Int32) then (0 : Int32) else x2) < (if (Int32.ofNat (jZ m x0)) < x3 then (Int32.ofNat (jZ m x0)) else x3)) (rest := []) rfl (by decide +kernel) (tgt := 29) (by decide) (fun c5 => ?_) (fun c5 => ?_)
    · replace H := jif_t c5 H
      refine jS.adv O [(.aload_n 0, 0, 0, 0, 0, 0, 0), (.iload_n 1, 0, 0, 0, 0, 0, 0), (.iload_n 2, 0, 0, 0, 0, 0, 0), (.iload_n 3, 0, 0, 0, 0, 0, 0)] (pc' := 33) (ls' := [(3, .inl (if (Int32.ofNat (jZ m x0)) < x3 then (Int32.ofNat (jZ m x0)) else x3)), (2, .inl (if x2 < (0 : Int32) then (0 : Int32) else x2)), (0, .inr (.inr x0)), (1, .inl x1)]) (st' := [.inl (if (Int32.ofNat (jZ m x0)) < x3 then (Int32.ofNat (jZ m x0)) else x3), .inl (if x2 < (0 : Int32) then (0 : Int32) else x2), .inl x1, .inr (.inr x0)]) (m2 := m) (by decide +kernel) rfl trivial ?_
      obtain ⟨t7, w6, H⟩ := jb_ok H
      refine jS.step (c' := (36, [(3, .inl (if (Int32.ofNat (jZ m x0)) < x3 then (Int32.ofNat (jZ m x0)) else x3)), (2, .inl (if x2 < (0 : Int32) then (0 : Int32) else x2)), (0, .inr (.inr x0)), (1, .inl x1)], [.inl t7], m)) (jSt.callS (As := [.inr (.inr x0), .inl x1, .inl (if x2 < (0 : Int32) then (0 : Int32) else x2), .inl (if (Int32.ofNat (jZ m x0)) < x3 then (Int32.ofNat (jZ m x0)) else x3)]) (rest := []) O (ec_J1_indexOfChar_4cfef (d := 2) O (Nat.le_refl _) w6) (by omega) jmw_J1_indexOfChar_4cfef jmv_J1_indexOfChar_4cfef jmn_J1_indexOfChar_4cfef (idx := 95) (jW_of 985 (by decide +kernel) rfl) (Nat.le_of_ble_eq_true rfl) (by decide +kernel)) ?_
      replace H := Option.some.inj H
      subst H
      exact jS.iret rfl (by decide +kernel)
    · replace H := jif_f c5 H
      refine jS.adv O [(.iconst (-1), 0, 0, 0, 0, (-1 : Int32), 0)] (pc' := 28) (ls' := [(3, .inl (if (Int32.ofNat (jZ m x0)) < x3 then (Int32.ofNat (jZ m x0)) else x3)), (2, .inl (if x2 < (0 : Int32) then (0 : Int32) else x2)), (0, .inr (.inr x0)), (1, .inl x1)]) (st' := [.inl (-1 : Int32)]) (m2 := m) (by decide +kernel) rfl trivial ?_
      replace H := Option.some.inj H
      subst H
      exact jS.iret rfl (by decide +kernel)
  · replace H := jif_t (Classical.not_not.mp c3) H
    refine jS.adv O [(.iconst (-1), 0, 0, 0, 0, (-1 : Int32), 0)] (pc' := 8) (ls' := [(0, .inr (.inr x0)), (1, .inl x1), (2, .inl x2), (3, .inl x3)]) (st' := [.inl (-1 : Int32)]) (m2 := m) (by decide +kernel) rfl trivial ?_
    replace H := Option.some.inj H
    subst H
    exact jS.iret rfl (by decide +kernel)
def c_J0_indexOf_7cf53 (F : Nat) (m : jMe) (x0 : Nat) (x1 : Int32) (x2 : Int32) : Option (Int32) :=
  jgd (jK m x0 = 10) <| jb (c_J0_isLatin1_aae02 F m x0) fun t3 => (if t3 = 0 then jb (c_J0_length_8abf5 F m x0) fun t6 => none else jb (c_J0_length_8abf5 F m x0) fun t8 => jb (c_J1_indexOf_4cfef F m (x0 + 8) x1 x2 t8) fun t10 => some t10)
theorem ec_J0_indexOf_7cf53 {X : jX} {l : Launch} {d : Nat} (O : jOk X) (hd : 4 ≤ d) {F : Nat} {m : jMe} {x0 : Nat} {x1 : Int32} {x2 : Int32} {r : Int32} (H : c_J0_indexOf_7cf53 F m x0 x1 x2 = some r) : jH X l d jm_J0_indexOf_7cf53 [.inr (.inr x0), .inl x1, .inl x2] m (some (.inl r)) m := by
  refine jH.of jpl_RJ0 rfl (Nat.le_of_ble_eq_true rfl) ?_
  show jS X l d jm_J0_indexOf_7cf53 m _ _ (0, [(0, .inr (.inr x0)), (1, .inl x1), (2, .inl x2)], [], m)
  unfold c_J0_indexOf_7cf53 at H
  obtain ⟨w1, H⟩ := jgd_ok H
  refine jS.adv O [(.aload_n 0, 0, 0, 0, 0, 0, 0)] (pc' := 1) (ls' := [(0, .inr (.inr x0)), (1, .inl x1), (2, .inl x2)]) (st' := [.inr (.inr x0)]) (m2 := m) (by decide +kernel) rfl trivial ?_
  obtain ⟨t3, w2, H⟩ := jb_ok H
  refine jS.step (c' := (4, [(0, .inr (.inr x0)), (1, .inl x1), (2, .inl x2)], [.inl t3], m)) (jSt.callT (As := []) (rest := []) O (ec_J0_isLatin1_aae02 (d := 2) O (Nat.le_refl _) w2) w1 rfl (by omega) jmw_J0_isLatin1_aae02 jmv_J0_isLatin1_aae02 jmn_J0_isLatin1_aae02 (idx := 492) (jW_of 912 (by decide +kernel) rfl) (Nat.le_of_ble_eq_true rfl) (by decide +kernel)) ?_
  refine jS.br (i := .ifCond .eq 19) (P := t3 = 0) (rest := []) rfl (by decide +kernel) (tgt := 23) (by decide) (fun c4 => ?_) (fun c4 => ?_)
  · replace H := jif_t c4 H
    refine jS.adv O [(.aload_n 0, 0, 0, 0, 0, 0, 0)] (pc' := 24) (ls' := [(0, .inr (.inr x0)), (1, .inl x1), (2, .inl x2)]) (st' := [.inr (.inr x0)]) (m2 := m) (by decide +kernel) rfl trivial ?_
    refine jS.step (c' := (27, [(0, .inr (.inr x0)), (1, .inl x1), (2, .inl x2)], [.inr (.inr (x0 + 8))], m)) (jSt.sval (idx := 9) O w1 (jW_of 2020 (by decide +kernel) rfl) (by decide +kernel)) ?_
    refine jS.adv O [(.iload_n 1, 0, 0, 0, 0, 0, 0), (.iload_n 2, 0, 0, 0, 0, 0, 0), (.aload_n 0, 0, 0, 0, 0, 0, 0)] (pc' := 30) (ls' := [(0, .inr (.inr x0)), (1, .inl x1), (2, .inl x2)]) (st' := [.inr (.inr x0), .inl x2, .inl x1, .inr (.inr (x0 + 8))]) (m2 := m) (by decide +kernel) rfl trivial ?_
    obtain ⟨t6, w5, H⟩ := jb_ok H
    refine jS.step (c' := (33, [(0, .inr (.inr x0)), (1, .inl x1), (2, .inl x2)], [.inl t6, .inl x2, .inl x1, .inr (.inr (x0 + 8))], m)) (jSt.callT (As := []) (rest := [.inl x2, .inl x1, .inr (.inr (x0 + 8))]) O (ec_J0_length_8abf5 (d := 3) O (Nat.le_refl _) w5) w1 rfl (by omega) jmw_J0_length_8abf5 jmv_J0_length_8abf5 jmn_J0_length_8abf5 (idx := 505) (jW_of 976 (by decide +kernel) rfl) (Nat.le_of_ble_eq_true rfl) (by decide +kernel)) ?_
    cases H
  · replace H := jif_f c4 H
    refine jS.adv O [(.aload_n 0, 0, 0, 0, 0, 0, 0)] (pc' := 8) (ls' := [(0, .inr (.inr x0)), (1, .inl x1), (2, .inl x2)]) (st' := [.inr (.inr x0)]) (m2 := m) (by decide +kernel) rfl trivial ?_
    refine jS.step (c' := (11, [(0, .inr (.inr x0)), (1, .inl x1), (2, .inl x2)], [.inr (.inr (x0 + 8))], m)) (jSt.sval (idx := 9) O w1 (jW_of 2020 (by decide +kernel) rfl) (by decide +kernel)) ?_
    refine jS.adv O [(.iload_n 1, 0, 0, 0, 0, 0, 0), (.iload_n 2, 0, 0, 0, 0, 0, 0), (.aload_n 0, 0, 0, 0, 0, 0, 0)] (pc' := 14) (ls' := [(0, .inr (.inr x0)), (1, .inl x1), (2, .inl x2)]) (st' := [.inr (.inr x0), .inl x2, .inl x1, .inr (.inr (x0 + 8))]) (m2 := m) (by decide +kernel) rfl trivial ?_
    obtain ⟨t8, w7, H⟩ := jb_ok H
    refine jS.step (c' := (17, [(0, .inr (.inr x0)), (1, .inl x1), (2, .inl x2)], [.inl t8, .inl x2, .inl x1, .inr (.inr (x0 + 8))], m)) (jSt.callT (As := []) (rest := [.inl x2, .inl x1, .inr (.inr (x0 + 8))]) O (ec_J0_length_8abf5 (d := 3) O (Nat.le_refl _) w7) w1 rfl (by omega) jmw_J0_length_8abf5 jmv_J0_length_8abf5 jmn_J0_length_8abf5 (idx := 505) (jW_of 976 (by decide +kernel) rfl) (Nat.le_of_ble_eq_true rfl) (by decide +kernel)) ?_
    obtain ⟨t10, w9, H⟩ := jb_ok H
    refine jS.step (c' := (20, [(0, .inr (.inr x0)), (1, .inl x1), (2, .inl x2)], [.inl t10], m)) (jSt.callS (As := [.inr (.inr (x0 + 8)), .inl x1, .inl x2, .inl t8]) (rest := []) O (ec_J1_indexOf_4cfef (d := 3) O (Nat.le_refl _) w9) (by omega) jmw_J1_indexOf_4cfef jmv_J1_indexOf_4cfef jmn_J1_indexOf_4cfef (idx := 637) (jW_of 977 (by decide +kernel) rfl) (Nat.le_of_ble_eq_true rfl) (by decide +kernel)) ?_
    refine jS.adv O [(.goto 16, 0, 36, 0, 0, 0, 0)] (pc' := 36) (ls' := [(0, .inr (.inr x0)), (1, .inl x1), (2, .inl x2)]) (st' := [.inl t10]) (m2 := m) (by decide +kernel) rfl trivial ?_
    replace H := Option.some.inj H
    subst H
    exact jS.iret rfl (by decide +kernel)
def c_J0_indexOf_0f7a4 (F : Nat) (m : jMe) (x0 : Nat) (x1 : Int32) : Option (Int32) :=
  jgd (jK m x0 = 10) <| jb (c_J0_indexOf_7cf53 F m x0 x1 (0 : Int32)) fun t3 => some t3
theorem ec_J0_indexOf_0f7a4 {X : jX} {l : Launch} {d : Nat} (O : jOk X) (hd : 5 ≤ d) {F : Nat} {m : jMe} {x0 : Nat} {x1 : Int32} {r : Int32} (H : c_J0_indexOf_0f7a4 F m x0 x1 = some r) : jH X l d jm_J0_indexOf_0f7a4 [.inr (.inr x0), .inl x1] m (some (.inl r)) m := by
  refine jH.of jpl_RJ0 rfl (Nat.le_of_ble_eq_true rfl) ?_
  show jS X l d jm_J0_indexOf_0f7a4 m _ _ (0, [(0, .inr (.inr x0)), (1, .inl x1)], [], m)
  unfold c_J0_indexOf_0f7a4 at H
  obtain ⟨w1, H⟩ := jgd_ok H
  refine jS.adv O [(.aload_n 0, 0, 0, 0, 0, 0, 0), (.iload_n 1, 0, 0, 0, 0, 0, 0), (.iconst 0, 0, 0, 0, 0, (0 : Int32), 0)] (pc' := 3) (ls' := [(0, .inr (.inr x0)), (1, .inl x1)]) (st' := [.inl (0 : Int32), .inl x1, .inr (.inr x0)]) (m2 := m) (by decide +kernel) rfl trivial ?_
  obtain ⟨t3, w2, H⟩ := jb_ok H
  refine jS.step (c' := (6, [(0, .inr (.inr x0)), (1, .inl x1)], [.inl t3], m)) (jSt.callT (As := [.inl x1, .inl (0 : Int32)]) (rest := []) O (ec_J0_indexOf_7cf53 (d := 4) O (Nat.le_refl _) w2) w1 rfl (by omega) jmw_J0_indexOf_7cf53 jmv_J0_indexOf_7cf53 jmn_J0_indexOf_7cf53 (idx := 633) (jW_of 972 (by decide +kernel) rfl) (Nat.le_of_ble_eq_true rfl) (by decide +kernel)) ?_
  replace H := Option.some.inj H
  subst H
  exact jS.iret rfl (by decide +kernel)
