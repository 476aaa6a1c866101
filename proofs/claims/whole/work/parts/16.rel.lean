/-! Relation, Text, Image, Tree -/
def c_X1_init (F : Nat) (m : jMe) (x0 : Nat) : Option (jMe) :=
  jgd (¬ x0 = 0) <| jgd (jK m x0 = 33) <| jgd (¬ (4 : Int32) < 0 ∧ (4 : Int32).toNatClampNeg ≤ 10000) <| jlet (jnew (jsI (jsI (jsI (jsI m x0 0 (0 : Int32)) x0 1 (0 : Int32)) x0 2 (0 : Int32)) x0 3 (0 : Int32)) 1 (4 : Int32).toNatClampNeg (4 : Int32).toNatClampNeg) fun m4 => jgd (jK m4 x0 = 33) <| jgd (¬ (4 : Int32) < 0 ∧ (4 : Int32).toNatClampNeg ≤ 10000) <| jlet (jnew (jsP m4 x0 4 (32 + jN (jsI (jsI (jsI (jsI m x0 0 (0 : Int32)) x0 1 (0 : Int32)) x0 2 (0 : Int32)) x0 3 (0 : Int32)))) 1 (4 : Int32).toNatClampNeg (4 : Int32).toNatClampNeg) fun m7 => jgd (jK m7 x0 = 33) <| jgd (¬ (32 : Int32) < 0 ∧ (32 : Int32).toNatClampNeg ≤ 10000) <| jlet (jnew (jsP m7 x0 5 (32 + jN (jsP m4 x0 4 (32 + jN (jsI (jsI (jsI (jsI m x0 0 (0 : Int32)) x0 1 (0 : Int32)) x0 2 (0 : Int32)) x0 3 (0 : Int32)))))) 1 (32 : Int32).toNatClampNeg (32 : Int32).toNatClampNeg) fun m10 => jgd (jK m10 x0 = 33) <| jlet (jsP m10 x0 6 (32 + jN (jsP m7 x0 5 (32 + jN (jsP m4 x0 4 (32 + jN (jsI (jsI (jsI (jsI m x0 0 (0 : Int32)) x0 1 (0 : Int32)) x0 2 (0 : Int32)) x0 3 (0 : Int32)))))))) fun m12 => some m12
theorem ec_X1_init {X : jX} {l : Launch} {d : Nat} (O : jOk X) (hd : 2 ≤ d) {F : Nat} {m : jMe} {x0 : Nat} {r : jMe} (H : c_X1_init F m x0 = some r) : jH X l d jm_X1_init [.inr (.inr x0)] m none r := by
  refine jH.of jpl_RX1 rfl (Nat.le_of_ble_eq_true rfl) ?_
  show jS X l d jm_X1_init m _ _ (0, [(0, .inr (.inr x0))], [], m)
  unfold c_X1_init at H
  obtain ⟨w1, H⟩ := jgd_ok H
  refine jS.adv O [(.aload_n 0, 0, 0, 0, 0, 0, 0)] (pc' := 1) (ls' := [(0, .inr (.inr x0))]) (st' := [.inr (.inr x0)]) (m2 := m) (by decide +kernel) rfl trivial ?_
  refine jS.step (c' := (4, [(0, .inr (.inr x0))], [], m)) (jSt.obj (idx := 3) (by omega) w1 (jW_of 319 (by decide +kernel) rfl) (jW_of 267 (by decide +kernel) rfl) (jW_of 268 (by decide +kernel) rfl) (Nat.le_of_ble_eq_true rfl) (by decide +kernel)) ?_
  obtain ⟨w2, H⟩ := jgd_ok H
  obtain ⟨w3, H⟩ := jgd_ok H
  obtain ⟨m4, em4, H⟩ := jlet_ok H
  refine jS.adv O [(.aload_n 0, 0, 0, 0, 0, 0, 0), (.iconst 0, 0, 0, 0, 0, (0 : Int32), 0), (.putfield 9, 0, 1, 0, 320, 0, 0), (.aload_n 0, 0, 0, 0, 0, 0, 0), (.iconst 0, 0, 0, 0, 0, (0 : Int32), 0), (.putfield 15, 0, 1, 1, 322, 0, 0), (.aload_n 0, 0, 0, 0, 0, 0, 0), (.iconst 0, 0, 0, 0, 0, (0 : Int32), 0), (.putfield 19, 0, 1, 2, 324, 0, 0), (.aload_n 0, 0, 0, 0, 0, 0, 0), (.iconst 0, 0, 0, 0, 0, (0 : Int32), 0), (.putfield 22, 0, 1, 3, 326, 0, 0), (.aload_n 0, 0, 0, 0, 0, 0, 0), (.iconst 4, 0, 0, 0, 0, (4 : Int32), 0), (.newarray .int, 0, 1, 313, 0, 0, 0)] (pc' := 28) (ls' := [(0, .inr (.inr x0))]) (st' := [.inr (.inr (32 + jN (jsI (jsI (jsI (jsI m x0 0 (0 : Int32)) x0 1 (0 : Int32)) x0 2 (0 : Int32)) x0 3 (0 : Int32)))), .inr (.inr x0)]) (m2 := (jnew (jsI (jsI (jsI (jsI m x0 0 (0 : Int32)) x0 1 (0 : Int32)) x0 2 (0 : Int32)) x0 3 (0 : Int32)) 1 (4 : Int32).toNatClampNeg (4 : Int32).toNatClampNeg)) (by decide +kernel) rfl ⟨⟨w2, Or.inl rfl⟩, w2, w2, w2, w3, trivial⟩ ?_
  refine jS.cast (c' := (28, [(0, .inr (.inr x0))], [.inr (.inr (32 + jN (jsI (jsI (jsI (jsI m x0 0 (0 : Int32)) x0 1 (0 : Int32)) x0 2 (0 : Int32)) x0 3 (0 : Int32)))), .inr (.inr x0)], m4)) (by rw [em4]) ?_
  obtain ⟨w5, H⟩ := jgd_ok H
  obtain ⟨w6, H⟩ := jgd_ok H
  obtain ⟨m7, em7, H⟩ := jlet_ok H
  refine jS.adv O [(.putfield 25, 0, 1, 4, 328, 0, 0), (.aload_n 0, 0, 0, 0, 0, 0, 0), (.iconst 4, 0, 0, 0, 0, (4 : Int32), 0), (.newarray .int, 0, 1, 313, 0, 0, 0)] (pc' := 35) (ls' := [(0, .inr (.inr x0))]) (st' := [.inr (.inr (32 + jN (jsP m4 x0 4 (32 + jN (jsI (jsI (jsI (jsI m x0 0 (0 : Int32)) x0 1 (0 : Int32)) x0 2 (0 : Int32)) x0 3 (0 : Int32)))))), .inr (.inr x0)]) (m2 := (jnew (jsP m4 x0 4 (32 + jN (jsI (jsI (jsI (jsI m x0 0 (0 : Int32)) x0 1 (0 : Int32)) x0 2 (0 : Int32)) x0 3 (0 : Int32)))) 1 (4 : Int32).toNatClampNeg (4 : Int32).toNatClampNeg)) (by decide +kernel) rfl ⟨w5, w6, trivial⟩ ?_
  refine jS.cast (c' := (35, [(0, .inr (.inr x0))], [.inr (.inr (32 + jN (jsP m4 x0 4 (32 + jN (jsI (jsI (jsI (jsI m x0 0 (0 : Int32)) x0 1 (0 : Int32)) x0 2 (0 : Int32)) x0 3 (0 : Int32)))))), .inr (.inr x0)], m7)) (by rw [em7]) ?_
  obtain ⟨w8, H⟩ := jgd_ok H
  obtain ⟨w9, H⟩ := jgd_ok H
  obtain ⟨m10, em10, H⟩ := jlet_ok H
  refine jS.adv O [(.putfield 29, 0, 1, 5, 329, 0, 0), (.aload_n 0, 0, 0, 0, 0, 0, 0), (.bipush 32, 0, 0, 0, 0, (32 : Int32), 0), (.newarray .int, 0, 1, 313, 0, 0, 0)] (pc' := 43) (ls' := [(0, .inr (.inr x0))]) (st' := [.inr (.inr (32 + jN (jsP m7 x0 5 (32 + jN (jsP m4 x0 4 (32 + jN (jsI (jsI (jsI (jsI m x0 0 (0 : Int32)) x0 1 (0 : Int32)) x0 2 (0 : Int32)) x0 3 (0 : Int32)))))))), .inr (.inr x0)]) (m2 := (jnew (jsP m7 x0 5 (32 + jN (jsP m4 x0 4 (32 + jN (jsI (jsI (jsI (jsI m x0 0 (0 : Int32)) x0 1 (0 : Int32)) x0 2 (0 : Int32)) x0 3 (0 : Int32)))))) 1 (32 : Int32).toNatClampNeg (32 : Int32).toNatClampNeg)) (by decide +kernel) rfl ⟨w8, w9, trivial⟩ ?_
  refine jS.cast (c' := (43, [(0, .inr (.inr x0))], [.inr (.inr (32 + jN (jsP m7 x0 5 (32 + jN (jsP m4 x0 4 (32 + jN (jsI (jsI (jsI (jsI m x0 0 (0 : Int32)) x0 1 (0 : Int32)) x0 2 (0 : Int32)) x0 3 (0 : Int32)))))))), .inr (.inr x0)], m10)) (by rw [em10]) ?_
  obtain ⟨w11, H⟩ := jgd_ok H
  obtain ⟨m12, em12, H⟩ := jlet_ok H
  refine jS.adv O [(.putfield 32, 0, 1, 6, 330, 0, 0)] (pc' := 46) (ls' := [(0, .inr (.inr x0))]) (st' := []) (m2 := (jsP m10 x0 6 (32 + jN (jsP m7 x0 5 (32 + jN (jsP m4 x0 4 (32 + jN (jsI (jsI (jsI (jsI m x0 0 (0 : Int32)) x0 1 (0 : Int32)) x0 2 (0 : Int32)) x0 3 (0 : Int32))))))))) (by decide +kernel) rfl ⟨w11, trivial⟩ ?_
  refine jS.cast (c' := (46, [(0, .inr (.inr x0))], [], m12)) (by rw [em12]) ?_
  replace H := Option.some.inj H
  subst H
  exact jS.vret rfl (by decide +kernel)
def c_X1_keep_l24_b (F : Nat) (B : jMe → Nat → Nat → Int32 → Option (jMe)) (m : jMe) (y0 : Nat) (y1 : Nat) (y5 : Int32) : Option (jMe) :=
  (if (4 : Int32) ≤ y5 then some (m) else jgd (jK m y0 = 33) <| jgd (jK m y1 = 5) <| jgd (jin y5 (jZ m y1) = true) <| jgd (jK m (jP m y1 y5.toNatClampNeg) = 36) <| jgd (jK m (jP m y0 4) = 1) <| jgd (jin y5 (jZ m (jP m y0 4)) = true) <| jgd (jin y5 (jZ m y1) = true) <| jgd (jK m (jP (jsI m (jP m y0 4) y5.toNatClampNeg (jI m (jP m y1 y5.toNatClampNeg) 5)) y1 y5.toNatClampNeg) = 36) <| jgd (jK m (jP (jsI m (jP m y0 4) y5.toNatClampNeg (jI m (jP m y1 y5.toNatClampNeg) 5)) y0 5) = 1) <| jgd (jin y5 (jZ m (jP (jsI m (jP m y0 4) y5.toNatClampNeg (jI m (jP m y1 y5.toNatClampNeg) 5)) y0 5)) = true) <| jgd (jin y5 (jZ m y1) = true) <| jgd (jK m (jP (jsI (jsI m (jP m y0 4) y5.toNatClampNeg (jI m (jP m y1 y5.toNatClampNeg) 5)) (jP (jsI m (jP m y0 4) y5.toNatClampNeg (jI m (jP m y1 y5.toNatClampNeg) 5)) y0 5) y5.toNatClampNeg (jI (jsI m (jP m y0 4) y5.toNatClampNeg (jI m (jP m y1 y5.toNatClampNeg) 5)) (jP (jsI m (jP m y0 4) y5.toNatClampNeg (jI m (jP m y1 y5.toNatClampNeg) 5)) y1 y5.toNatClampNeg) 6)) y1 y5.toNatClampNeg) = 36) <| jgd (jK m (jP (jsI (jsI m (jP m y0 4) y5.toNatClampNeg (jI m (jP m y1 y5.toNatClampNeg) 5)) (jP (jsI m (jP m y0 4) y5.toNatClampNeg (jI m (jP m y1 y5.toNatClampNeg) 5)) y0 5) y5.toNatClampNeg (jI (jsI m (jP m y0 4) y5.toNatClampNeg (jI m (jP m y1 y5.toNatClampNeg) 5)) (jP (jsI m (jP m y0 4) y5.toNatClampNeg (jI m (jP m y1 y5.toNatClampNeg) 5)) y1 y5.toNatClampNeg) 6)) (jP (jsI (jsI m (jP m y0 4) y5.toNatClampNeg (jI m (jP m y1 y5.toNatClampNeg) 5)) (jP (jsI m (jP m y0 4) y5.toNatClampNeg (jI m (jP m y1 y5.toNatClampNeg) 5)) y0 5) y5.toNatClampNeg (jI (jsI m (jP m y0 4) y5.toNatClampNeg (jI m (jP m y1 y5.toNatClampNeg) 5)) (jP (jsI m (jP m y0 4) y5.toNatClampNeg (jI m (jP m y1 y5.toNatClampNeg) 5)) y1 y5.toNatClampNeg) 6)) y1 y5.toNatClampNeg) 1) = 1) <| jgd (jK m (jP (jsI (jsI m (jP m y0 4) y5.toNatClampNeg (jI m (jP m y1 y5.toNatClampNeg) 5)) (jP (jsI m (jP m y0 4) y5.toNatClampNeg (jI m (jP m y1 y5.toNatClampNeg) 5)) y0 5) y5.toNatClampNeg (jI (jsI m (jP m y0 4) y5.toNatClampNeg (jI m (jP m y1 y5.toNatClampNeg) 5)) (jP (jsI m (jP m y0 4) y5.toNatClampNeg (jI m (jP m y1 y5.toNatClampNeg) 5)) y1 y5.toNatClampNeg) 6)) y0 6) = 1) <| jgd (¬ (0 : Int32) < 0) <| jgd (¬ (y5 * (8 : Int32)) < 0) <| jgd (¬ (8 : Int32) < 0) <| jgd ((0 : Int32).toNatClampNeg + (8 : Int32).toNatClampNeg ≤ jZ (jsI (jsI m (jP m y0 4) y5.toNatClampNeg (jI m (jP m y1 y5.toNatClampNeg) 5)) (jP (jsI m (jP m y0 4) y5.toNatClampNeg (jI m (jP m y1 y5.toNatClampNeg) 5)) y0 5) y5.toNatClampNeg (jI (jsI m (jP m y0 4) y5.toNatClampNeg (jI m (jP m y1 y5.toNatClampNeg) 5)) (jP (jsI m (jP m y0 4) y5.toNatClampNeg (jI m (jP m y1 y5.toNatClampNeg) 5)) y1 y5.toNatClampNeg) 6)) (jP (jsI (jsI m (jP m y0 4) y5.toNatClampNeg (jI m (jP m y1 y5.toNatClampNeg) 5)) (jP (jsI m (jP m y0 4) y5.toNatClampNeg (jI m (jP m y1 y5.toNatClampNeg) 5)) y0 5) y5.toNatClampNeg (jI (jsI m (jP m y0 4) y5.toNatClampNeg (jI m (jP m y1 y5.toNatClampNeg) 5)) (jP (jsI m (jP m y0 4) y5.toNatClampNeg (jI m (jP m y1 y5.toNatClampNeg) 5)) y1 y5.toNatClampNeg) 6)) (jP (jsI (jsI m (jP m y0 4) y5.toNatClampNeg (jI m (jP m y1 y5.toNatClampNeg) 5)) (jP (jsI m (jP m y0 4) y5.toNatClampNeg (jI m (jP m y1 y5.toNatClampNeg) 5)) y0 5) y5.toNatClampNeg (jI (jsI m (jP m y0 4) y5.toNatClampNeg (jI m (jP m y1 y5.toNatClampNeg) 5)) (jP (jsI m (jP m y0 4) y5.toNatClampNeg (jI m (jP m y1 y5.toNatClampNeg) 5)) y1 y5.toNatClampNeg) 6)) y1 y5.toNatClampNeg) 1)) <| jgd ((y5 * (8 : Int32)).toNatClampNeg + (8 : Int32).toNatClampNeg ≤ jZ (jsI (jsI m (jP m y0 4) y5.toNatClampNeg (jI m (jP m y1 y5.toNatClampNeg) 5)) (jP (jsI m (jP m y0 4) y5.toNatClampNeg (jI m (jP m y1 y5.toNatClampNeg) 5)) y0 5) y5.toNatClampNeg (jI (jsI m (jP m y0 4) y5.toNatClampNeg (jI m (jP m y1 y5.toNatClampNeg) 5)) (jP (jsI m (jP m y0 4) y5.toNatClampNeg (jI m (jP m y1 y5.toNatClampNeg) 5)) y1 y5.toNatClampNeg) 6)) (jP (jsI (jsI m (jP m y0 4) y5.toNatClampNeg (jI m (jP m y1 y5.toNatClampNeg) 5)) (jP (jsI m (jP m y0 4) y5.toNatClampNeg (jI m (jP m y1 y5.toNatClampNeg) 5)) y0 5) y5.toNatClampNeg (jI (jsI m (jP m y0 4) y5.toNatClampNeg (jI m (jP m y1 y5.toNatClampNeg) 5)) (jP (jsI m (jP m y0 4) y5.toNatClampNeg (jI m (jP m y1 y5.toNatClampNeg) 5)) y1 y5.toNatClampNeg) 6)) y0 6)) <| B (jcpI (jsI (jsI m (jP m y0 4) y5.toNatClampNeg (jI m (jP m y1 y5.toNatClampNeg) 5)) (jP (jsI m (jP m y0 4) y5.toNatClampNeg (jI m (jP m y1 y5.toNatClampNeg) 5)) y0 5) y5.toNatClampNeg (jI (jsI m (jP m y0 4) y5.toNatClampNeg (jI m (jP m y1 y5.toNatClampNeg) 5)) (jP (jsI m (jP m y0 4) y5.toNatClampNeg (jI m (jP m y1 y5.toNatClampNeg) 5)) y1 y5.toNatClampNeg) 6)) (jP (jsI (jsI m (jP m y0 4) y5.toNatClampNeg (jI m (jP m y1 y5.toNatClampNeg) 5)) (jP (jsI m (jP m y0 4) y5.toNatClampNeg (jI m (jP m y1 y5.toNatClampNeg) 5)) y0 5) y5.toNatClampNeg (jI (jsI m (jP m y0 4) y5.toNatClampNeg (jI m (jP m y1 y5.toNatClampNeg) 5)) (jP (jsI m (jP m y0 4) y5.toNatClampNeg (jI m (jP m y1 y5.toNatClampNeg) 5)) y1 y5.toNatClampNeg) 6)) (jP (jsI (jsI m (jP m y0 4) y5.toNatClampNeg (jI m (jP m y1 y5.toNatClampNeg) 5)) (jP (jsI m (jP m y0 4) y5.toNatClampNeg (jI m (jP m y1 y5.toNatClampNeg) 5)) y0 5) y5.toNatClampNeg (jI (jsI m (jP m y0 4) y5.toNatClampNeg (jI m (jP m y1 y5.toNatClampNeg) 5)) (jP (jsI m (jP m y0 4) y5.toNatClampNeg (jI m (jP m y1 y5.toNatClampNeg) 5)) y1 y5.toNatClampNeg) 6)) y1 y5.toNatClampNeg) 1) (0 : Int32).toNatClampNeg (jP (jsI (jsI m (jP m y0 4) y5.toNatClampNeg (jI m (jP m y1 y5.toNatClampNeg) 5)) (jP (jsI m (jP m y0 4) y5.toNatClampNeg (jI m (jP m y1 y5.toNatClampNeg) 5)) y0 5) y5.toNatClampNeg (jI (jsI m (jP m y0 4) y5.toNatClampNeg (jI m (jP m y1 y5.toNatClampNeg) 5)) (jP (jsI m (jP m y0 4) y5.toNatClampNeg (jI m (jP m y1 y5.toNatClampNeg) 5)) y1 y5.toNatClampNeg) 6)) y0 6) (y5 * (8 : Int32)).toNatClampNeg (8 : Int32).toNatClampNeg) y0 y1 (y5 + (1 : Int32)))
theorem ec_X1_keep_l24_b {X : jX} {l : Launch} {d : Nat} (O : jOk X) (hd : 2 ≤ d) {F : Nat} {m0 m' : jMe} {v : Option jAV} {B : jMe → Nat → Nat → Int32 → Option (jMe)} (hB : ∀ (m : jMe) (y0 : Nat) (y1 : Nat) (y5 : Int32) (r : jMe), B m y0 y1 y5 = some r → (jS X l d jm_X1_keep m0 v m' (86, [], [], r)) → jS X l d jm_X1_keep m0 v m' (24, [(0, .inr (.inr y0)), (1, .inr (.inr y1)), (5, .inl y5)], [], m)) {m : jMe} {y0 : Nat} {y1 : Nat} {y5 : Int32} {r : jMe} (H : c_X1_keep_l24_b F B m y0 y1 y5 = some r) (h2 : jS X l d jm_X1_keep m0 v m' (86, [], [], r)) : jS X l d jm_X1_keep m0 v m' (24, [(0, .inr (.inr y0)), (1, .inr (.inr y1)), (5, .inl y5)], [], m) := by
  unfold c_X1_keep_l24_b at H
  refine jS.adv O [(.iload 5, 0, 0, 0, 0, 0, 0), (.iconst 4, 0, 0, 0, 0, (4 : Int32), 0)] (pc' := 27) (ls' := [(0, .inr (.inr y0)), (1, .inr (.inr y1)), (5, .inl y5)]) (st' := [.inl (4 : Int32), .inl y5]) (m2 := m) (by decide +kernel) rfl trivial ?_
  refine jS.br (i := .if_icmp .ge 59) (P := (4 : Int32) ≤ y5) (rest := []) rfl (by decide +kernel) (tgt := 86) (by decide) (fun c2 => ?_) (fun c2 => ?_)
  · replace H := jif_t c2 H
    replace H := Option.some.inj H
    subst H
    refine jS.loc' [] (ls' := []) rfl ?_
    exact h2
  · replace H := jif_f c2 H
    obtain ⟨w3, H⟩ := jgd_ok H
    obtain ⟨w4, H⟩ := jgd_ok H
    obtain ⟨w5, H⟩ := jgd_ok H
    obtain ⟨w6, H⟩ := jgd_ok H
    obtain ⟨w7, H⟩ := jgd_ok H
    obtain ⟨w8, H⟩ := jgd_ok H
    obtain ⟨w9, H⟩ := jgd_ok H
    obtain ⟨w10, H⟩ := jgd_ok H
    obtain ⟨w11, H⟩ := jgd_ok H
    obtain ⟨w12, H⟩ := jgd_ok H
    obtain ⟨w13, H⟩ := jgd_ok H
    obtain ⟨w14, H⟩ := jgd_ok H
    obtain ⟨w15, H⟩ := jgd_ok H
    obtain ⟨w16, H⟩ := jgd_ok H
    obtain ⟨w17, H⟩ := jgd_ok H
    obtain ⟨w18, H⟩ := jgd_ok H
    obtain ⟨w19, H⟩ := jgd_ok H
    obtain ⟨w20, H⟩ := jgd_ok H
    obtain ⟨w21, H⟩ := jgd_ok H
    refine jS.adv O [(.aload_n 0, 0, 0, 0, 0, 0, 0), (.getfield 25, 0, 1, 4, 328, 0, 0), (.iload 5, 0, 0, 0, 0, 0, 0), (.aload_n 1, 0, 0, 0, 0, 0, 0), (.iload 5, 0, 0, 0, 0, 0, 0), (.aaload, 0, 5, 0, 0, 0, 0), (.getfield 35, 0, 4, 5, 508, 0, 0), (.iastore, 0, 0, 0, 0, 0, 0), (.aload_n 0, 0, 0, 0, 0, 0, 0), (.getfield 29, 0, 1, 5, 329, 0, 0), (.iload 5, 0, 0, 0, 0, 0, 0), (.aload_n 1, 0, 0, 0, 0, 0, 0), (.iload 5, 0, 0, 0, 0, 0, 0), (.aaload, 0, 5, 0, 0, 0, 0), (.getfield 40, 0, 4, 6, 512, 0, 0), (.iastore, 0, 0, 0, 0, 0, 0), (.aload_n 1, 0, 0, 0, 0, 0, 0), (.iload 5, 0, 0, 0, 0, 0, 0), (.aaload, 0, 5, 0, 0, 0, 0), (.getfield 43, 0, 4, 1, 496, 0, 0), (.iconst 0, 0, 0, 0, 0, (0 : Int32), 0), (.aload_n 0, 0, 0, 0, 0, 0, 0), (.getfield 32, 0, 1, 6, 330, 0, 0), (.iload 5, 0, 0, 0, 0, 0, 0), (.bipush 8, 0, 0, 0, 0, (8 : Int32), 0), (.imul, 0, 0, 0, 0, 0, 0), (.bipush 8, 0, 0, 0, 0, (8 : Int32), 0)] (pc' := 77) (ls' := [(0, .inr (.inr y0)), (1, .inr (.inr y1)), (5, .inl y5)]) (st' := [.inl (8 : Int32), .inl (y5 * (8 : Int32)), .inr (.inr (jP (jsI (jsI m (jP m y0 4) y5.toNatClampNeg (jI m (jP m y1 y5.toNatClampNeg) 5)) (jP (jsI m (jP m y0 4) y5.toNatClampNeg (jI m (jP m y1 y5.toNatClampNeg) 5)) y0 5) y5.toNatClampNeg (jI (jsI m (jP m y0 4) y5.toNatClampNeg (jI m (jP m y1 y5.toNatClampNeg) 5)) (jP (jsI m (jP m y0 4) y5.toNatClampNeg (jI m (jP m y1 y5.toNatClampNeg) 5)) y1 y5.toNatClampNeg) 6)) y0 6)), .inl (0 : Int32), .inr (.inr (jP (jsI (jsI m (jP m y0 4) y5.toNatClampNeg (jI m (jP m y1 y5.toNatClampNeg) 5)) (jP (jsI m (jP m y0 4) y5.toNatClampNeg (jI m (jP m y1 y5.toNatClampNeg) 5)) y0 5) y5.toNatClampNeg (jI (jsI m (jP m y0 4) y5.toNatClampNeg (jI m (jP m y1 y5.toNatClampNeg) 5)) (jP (jsI m (jP m y0 4) y5.toNatClampNeg (jI m (jP m y1 y5.toNatClampNeg) 5)) y1 y5.toNatClampNeg) 6)) (jP (jsI (jsI m (jP m y0 4) y5.toNatClampNeg (jI m (jP m y1 y5.toNatClampNeg) 5)) (jP (jsI m (jP m y0 4) y5.toNatClampNeg (jI m (jP m y1 y5.toNatClampNeg) 5)) y0 5) y5.toNatClampNeg (jI (jsI m (jP m y0 4) y5.toNatClampNeg (jI m (jP m y1 y5.toNatClampNeg) 5)) (jP (jsI m (jP m y0 4) y5.toNatClampNeg (jI m (jP m y1 y5.toNatClampNeg) 5)) y1 y5.toNatClampNeg) 6)) y1 y5.toNatClampNeg) 1))]) (m2 := (jsI (jsI m (jP m y0 4) y5.toNatClampNeg (jI m (jP m y1 y5.toNatClampNeg) 5)) (jP (jsI m (jP m y0 4) y5.toNatClampNeg (jI m (jP m y1 y5.toNatClampNeg) 5)) y0 5) y5.toNatClampNeg (jI (jsI m (jP m y0 4) y5.toNatClampNeg (jI m (jP m y1 y5.toNatClampNeg) 5)) (jP (jsI m (jP m y0 4) y5.toNatClampNeg (jI m (jP m y1 y5.toNatClampNeg) 5)) y1 y5.toNatClampNeg) 6))) (by decide +kernel) rfl ⟨w3, ⟨w4, jib_ok w5⟩, w6, ⟨w7, jib_ok w8⟩, w3, ⟨w4, jib_ok w9⟩, w10, ⟨w11, jib_ok w12⟩, ⟨w4, jib_ok w13⟩, w14, w3, trivial⟩ ?_
    refine jS.step (c' := (80, [(0, .inr (.inr y0)), (1, .inr (.inr y1)), (5, .inl y5)], [], (jcpI (jsI (jsI m (jP m y0 4) y5.toNatClampNeg (jI m (jP m y1 y5.toNatClampNeg) 5)) (jP (jsI m (jP m y0 4) y5.toNatClampNeg (jI m (jP m y1 y5.toNatClampNeg) 5)) y0 5) y5.toNatClampNeg (jI (jsI m (jP m y0 4) y5.toNatClampNeg (jI m (jP m y1 y5.toNatClampNeg) 5)) (jP (jsI m (jP m y0 4) y5.toNatClampNeg (jI m (jP m y1 y5.toNatClampNeg) 5)) y1 y5.toNatClampNeg) 6)) (jP (jsI (jsI m (jP m y0 4) y5.toNatClampNeg (jI m (jP m y1 y5.toNatClampNeg) 5)) (jP (jsI m (jP m y0 4) y5.toNatClampNeg (jI m (jP m y1 y5.toNatClampNeg) 5)) y0 5) y5.toNatClampNeg (jI (jsI m (jP m y0 4) y5.toNatClampNeg (jI m (jP m y1 y5.toNatClampNeg) 5)) (jP (jsI m (jP m y0 4) y5.toNatClampNeg (jI m (jP m y1 y5.toNatClampNeg) 5)) y1 y5.toNatClampNeg) 6)) (jP (jsI (jsI m (jP m y0 4) y5.toNatClampNeg (jI m (jP m y1 y5.toNatClampNeg) 5)) (jP (jsI m (jP m y0 4) y5.toNatClampNeg (jI m (jP m y1 y5.toNatClampNeg) 5)) y0 5) y5.toNatClampNeg (jI (jsI m (jP m y0 4) y5.toNatClampNeg (jI m (jP m y1 y5.toNatClampNeg) 5)) (jP (jsI m (jP m y0 4) y5.toNatClampNeg (jI m (jP m y1 y5.toNatClampNeg) 5)) y1 y5.toNatClampNeg) 6)) y1 y5.toNatClampNeg) 1) (0 : Int32).toNatClampNeg (jP (jsI (jsI m (jP m y0 4) y5.toNatClampNeg (jI m (jP m y1 y5.toNatClampNeg) 5)) (jP (jsI m (jP m y0 4) y5.toNatClampNeg (jI m (jP m y1 y5.toNatClampNeg) 5)) y0 5) y5.toNatClampNeg (jI (jsI m (jP m y0 4) y5.toNatClampNeg (jI m (jP m y1 y5.toNatClampNeg) 5)) (jP (jsI m (jP m y0 4) y5.toNatClampNeg (jI m (jP m y1 y5.toNatClampNeg) 5)) y1 y5.toNatClampNeg) 6)) y0 6) (y5 * (8 : Int32)).toNatClampNeg (8 : Int32).toNatClampNeg))) (jSt.cpyI (idx := 44) O (by omega) (jW_of 1302 (by decide +kernel) rfl) jnat_cpy (jW_of 569 (by decide +kernel) rfl) (jW_of 253 (by decide +kernel) rfl) w15 w16 w17 w18 w19 w20 w21 (Nat.le_of_ble_eq_true rfl) (by decide +kernel)) ?_
    refine jS.adv O [(.iinc 5 1, 0, 0, 0, 0, (1 : Int32), 0), (.goto (-59), 0, 24, 0, 0, 0, 0)] (pc' := 24) (ls' := [(5, .inl (y5 + (1 : Int32))), (0, .inr (.inr y0)), (1, .inr (.inr y1))]) (st' := []) (m2 := (jcpI (jsI (jsI m (jP m y0 4) y5.toNatClampNeg (jI m (jP m y1 y5.toNatClampNeg) 5)) (jP (jsI m (jP m y0 4) y5.toNatClampNeg (jI m (jP m y1 y5.toNatClampNeg) 5)) y0 5) y5.toNatClampNeg (jI (jsI m (jP m y0 4) y5.toNatClampNeg (jI m (jP m y1 y5.toNatClampNeg) 5)) (jP (jsI m (jP m y0 4) y5.toNatClampNeg (jI m (jP m y1 y5.toNatClampNeg) 5)) y1 y5.toNatClampNeg) 6)) (jP (jsI (jsI m (jP m y0 4) y5.toNatClampNeg (jI m (jP m y1 y5.toNatClampNeg) 5)) (jP (jsI m (jP m y0 4) y5.toNatClampNeg (jI m (jP m y1 y5.toNatClampNeg) 5)) y0 5) y5.toNatClampNeg (jI (jsI m (jP m y0 4) y5.toNatClampNeg (jI m (jP m y1 y5.toNatClampNeg) 5)) (jP (jsI m (jP m y0 4) y5.toNatClampNeg (jI m (jP m y1 y5.toNatClampNeg) 5)) y1 y5.toNatClampNeg) 6)) (jP (jsI (jsI m (jP m y0 4) y5.toNatClampNeg (jI m (jP m y1 y5.toNatClampNeg) 5)) (jP (jsI m (jP m y0 4) y5.toNatClampNeg (jI m (jP m y1 y5.toNatClampNeg) 5)) y0 5) y5.toNatClampNeg (jI (jsI m (jP m y0 4) y5.toNatClampNeg (jI m (jP m y1 y5.toNatClampNeg) 5)) (jP (jsI m (jP m y0 4) y5.toNatClampNeg (jI m (jP m y1 y5.toNatClampNeg) 5)) y1 y5.toNatClampNeg) 6)) y1 y5.toNatClampNeg) 1) (0 : Int32).toNatClampNeg (jP (jsI (jsI m (jP m y0 4) y5.toNatClampNeg (jI m (jP m y1 y5.toNatClampNeg) 5)) (jP (jsI m (jP m y0 4) y5.toNatClampNeg (jI m (jP m y1 y5.toNatClampNeg) 5)) y0 5) y5.toNatClampNeg (jI (jsI m (jP m y0 4) y5.toNatClampNeg (jI m (jP m y1 y5.toNatClampNeg) 5)) (jP (jsI m (jP m y0 4) y5.toNatClampNeg (jI m (jP m y1 y5.toNatClampNeg) 5)) y1 y5.toNatClampNeg) 6)) y0 6) (y5 * (8 : Int32)).toNatClampNeg (8 : Int32).toNatClampNeg)) (by decide +kernel) rfl trivial ?_
    refine jS.loc' [1, 2, 0] (ls' := [(0, .inr (.inr y0)), (1, .inr (.inr y1)), (5, .inl (y5 + (1 : Int32)))]) rfl ?_
    exact hB _ _ _ _ _ H h2
def c_X1_keep_l24 (F : Nat) : Nat → jMe → Nat → Nat → Int32 → Option (jMe)
  | 0, _, _, _, _ => none
  | n + 1, m, y0, y1, y5 => c_X1_keep_l24_b F (fun m y0 y1 y5 => c_X1_keep_l24 F n m y0 y1 y5) m y0 y1 y5
theorem ec_X1_keep_l24 {X : jX} {l : Launch} {d : Nat} (O : jOk X) (hd : 2 ≤ d) {F : Nat} {m0 m' : jMe} {v : Option jAV} : ∀ (n : Nat) {m : jMe} {y0 : Nat} {y1 : Nat} {y5 : Int32} {r : jMe} (H : c_X1_keep_l24 F n m y0 y1 y5 = some r) (h2 : jS X l d jm_X1_keep m0 v m' (86, [], [], r)), jS X l d jm_X1_keep m0 v m' (24, [(0, .inr (.inr y0)), (1, .inr (.inr y1)), (5, .inl y5)], [], m) := by
  intro n
  induction n with
  | zero =>
    intro m y0 y1 y5 r H h2
    cases (show none = some r from H)
  | succ n ih =>
    intro m y0 y1 y5 r H h2
    exact ec_X1_keep_l24_b O hd (B := (fun m y0 y1 y5 => c_X1_keep_l24 F n m y0 y1 y5)) (fun m y0 y1 y5 r H h2 => ih H h2) H h2
def c_X1_keep (F : Nat) (m : jMe) (x0 : Nat) (x1 : Nat) (x2 : Int32) (x3 : Int32) (x4 : Int32) : Option (jMe) :=
  jgd (jK m x0 = 33) <| jb (c_X1_keep_l24 F F (jsI (jsI (jsI (jsI m x0 0 (1 : Int32)) x0 1 x2) x0 2 x3) x0 3 x4) x0 x1 (0 : Int32)) fun e23 => some e23
theorem ec_X1_keep {X : jX} {l : Launch} {d : Nat} (O : jOk X) (hd : 2 ≤ d) {F : Nat} {m : jMe} {x0 : Nat} {x1 : Nat} {x2 : Int32} {x3 : Int32} {x4 : Int32} {r : jMe} (H : c_X1_keep F m x0 x1 x2 x3 x4 = some r) : jH X l d jm_X1_keep [.inr (.inr x0), .inr (.inr x1), .inl x2, .inl x3, .inl x4] m none r := by
  refine jH.of jpl_RX1 rfl (Nat.le_of_ble_eq_true rfl) ?_
  show jS X l d jm_X1_keep m _ _ (0, [(0, .inr (.inr x0)), (1, .inr (.inr x1)), (2, .inl x2), (3, .inl x3), (4, .inl x4)], [], m)
  unfold c_X1_keep at H
  obtain ⟨w1, H⟩ := jgd_ok H
  refine jS.adv O [(.aload_n 0, 0, 0, 0, 0, 0, 0), (.iconst 1, 0, 0, 0, 0, (1 : Int32), 0), (.putfield 9, 0, 1, 0, 320, 0, 0), (.aload_n 0, 0, 0, 0, 0, 0, 0), (.iload_n 2, 0, 0, 0, 0, 0, 0), (.putfield 15, 0, 1, 1, 322, 0, 0), (.aload_n 0, 0, 0, 0, 0, 0, 0), (.iload_n 3, 0, 0, 0, 0, 0, 0), (.putfield 19, 0, 1, 2, 324, 0, 0), (.aload_n 0, 0, 0, 0, 0, 0, 0), (.iload 4, 0, 0, 0, 0, 0, 0), (.putfield 22, 0, 1, 3, 326, 0, 0), (.iconst 0, 0, 0, 0, 0, (0 : Int32), 0), (.istore 5, 0, 0, 0, 0, 0, 0)] (pc' := 24) (ls' := [(5, .inl (0 : Int32)), (0, .inr (.inr x0)), (1, .inr (.inr x1)), (2, .inl x2), (3, .inl x3), (4, .inl x4)]) (st' := []) (m2 := (jsI (jsI (jsI (jsI m x0 0 (1 : Int32)) x0 1 x2) x0 2 x3) x0 3 x4)) (by decide +kernel) rfl ⟨⟨w1, Or.inr rfl⟩, w1, w1, w1, trivial⟩ ?_
  refine jS.loc' [1, 2, 0] (ls' := [(0, .inr (.inr x0)), (1, .inr (.inr x1)), (5, .inl (0 : Int32))]) rfl ?_
  obtain ⟨e23, w24, H⟩ := jb_ok H
  refine ec_X1_keep_l24 O hd F w24 ?_
  replace H := Option.some.inj H
  subst H
  exact jS.vret rfl (by decide +kernel)
def c_X1_layBack_l2_b (F : Nat) (B : jMe → Nat → Nat → Int32 → Option (jMe)) (m : jMe) (y0 : Nat) (y1 : Nat) (y2 : Int32) : Option (jMe) :=
  (if (4 : Int32) ≤ y2 then some (m) else jgd (jK m y1 = 5) <| jgd (jin y2 (jZ m y1) = true) <| jgd (jK m y0 = 33) <| jgd (jK m (jP m y0 4) = 1) <| jgd (jin y2 (jZ m (jP m y0 4)) = true) <| jgd (jK m (jP m y1 y2.toNatClampNeg) = 36) <| jgd (jin y2 (jZ m y1) = true) <| jgd (jK m (jP (jsI m (jP m y1 y2.toNatClampNeg) 5 (jI m (jP m y0 4) y2.toNatClampNeg)) y0 5) = 1) <| jgd (jin y2 (jZ m (jP (jsI m (jP m y1 y2.toNatClampNeg) 5 (jI m (jP m y0 4) y2.toNatClampNeg)) y0 5)) = true) <| jgd (jK m (jP (jsI m (jP m y1 y2.toNatClampNeg) 5 (jI m (jP m y0 4) y2.toNatClampNeg)) y1 y2.toNatClampNeg) = 36) <| jgd (jin y2 (jZ m y1) = true) <| jgd (jK m (jP (jsI (jsI m (jP m y1 y2.toNatClampNeg) 5 (jI m (jP m y0 4) y2.toNatClampNeg)) (jP (jsI m (jP m y1 y2.toNatClampNeg) 5 (jI m (jP m y0 4) y2.toNatClampNeg)) y1 y2.toNatClampNeg) 6 (jI (jsI m (jP m y1 y2.toNatClampNeg) 5 (jI m (jP m y0 4) y2.toNatClampNeg)) (jP (jsI m (jP m y1 y2.toNatClampNeg) 5 (jI m (jP m y0 4) y2.toNatClampNeg)) y0 5) y2.toNatClampNeg)) y1 y2.toNatClampNeg) = 36) <| jgd (jK m (jP (jsI (jsI m (jP m y1 y2.toNatClampNeg) 5 (jI m (jP m y0 4) y2.toNatClampNeg)) (jP (jsI m (jP m y1 y2.toNatClampNeg) 5 (jI m (jP m y0 4) y2.toNatClampNeg)) y1 y2.toNatClampNeg) 6 (jI (jsI m (jP m y1 y2.toNatClampNeg) 5 (jI m (jP m y0 4) y2.toNatClampNeg)) (jP (jsI m (jP m y1 y2.toNatClampNeg) 5 (jI m (jP m y0 4) y2.toNatClampNeg)) y0 5) y2.toNatClampNeg)) y0 6) = 1) <| jgd (jK m (jP (jsI (jsI m (jP m y1 y2.toNatClampNeg) 5 (jI m (jP m y0 4) y2.toNatClampNeg)) (jP (jsI m (jP m y1 y2.toNatClampNeg) 5 (jI m (jP m y0 4) y2.toNatClampNeg)) y1 y2.toNatClampNeg) 6 (jI (jsI m (jP m y1 y2.toNatClampNeg) 5 (jI m (jP m y0 4) y2.toNatClampNeg)) (jP (jsI m (jP m y1 y2.toNatClampNeg) 5 (jI m (jP m y0 4) y2.toNatClampNeg)) y0 5) y2.toNatClampNeg)) (jP (jsI (jsI m (jP m y1 y2.toNatClampNeg) 5 (jI m (jP m y0 4) y2.toNatClampNeg)) (jP (jsI m (jP m y1 y2.toNatClampNeg) 5 (jI m (jP m y0 4) y2.toNatClampNeg)) y1 y2.toNatClampNeg) 6 (jI (jsI m (jP m y1 y2.toNatClampNeg) 5 (jI m (jP m y0 4) y2.toNatClampNeg)) (jP (jsI m (jP m y1 y2.toNatClampNeg) 5 (jI m (jP m y0 4) y2.toNatClampNeg)) y0 5) y2.toNatClampNeg)) y1 y2.toNatClampNeg) 1) = 1) <| jgd (¬ (y2 * (8 : Int32)) < 0) <| jgd (¬ (0 : Int32) < 0) <| jgd (¬ (8 : Int32) < 0) <| jgd ((y2 * (8 : Int32)).toNatClampNeg + (8 : Int32).toNatClampNeg ≤ jZ (jsI (jsI m (jP m y1 y2.toNatClampNeg) 5 (jI m (jP m y0 4) y2.toNatClampNeg)) (jP (jsI m (jP m y1 y2.toNatClampNeg) 5 (jI m (jP m y0 4) y2.toNatClampNeg)) y1 y2.toNatClampNeg) 6 (jI (jsI m (jP m y1 y2.toNatClampNeg) 5 (jI m (jP m y0 4) y2.toNatClampNeg)) (jP (jsI m (jP m y1 y2.toNatClampNeg) 5 (jI m (jP m y0 4) y2.toNatClampNeg)) y0 5) y2.toNatClampNeg)) (jP (jsI (jsI m (jP m y1 y2.toNatClampNeg) 5 (jI m (jP m y0 4) y2.toNatClampNeg)) (jP (jsI m (jP m y1 y2.toNatClampNeg) 5 (jI m (jP m y0 4) y2.toNatClampNeg)) y1 y2.toNatClampNeg) 6 (jI (jsI m (jP m y1 y2.toNatClampNeg) 5 (jI m (jP m y0 4) y2.toNatClampNeg)) (jP (jsI m (jP m y1 y2.toNatClampNeg) 5 (jI m (jP m y0 4) y2.toNatClampNeg)) y0 5) y2.toNatClampNeg)) y0 6)) <| jgd ((0 : Int32).toNatClampNeg + (8 : Int32).toNatClampNeg ≤ jZ (jsI (jsI m (jP m y1 y2.toNatClampNeg) 5 (jI m (jP m y0 4) y2.toNatClampNeg)) (jP (jsI m (jP m y1 y2.toNatClampNeg) 5 (jI m (jP m y0 4) y2.toNatClampNeg)) y1 y2.toNatClampNeg) 6 (jI (jsI m (jP m y1 y2.toNatClampNeg) 5 (jI m (jP m y0 4) y2.toNatClampNeg)) (jP (jsI m (jP m y1 y2.toNatClampNeg) 5 (jI m (jP m y0 4) y2.toNatClampNeg)) y0 5) y2.toNatClampNeg)) (jP (jsI (jsI m (jP m y1 y2.toNatClampNeg) 5 (jI m (jP m y0 4) y2.toNatClampNeg)) (jP (jsI m (jP m y1 y2.toNatClampNeg) 5 (jI m (jP m y0 4) y2.toNatClampNeg)) y1 y2.toNatClampNeg) 6 (jI (jsI m (jP m y1 y2.toNatClampNeg) 5 (jI m (jP m y0 4) y2.toNatClampNeg)) (jP (jsI m (jP m y1 y2.toNatClampNeg) 5 (jI m (jP m y0 4) y2.toNatClampNeg)) y0 5) y2.toNatClampNeg)) (jP (jsI (jsI m (jP m y1 y2.toNatClampNeg) 5 (jI m (jP m y0 4) y2.toNatClampNeg)) (jP (jsI m (jP m y1 y2.toNatClampNeg) 5 (jI m (jP m y0 4) y2.toNatClampNeg)) y1 y2.toNatClampNeg) 6 (jI (jsI m (jP m y1 y2.toNatClampNeg) 5 (jI m (jP m y0 4) y2.toNatClampNeg)) (jP (jsI m (jP m y1 y2.toNatClampNeg) 5 (jI m (jP m y0 4) y2.toNatClampNeg)) y0 5) y2.toNatClampNeg)) y1 y2.toNatClampNeg) 1)) <| B (jcpI (jsI (jsI m (jP m y1 y2.toNatClampNeg) 5 (jI m (jP m y0 4) y2.toNatClampNeg)) (jP (jsI m (jP m y1 y2.toNatClampNeg) 5 (jI m (jP m y0 4) y2.toNatClampNeg)) y1 y2.toNatClampNeg) 6 (jI (jsI m (jP m y1 y2.toNatClampNeg) 5 (jI m (jP m y0 4) y2.toNatClampNeg)) (jP (jsI m (jP m y1 y2.toNatClampNeg) 5 (jI m (jP m y0 4) y2.toNatClampNeg)) y0 5) y2.toNatClampNeg)) (jP (jsI (jsI m (jP m y1 y2.toNatClampNeg) 5 (jI m (jP m y0 4) y2.toNatClampNeg)) (jP (jsI m (jP m y1 y2.toNatClampNeg) 5 (jI m (jP m y0 4) y2.toNatClampNeg)) y1 y2.toNatClampNeg) 6 (jI (jsI m (jP m y1 y2.toNatClampNeg) 5 (jI m (jP m y0 4) y2.toNatClampNeg)) (jP (jsI m (jP m y1 y2.toNatClampNeg) 5 (jI m (jP m y0 4) y2.toNatClampNeg)) y0 5) y2.toNatClampNeg)) y0 6) (y2 * (8 : Int32)).toNatClampNeg (jP (jsI (jsI m (jP m y1 y2.toNatClampNeg) 5 (jI m (jP m y0 4) y2.toNatClampNeg)) (jP (jsI m (jP m y1 y2.toNatClampNeg) 5 (jI m (jP m y0 4) y2.toNatClampNeg)) y1 y2.toNatClampNeg) 6 (jI (jsI m (jP m y1 y2.toNatClampNeg) 5 (jI m (jP m y0 4) y2.toNatClampNeg)) (jP (jsI m (jP m y1 y2.toNatClampNeg) 5 (jI m (jP m y0 4) y2.toNatClampNeg)) y0 5) y2.toNatClampNeg)) (jP (jsI (jsI m (jP m y1 y2.toNatClampNeg) 5 (jI m (jP m y0 4) y2.toNatClampNeg)) (jP (jsI m (jP m y1 y2.toNatClampNeg) 5 (jI m (jP m y0 4) y2.toNatClampNeg)) y1 y2.toNatClampNeg) 6 (jI (jsI m (jP m y1 y2.toNatClampNeg) 5 (jI m (jP m y0 4) y2.toNatClampNeg)) (jP (jsI m (jP m y1 y2.toNatClampNeg) 5 (jI m (jP m y0 4) y2.toNatClampNeg)) y0 5) y2.toNatClampNeg)) y1 y2.toNatClampNeg) 1) (0 : Int32).toNatClampNeg (8 : Int32).toNatClampNeg) y0 y1 (y2 + (1 : Int32)))
theorem ec_X1_layBack_l2_b {X : jX} {l : Launch} {d : Nat} (O : jOk X) (hd : 2 ≤ d) {F : Nat} {m0 m' : jMe} {v : Option jAV} {B : jMe → Nat → Nat → Int32 → Option (jMe)} (hB : ∀ (m : jMe) (y0 : Nat) (y1 : Nat) (y2 : Int32) (r : jMe), B m y0 y1 y2 = some r → (jS X l d jm_X1_layBack m0 v m' (57, [], [], r)) → jS X l d jm_X1_layBack m0 v m' (2, [(0, .inr (.inr y0)), (1, .inr (.inr y1)), (2, .inl y2)], [], m)) {m : jMe} {y0 : Nat} {y1 : Nat} {y2 : Int32} {r : jMe} (H : c_X1_layBack_l2_b F B m y0 y1 y2 = some r) (h2 : jS X l d jm_X1_layBack m0 v m' (57, [], [], r)) : jS X l d jm_X1_layBack m0 v m' (2, [(0, .inr (.inr y0)), (1, .inr (.inr y1)), (2, .inl y2)], [], m) := by
  unfold c_X1_layBack_l2_b at H
  refine jS.adv O [(.iload_n 2, 0, 0, 0, 0, 0, 0), (.iconst 4, 0, 0, 0, 0, (4 : Int32), 0)] (pc' := 4) (ls' := [(0, .inr (.inr y0)), (1, .inr (.inr y1)), (2, .inl y2)]) (st' := [.inl (4 : Int32), .inl y2]) (m2 := m) (by decide +kernel) rfl trivial ?_
  refine jS.br (i := .if_icmp .ge 53) (P := (4 : Int32) ≤ y2) (rest := []) rfl (by decide +kernel) (tgt := 57) (by decide) (fun c1 => ?_) (fun c1 => ?_)
  · replace H := jif_t c1 H
    replace H := Option.some.inj H
    subst H
    refine jS.loc' [] (ls' := []) rfl ?_
    exact h2
  · replace H := jif_f c1 H
    obtain ⟨w2, H⟩ := jgd_ok H
    obtain ⟨w3, H⟩ := jgd_ok H
    obtain ⟨w4, H⟩ := jgd_ok H
    obtain ⟨w5, H⟩ := jgd_ok H
    obtain ⟨w6, H⟩ := jgd_ok H
    obtain ⟨w7, H⟩ := jgd_ok H
    obtain ⟨w8, H⟩ := jgd_ok H
    obtain ⟨w9, H⟩ := jgd_ok H
    obtain ⟨w10, H⟩ := jgd_ok H
    obtain ⟨w11, H⟩ := jgd_ok H
    obtain ⟨w12, H⟩ := jgd_ok H
    obtain ⟨w13, H⟩ := jgd_ok H
    obtain ⟨w14, H⟩ := jgd_ok H
    obtain ⟨w15, H⟩ := jgd_ok H
    obtain ⟨w16, H⟩ := jgd_ok H
    obtain ⟨w17, H⟩ := jgd_ok H
    obtain ⟨w18, H⟩ := jgd_ok H
    obtain ⟨w19, H⟩ := jgd_ok H
    obtain ⟨w20, H⟩ := jgd_ok H
    refine jS.adv O [(.aload_n 1, 0, 0, 0, 0, 0, 0), (.iload_n 2, 0, 0, 0, 0, 0, 0), (.aaload, 0, 5, 0, 0, 0, 0), (.aload_n 0, 0, 0, 0, 0, 0, 0), (.getfield 25, 0, 1, 4, 328, 0, 0), (.iload_n 2, 0, 0, 0, 0, 0, 0), (.iaload, 0, 1, 0, 0, 0, 0), (.putfield 35, 0, 4, 5, 508, 0, 0), (.aload_n 1, 0, 0, 0, 0, 0, 0), (.iload_n 2, 0, 0, 0, 0, 0, 0), (.aaload, 0, 5, 0, 0, 0, 0), (.aload_n 0, 0, 0, 0, 0, 0, 0), (.getfield 29, 0, 1, 5, 329, 0, 0), (.iload_n 2, 0, 0, 0, 0, 0, 0), (.iaload, 0, 1, 0, 0, 0, 0), (.putfield 40, 0, 4, 6, 512, 0, 0), (.aload_n 0, 0, 0, 0, 0, 0, 0), (.getfield 32, 0, 1, 6, 330, 0, 0), (.iload_n 2, 0, 0, 0, 0, 0, 0), (.bipush 8, 0, 0, 0, 0, (8 : Int32), 0), (.imul, 0, 0, 0, 0, 0, 0), (.aload_n 1, 0, 0, 0, 0, 0, 0), (.iload_n 2, 0, 0, 0, 0, 0, 0), (.aaload, 0, 5, 0, 0, 0, 0), (.getfield 43, 0, 4, 1, 496, 0, 0), (.iconst 0, 0, 0, 0, 0, (0 : Int32), 0), (.bipush 8, 0, 0, 0, 0, (8 : Int32), 0)] (pc' := 48) (ls' := [(0, .inr (.inr y0)), (1, .inr (.inr y1)), (2, .inl y2)]) (st' := [.inl (8 : Int32), .inl (0 : Int32), .inr (.inr (jP (jsI (jsI m (jP m y1 y2.toNatClampNeg) 5 (jI m (jP m y0 4) y2.toNatClampNeg)) (jP (jsI m (jP m y1 y2.toNatClampNeg) 5 (jI m (jP m y0 4) y2.toNatClampNeg)) y1 y2.toNatClampNeg) 6 (jI (jsI m (jP m y1 y2.toNatClampNeg) 5 (jI m (jP m y0 4) y2.toNatClampNeg)) (jP (jsI m (jP m y1 y2.toNatClampNeg) 5 (jI m (jP m y0 4) y2.toNatClampNeg)) y0 5) y2.toNatClampNeg)) (jP (jsI (jsI m (jP m y1 y2.toNatClampNeg) 5 (jI m (jP m y0 4) y2.toNatClampNeg)) (jP (jsI m (jP m y1 y2.toNatClampNeg) 5 (jI m (jP m y0 4) y2.toNatClampNeg)) y1 y2.toNatClampNeg) 6 (jI (jsI m (jP m y1 y2.toNatClampNeg) 5 (jI m (jP m y0 4) y2.toNatClampNeg)) (jP (jsI m (jP m y1 y2.toNatClampNeg) 5 (jI m (jP m y0 4) y2.toNatClampNeg)) y0 5) y2.toNatClampNeg)) y1 y2.toNatClampNeg) 1)), .inl (y2 * (8 : Int32)), .inr (.inr (jP (jsI (jsI m (jP m y1 y2.toNatClampNeg) 5 (jI m (jP m y0 4) y2.toNatClampNeg)) (jP (jsI m (jP m y1 y2.toNatClampNeg) 5 (jI m (jP m y0 4) y2.toNatClampNeg)) y1 y2.toNatClampNeg) 6 (jI (jsI m (jP m y1 y2.toNatClampNeg) 5 (jI m (jP m y0 4) y2.toNatClampNeg)) (jP (jsI m (jP m y1 y2.toNatClampNeg) 5 (jI m (jP m y0 4) y2.toNatClampNeg)) y0 5) y2.toNatClampNeg)) y0 6))]) (m2 := (jsI (jsI m (jP m y1 y2.toNatClampNeg) 5 (jI m (jP m y0 4) y2.toNatClampNeg)) (jP (jsI m (jP m y1 y2.toNatClampNeg) 5 (jI m (jP m y0 4) y2.toNatClampNeg)) y1 y2.toNatClampNeg) 6 (jI (jsI m (jP m y1 y2.toNatClampNeg) 5 (jI m (jP m y0 4) y2.toNatClampNeg)) (jP (jsI m (jP m y1 y2.toNatClampNeg) 5 (jI m (jP m y0 4) y2.toNatClampNeg)) y0 5) y2.toNatClampNeg))) (by decide +kernel) rfl ⟨⟨w2, jib_ok w3⟩, w4, ⟨w5, jib_ok w6⟩, w7, ⟨w2, jib_ok w8⟩, w4, ⟨w9, jib_ok w10⟩, w11, w4, ⟨w2, jib_ok w12⟩, w13, trivial⟩ ?_
    refine jS.step (c' := (51, [(0, .inr (.inr y0)), (1, .inr (.inr y1)), (2, .inl y2)], [], (jcpI (jsI (jsI m (jP m y1 y2.toNatClampNeg) 5 (jI m (jP m y0 4) y2.toNatClampNeg)) (jP (jsI m (jP m y1 y2.toNatClampNeg) 5 (jI m (jP m y0 4) y2.toNatClampNeg)) y1 y2.toNatClampNeg) 6 (jI (jsI m (jP m y1 y2.toNatClampNeg) 5 (jI m (jP m y0 4) y2.toNatClampNeg)) (jP (jsI m (jP m y1 y2.toNatClampNeg) 5 (jI m (jP m y0 4) y2.toNatClampNeg)) y0 5) y2.toNatClampNeg)) (jP (jsI (jsI m (jP m y1 y2.toNatClampNeg) 5 (jI m (jP m y0 4) y2.toNatClampNeg)) (jP (jsI m (jP m y1 y2.toNatClampNeg) 5 (jI m (jP m y0 4) y2.toNatClampNeg)) y1 y2.toNatClampNeg) 6 (jI (jsI m (jP m y1 y2.toNatClampNeg) 5 (jI m (jP m y0 4) y2.toNatClampNeg)) (jP (jsI m (jP m y1 y2.toNatClampNeg) 5 (jI m (jP m y0 4) y2.toNatClampNeg)) y0 5) y2.toNatClampNeg)) y0 6) (y2 * (8 : Int32)).toNatClampNeg (jP (jsI (jsI m (jP m y1 y2.toNatClampNeg) 5 (jI m (jP m y0 4) y2.toNatClampNeg)) (jP (jsI m (jP m y1 y2.toNatClampNeg) 5 (jI m (jP m y0 4) y2.toNatClampNeg)) y1 y2.toNatClampNeg) 6 (jI (jsI m (jP m y1 y2.toNatClampNeg) 5 (jI m (jP m y0 4) y2.toNatClampNeg)) (jP (jsI m (jP m y1 y2.toNatClampNeg) 5 (jI m (jP m y0 4) y2.toNatClampNeg)) y0 5) y2.toNatClampNeg)) (jP (jsI (jsI m (jP m y1 y2.toNatClampNeg) 5 (jI m (jP m y0 4) y2.toNatClampNeg)) (jP (jsI m (jP m y1 y2.toNatClampNeg) 5 (jI m (jP m y0 4) y2.toNatClampNeg)) y1 y2.toNatClampNeg) 6 (jI (jsI m (jP m y1 y2.toNatClampNeg) 5 (jI m (jP m y0 4) y2.toNatClampNeg)) (jP (jsI m (jP m y1 y2.toNatClampNeg) 5 (jI m (jP m y0 4) y2.toNatClampNeg)) y0 5) y2.toNatClampNeg)) y1 y2.toNatClampNeg) 1) (0 : Int32).toNatClampNeg (8 : Int32).toNatClampNeg))) (jSt.cpyI (idx := 44) O (by omega) (jW_of 1302 (by decide +kernel) rfl) jnat_cpy (jW_of 569 (by decide +kernel) rfl) (jW_of 253 (by decide +kernel) rfl) w14 w15 w16 w17 w18 w19 w20 (Nat.le_of_ble_eq_true rfl) (by decide +kernel)) ?_
    refine jS.adv O [(.iinc 2 1, 0, 0, 0, 0, (1 : Int32), 0), (.goto (-52), 0, 2, 0, 0, 0, 0)] (pc' := 2) (ls' := [(2, .inl (y2 + (1 : Int32))), (0, .inr (.inr y0)), (1, .inr (.inr y1))]) (st' := []) (m2 := (jcpI (jsI (jsI m (jP m y1 y2.toNatClampNeg) 5 (jI m (jP m y0 4) y2.toNatClampNeg)) (jP (jsI m (jP m y1 y2.toNatClampNeg) 5 (jI m (jP m y0 4) y2.toNatClampNeg)) y1 y2.toNatClampNeg) 6 (jI (jsI m (jP m y1 y2.toNatClampNeg) 5 (jI m (jP m y0 4) y2.toNatClampNeg)) (jP (jsI m (jP m y1 y2.toNatClampNeg) 5 (jI m (jP m y0 4) y2.toNatClampNeg)) y0 5) y2.toNatClampNeg)) (jP (jsI (jsI m (jP m y1 y2.toNatClampNeg) 5 (jI m (jP m y0 4) y2.toNatClampNeg)) (jP (jsI m (jP m y1 y2.toNatClampNeg) 5 (jI m (jP m y0 4) y2.toNatClampNeg)) y1 y2.toNatClampNeg) 6 (jI (jsI m (jP m y1 y2.toNatClampNeg) 5 (jI m (jP m y0 4) y2.toNatClampNeg)) (jP (jsI m (jP m y1 y2.toNatClampNeg) 5 (jI m (jP m y0 4) y2.toNatClampNeg)) y0 5) y2.toNatClampNeg)) y0 6) (y2 * (8 : Int32)).toNatClampNeg (jP (jsI (jsI m (jP m y1 y2.toNatClampNeg) 5 (jI m (jP m y0 4) y2.toNatClampNeg)) (jP (jsI m (jP m y1 y2.toNatClampNeg) 5 (jI m (jP m y0 4) y2.toNatClampNeg)) y1 y2.toNatClampNeg) 6 (jI (jsI m (jP m y1 y2.toNatClampNeg) 5 (jI m (jP m y0 4) y2.toNatClampNeg)) (jP (jsI m (jP m y1 y2.toNatClampNeg) 5 (jI m (jP m y0 4) y2.toNatClampNeg)) y0 5) y2.toNatClampNeg)) (jP (jsI (jsI m (jP m y1 y2.toNatClampNeg) 5 (jI m (jP m y0 4) y2.toNatClampNeg)) (jP (jsI m (jP m y1 y2.toNatClampNeg) 5 (jI m (jP m y0 4) y2.toNatClampNeg)) y1 y2.toNatClampNeg) 6 (jI (jsI m (jP m y1 y2.toNatClampNeg) 5 (jI m (jP m y0 4) y2.toNatClampNeg)) (jP (jsI m (jP m y1 y2.toNatClampNeg) 5 (jI m (jP m y0 4) y2.toNatClampNeg)) y0 5) y2.toNatClampNeg)) y1 y2.toNatClampNeg) 1) (0 : Int32).toNatClampNeg (8 : Int32).toNatClampNeg)) (by decide +kernel) rfl trivial ?_
    refine jS.loc' [1, 2, 0] (ls' := [(0, .inr (.inr y0)), (1, .inr (.inr y1)), (2, .inl (y2 + (1 : Int32)))]) rfl ?_
    exact hB _ _ _ _ _ H h2
def c_X1_layBack_l2 (F : Nat) : Nat → jMe → Nat → Nat → Int32 → Option (jMe)
  | 0, _, _, _, _ => none
  | n + 1, m, y0, y1, y2 => c_X1_layBack_l2_b F (fun m y0 y1 y2 => c_X1_layBack_l2 F n m y0 y1 y2) m y0 y1 y2
theorem ec_X1_layBack_l2 {X : jX} {l : Launch} {d : Nat} (O : jOk X) (hd : 2 ≤ d) {F : Nat} {m0 m' : jMe} {v : Option jAV} : ∀ (n : Nat) {m : jMe} {y0 : Nat} {y1 : Nat} {y2 : Int32} {r : jMe} (H : c_X1_layBack_l2 F n m y0 y1 y2 = some r) (h2 : jS X l d jm_X1_layBack m0 v m' (57, [], [], r)), jS X l d jm_X1_layBack m0 v m' (2, [(0, .inr (.inr y0)), (1, .inr (.inr y1)), (2, .inl y2)], [], m) := by
  intro n
  induction n with
  | zero =>
    intro m y0 y1 y2 r H h2
    cases (show none = some r from H)
  | succ n ih =>
    intro m y0 y1 y2 r H h2
    exact ec_X1_layBack_l2_b O hd (B := (fun m y0 y1 y2 => c_X1_layBack_l2 F n m y0 y1 y2)) (fun m y0 y1 y2 r H h2 => ih H h2) H h2
def c_X1_layBack (F : Nat) (m : jMe) (x0 : Nat) (x1 : Nat) : Option (jMe) :=
  jb (c_X1_layBack_l2 F F m x0 x1 (0 : Int32)) fun e22 => some e22
theorem ec_X1_layBack {X : jX} {l : Launch} {d : Nat} (O : jOk X) (hd : 2 ≤ d) {F : Nat} {m : jMe} {x0 : Nat} {x1 : Nat} {r : jMe} (H : c_X1_layBack F m x0 x1 = some r) : jH X l d jm_X1_layBack [.inr (.inr x0), .inr (.inr x1)] m none r := by
  refine jH.of jpl_RX1 rfl (Nat.le_of_ble_eq_true rfl) ?_
  show jS X l d jm_X1_layBack m _ _ (0, [(0, .inr (.inr x0)), (1, .inr (.inr x1))], [], m)
  unfold c_X1_layBack at H
  refine jS.adv O [(.iconst 0, 0, 0, 0, 0, (0 : Int32), 0), (.istore_n 2, 0, 0, 0, 0, 0, 0)] (pc' := 2) (ls' := [(2, .inl (0 : Int32)), (0, .inr (.inr x0)), (1, .inr (.inr x1))]) (st' := []) (m2 := m) (by decide +kernel) rfl trivial ?_
  refine jS.loc' [1, 2, 0] (ls' := [(0, .inr (.inr x0)), (1, .inr (.inr x1)), (2, .inl (0 : Int32))]) rfl ?_
  obtain ⟨e22, w23, H⟩ := jb_ok H
  refine ec_X1_layBack_l2 O hd F w23 ?_
  replace H := Option.some.inj H
  subst H
  exact jS.vret rfl (by decide +kernel)
def c_X8_init (F : Nat) (m : jMe) (x0 : Nat) : Option (jMe) :=
  jgd (¬ x0 = 0) <| jgd (¬ (4 : Int32) < 0 ∧ (4 : Int32).toNatClampNeg ≤ 10000) <| jlet (jnew m 1 (4 : Int32).toNatClampNeg (4 : Int32).toNatClampNeg) fun m3 => jgd (jK m3 x0 = 40) <| jgd (¬ (4 : Int32) < 0 ∧ (4 : Int32).toNatClampNeg ≤ 10000) <| jlet (jnew (jsP m3 x0 0 (32 + jN m)) 1 (4 : Int32).toNatClampNeg (4 : Int32).toNatClampNeg) fun m6 => jgd (jK m6 x0 = 40) <| jgd (¬ (4 : Int32) < 0 ∧ (4 : Int32).toNatClampNeg ≤ 10000) <| jlet (jnew (jsP m6 x0 1 (32 + jN (jsP m3 x0 0 (32 + jN m)))) 1 (4 : Int32).toNatClampNeg (4 : Int32).toNatClampNeg) fun m9 => jgd (jK m9 x0 = 40) <| jgd (¬ (4 : Int32) < 0 ∧ (4 : Int32).toNatClampNeg ≤ 10000) <| jlet (jnew (jsP m9 x0 2 (32 + jN (jsP m6 x0 1 (32 + jN (jsP m3 x0 0 (32 + jN m)))))) 1 (4 : Int32).toNatClampNeg (4 : Int32).toNatClampNeg) fun m12 => jgd (jK m12 x0 = 40) <| jlet (jsI (jsI (jsI (jsP m12 x0 3 (32 + jN (jsP m9 x0 2 (32 + jN (jsP m6 x0 1 (32 + jN (jsP m3 x0 0 (32 + jN m)))))))) x0 4 (0 : Int32)) x0 5 (-1 : Int32)) x0 6 (0 : Int32)) fun m14 => jgd (jK m14 x0 = 40) <| some (jsI m14 x0 7 (0 : Int32))
theorem ec_X8_init {X : jX} {l : Launch} {d : Nat} (O : jOk X) (hd : 2 ≤ d) {F : Nat} {m : jMe} {x0 : Nat} {r : jMe} (H : c_X8_init F m x0 = some r) : jH X l d jm_X8_init [.inr (.inr x0)] m none r := by
  refine jH.of jpl_RX8 rfl (Nat.le_of_ble_eq_true rfl) ?_
  show jS X l d jm_X8_init m _ _ (0, [(0, .inr (.inr x0))], [], m)
  unfold c_X8_init at H
  obtain ⟨w1, H⟩ := jgd_ok H
  refine jS.adv O [(.aload_n 0, 0, 0, 0, 0, 0, 0)] (pc' := 1) (ls' := [(0, .inr (.inr x0))]) (st' := [.inr (.inr x0)]) (m2 := m) (by decide +kernel) rfl trivial ?_
  refine jS.step (c' := (4, [(0, .inr (.inr x0))], [], m)) (jSt.obj (idx := 3) (by omega) w1 (jW_of 384 (by decide +kernel) rfl) (jW_of 267 (by decide +kernel) rfl) (jW_of 268 (by decide +kernel) rfl) (Nat.le_of_ble_eq_true rfl) (by decide +kernel)) ?_
  obtain ⟨w2, H⟩ := jgd_ok H
  obtain ⟨m3, em3, H⟩ := jlet_ok H
  refine jS.adv O [(.aload_n 0, 0, 0, 0, 0, 0, 0), (.iconst 4, 0, 0, 0, 0, (4 : Int32), 0), (.newarray .int, 0, 1, 313, 0, 0, 0)] (pc' := 8) (ls' := [(0, .inr (.inr x0))]) (st' := [.inr (.inr (32 + jN m)), .inr (.inr x0)]) (m2 := (jnew m 1 (4 : Int32).toNatClampNeg (4 : Int32).toNatClampNeg)) (by decide +kernel) rfl ⟨w2, trivial⟩ ?_
  refine jS.cast (c' := (8, [(0, .inr (.inr x0))], [.inr (.inr (32 + jN m)), .inr (.inr x0)], m3)) (by rw [em3]) ?_
  obtain ⟨w4, H⟩ := jgd_ok H
  obtain ⟨w5, H⟩ := jgd_ok H
  obtain ⟨m6, em6, H⟩ := jlet_ok H
  refine jS.adv O [(.putfield 9, 0, 8, 0, 385, 0, 0), (.aload_n 0, 0, 0, 0, 0, 0, 0), (.iconst 4, 0, 0, 0, 0, (4 : Int32), 0), (.newarray .int, 0, 1, 313, 0, 0, 0)] (pc' := 15) (ls' := [(0, .inr (.inr x0))]) (st' := [.inr (.inr (32 + jN (jsP m3 x0 0 (32 + jN m)))), .inr (.inr x0)]) (m2 := (jnew (jsP m3 x0 0 (32 + jN m)) 1 (4 : Int32).toNatClampNeg (4 : Int32).toNatClampNeg)) (by decide +kernel) rfl ⟨w4, w5, trivial⟩ ?_
  refine jS.cast (c' := (15, [(0, .inr (.inr x0))], [.inr (.inr (32 + jN (jsP m3 x0 0 (32 + jN m)))), .inr (.inr x0)], m6)) (by rw [em6]) ?_
  obtain ⟨w7, H⟩ := jgd_ok H
  obtain ⟨w8, H⟩ := jgd_ok H
  obtain ⟨m9, em9, H⟩ := jlet_ok H
  refine jS.adv O [(.putfield 15, 0, 8, 1, 388, 0, 0), (.aload_n 0, 0, 0, 0, 0, 0, 0), (.iconst 4, 0, 0, 0, 0, (4 : Int32), 0), (.newarray .int, 0, 1, 313, 0, 0, 0)] (pc' := 22) (ls' := [(0, .inr (.inr x0))]) (st' := [.inr (.inr (32 + jN (jsP m6 x0 1 (32 + jN (jsP m3 x0 0 (32 + jN m)))))), .inr (.inr x0)]) (m2 := (jnew (jsP m6 x0 1 (32 + jN (jsP m3 x0 0 (32 + jN m)))) 1 (4 : Int32).toNatClampNeg (4 : Int32).toNatClampNeg)) (by decide +kernel) rfl ⟨w7, w8, trivial⟩ ?_
  refine jS.cast (c' := (22, [(0, .inr (.inr x0))], [.inr (.inr (32 + jN (jsP m6 x0 1 (32 + jN (jsP m3 x0 0 (32 + jN m)))))), .inr (.inr x0)], m9)) (by rw [em9]) ?_
  obtain ⟨w10, H⟩ := jgd_ok H
  obtain ⟨w11, H⟩ := jgd_ok H
  obtain ⟨m12, em12, H⟩ := jlet_ok H
  refine jS.adv O [(.putfield 18, 0, 8, 2, 391, 0, 0), (.aload_n 0, 0, 0, 0, 0, 0, 0), (.iconst 4, 0, 0, 0, 0, (4 : Int32), 0), (.newarray .int, 0, 1, 313, 0, 0, 0)] (pc' := 29) (ls' := [(0, .inr (.inr x0))]) (st' := [.inr (.inr (32 + jN (jsP m9 x0 2 (32 + jN (jsP m6 x0 1 (32 + jN (jsP m3 x0 0 (32 + jN m)))))))), .inr (.inr x0)]) (m2 := (jnew (jsP m9 x0 2 (32 + jN (jsP m6 x0 1 (32 + jN (jsP m3 x0 0 (32 + jN m)))))) 1 (4 : Int32).toNatClampNeg (4 : Int32).toNatClampNeg)) (by decide +kernel) rfl ⟨w10, w11, trivial⟩ ?_
  refine jS.cast (c' := (29, [(0, .inr (.inr x0))], [.inr (.inr (32 + jN (jsP m9 x0 2 (32 + jN (jsP m6 x0 1 (32 + jN (jsP m3 x0 0 (32 + jN m)))))))), .inr (.inr x0)], m12)) (by rw [em12]) ?_
  obtain ⟨w13, H⟩ := jgd_ok H
  obtain ⟨m14, em14, H⟩ := jlet_ok H
  refine jS.adv O [(.putfield 21, 0, 8, 3, 393, 0, 0), (.aload_n 0, 0, 0, 0, 0, 0, 0), (.iconst 0, 0, 0, 0, 0, (0 : Int32), 0), (.putfield 24, 0, 8, 4, 394, 0, 0), (.aload_n 0, 0, 0, 0, 0, 0, 0), (.iconst (-1), 0, 0, 0, 0, (-1 : Int32), 0), (.putfield 28, 0, 8, 5, 396, 0, 0), (.aload_n 0, 0, 0, 0, 0, 0, 0), (.iconst 0, 0, 0, 0, 0, (0 : Int32), 0), (.putfield 31, 0, 8, 6, 399, 0, 0)] (pc' := 47) (ls' := [(0, .inr (.inr x0))]) (st' := []) (m2 := (jsI (jsI (jsI (jsP m12 x0 3 (32 + jN (jsP m9 x0 2 (32 + jN (jsP m6 x0 1 (32 + jN (jsP m3 x0 0 (32 + jN m)))))))) x0 4 (0 : Int32)) x0 5 (-1 : Int32)) x0 6 (0 : Int32))) (by decide +kernel) rfl ⟨w13, w13, w13, w13, trivial⟩ ?_
  refine jS.cast (c' := (47, [(0, .inr (.inr x0))], [], m14)) (by rw [em14]) ?_
  obtain ⟨w15, H⟩ := jgd_ok H
  refine jS.adv O [(.aload_n 0, 0, 0, 0, 0, 0, 0), (.iconst 0, 0, 0, 0, 0, (0 : Int32), 0), (.putfield 34, 0, 8, 7, 402, 0, 0)] (pc' := 52) (ls' := [(0, .inr (.inr x0))]) (st' := []) (m2 := (jsI m14 x0 7 (0 : Int32))) (by decide +kernel) rfl ⟨w15, trivial⟩ ?_
  replace H := Option.some.inj H
  subst H
  exact jS.vret rfl (by decide +kernel)
def c_X8_stemOf_l5_b (F : Nat) (B : Nat → Int32 → Int32 → Int32 → Int32 → Option (Nat × Int32 × Int32 × Int32)) (m : jMe) (y0 : Nat) (y1 : Int32) (y2 : Int32) (y3 : Int32) (y4 : Int32) : Option (Nat × Int32 × Int32 × Int32) :=
  (if (4 : Int32) ≤ y4 then some (y0, y1, y2, y3) else (if y4 = y2 then B y0 y1 y2 (y3 ||| (0 : Int32)) (y4 + (1 : Int32)) else (if ((jushr y1 y4) &&& (1 : Int32)) = (1 : Int32) then jgd (jK m y0 = 40) <| jgd (jK m (jP m y0 3) = 1) <| jgd (jin y4 (jZ m (jP m y0 3)) = true) <| B y0 y1 y2 (y3 ||| (jI m (jP m y0 3) y4.toNatClampNeg)) (y4 + (1 : Int32)) else B y0 y1 y2 (y3 ||| (0 : Int32)) (y4 + (1 : Int32)))))
theorem ec_X8_stemOf_l5_b {X : jX} {l : Launch} {d : Nat} (O : jOk X) (hd : 2 ≤ d) {F : Nat} {m0 m' : jMe} {v : Option jAV} {m : jMe} {B : Nat → Int32 → Int32 → Int32 → Int32 → Option (Nat × Int32 × Int32 × Int32)} (hB : ∀ (y0 : Nat) (y1 : Int32) (y2 : Int32) (y3 : Int32) (y4 : Int32) (r : Nat × Int32 × Int32 × Int32), B y0 y1 y2 y3 y4 = some r → (jS X l d jm_X8_stemOf m0 v m' (47, [(0, .inr (.inr r.1)), (1, .inl r.2.1), (2, .inl r.2.2.1), (3, .inl r.2.2.2)], [], m)) → jS X l d jm_X8_stemOf m0 v m' (5, [(0, .inr (.inr y0)), (1, .inl y1), (2, .inl y2), (3, .inl y3), (4, .inl y4)], [], m)) {y0 : Nat} {y1 : Int32} {y2 : Int32} {y3 : Int32} {y4 : Int32} {r : Nat × Int32 × Int32 × Int32} (H : c_X8_stemOf_l5_b F B m y0 y1 y2 y3 y4 = some r) (h2 : jS X l d jm_X8_stemOf m0 v m' (47, [(0, .inr (.inr r.1)), (1, .inl r.2.1), (2, .inl r.2.2.1), (3, .inl r.2.2.2)], [], m)) : jS X l d jm_X8_stemOf m0 v m' (5, [(0, .inr (.inr y0)), (1, .inl y1), (2, .inl y2), (3, .inl y3), (4, .inl y4)], [], m) := by
  unfold c_X8_stemOf_l5_b at H
  refine jS.adv O [(.iload 4, 0, 0, 0, 0, 0, 0), (.iconst 4, 0, 0, 0, 0, (4 : Int32), 0)] (pc' := 8) (ls' := [(0, .inr (.inr y0)), (1, .inl y1), (2, .inl y2), (3, .inl y3), (4, .inl y4)]) (st' := [.inl (4 : Int32), .inl y4]) (m2 := m) (by decide +kernel) rfl trivial ?_
  refine jS.br (i := .if_icmp .ge 39) (P := (4 : Int32) ≤ y4) (rest := []) rfl (by decide +kernel) (tgt := 47) (by decide) (fun c1 => ?_) (fun c1 => ?_)
  · replace H := jif_t c1 H
    replace H := Option.some.inj H
    subst H
    refine jS.loc' [0, 1, 2, 3] (ls' := [(0, .inr (.inr y0)), (1, .inl y1), (2, .inl y2), (3, .inl y3)]) rfl ?_
    exact h2
  · replace H := jif_f c1 H
    refine jS.adv O [(.iload_n 3, 0, 0, 0, 0, 0, 0), (.iload 4, 0, 0, 0, 0, 0, 0), (.iload_n 2, 0, 0, 0, 0, 0, 0)] (pc' := 15) (ls' := [(0, .inr (.inr y0)), (1, .inl y1), (2, .inl y2), (3, .inl y3), (4, .inl y4)]) (st' := [.inl y2, .inl y4, .inl y3]) (m2 := m) (by decide +kernel) rfl trivial ?_
    refine jS.br (i := .if_icmp .eq 23) (P := y4 = y2) (rest := [.inl y3]) rfl (by decide +kernel) (tgt := 38) (by decide) (fun c2 => ?_) (fun c2 => ?_)
    · replace H := jif_t c2 H
      refine jS.adv O [(.iconst 0, 0, 0, 0, 0, (0 : Int32), 0), (.ior, 0, 0, 0, 0, 0, 0), (.istore_n 3, 0, 0, 0, 0, 0, 0), (.iinc 4 1, 0, 0, 0, 0, (1 : Int32), 0), (.goto (-39), 0, 5, 0, 0, 0, 0)] (pc' := 5) (ls' := [(4, .inl (y4 + (1 : Int32))), (3, .inl (y3 ||| (0 : Int32))), (0, .inr (.inr y0)), (1, .inl y1), (2, .inl y2)]) (st' := []) (m2 := m) (by decide +kernel) rfl trivial ?_
      refine jS.loc' [2, 3, 4, 1, 0] (ls' := [(0, .inr (.inr y0)), (1, .inl y1), (2, .inl y2), (3, .inl (y3 ||| (0 : Int32))), (4, .inl (y4 + (1 : Int32)))]) rfl ?_
      exact hB _ _ _ _ _ _ H h2
    · replace H := jif_f c2 H
      refine jS.adv O [(.iload_n 1, 0, 0, 0, 0, 0, 0), (.iload 4, 0, 0, 0, 0, 0, 0), (.iushr, 0, 0, 0, 0, 0, 0), (.iconst 1, 0, 0, 0, 0, (1 : Int32), 0), (.iand, 0, 0, 0, 0, 0, 0), (.iconst 1, 0, 0, 0, 0, (1 : Int32), 0)] (pc' := 25) (ls' := [(0, .inr (.inr y0)), (1, .inl y1), (2, .inl y2), (3, .inl y3), (4, .inl y4)]) (st' := [.inl (1 : Int32), .inl ((jushr y1 y4) &&& (1 : Int32)), .inl y3]) (m2 := m) (by decide +kernel) rfl trivial ?_
      refine jS.br (i := .if_icmp .ne 13) (P := ¬ ((jushr y1 y4) &&& (1 : Int32)) = (1 : Int32)) (rest := [.inl y3]) rfl (by decide +kernel) (tgt := 38) (by decide) (fun c3 => ?_) (fun c3 => ?_)
      · replace H := jif_f c3 H
        refine jS.adv O [(.iconst 0, 0, 0, 0, 0, (0 : Int32), 0), (.ior, 0, 0, 0, 0, 0, 0), (.istore_n 3, 0, 0, 0, 0, 0, 0), (.iinc 4 1, 0, 0, 0, 0, (1 : Int32), 0), (.goto (-39), 0, 5, 0, 0, 0, 0)] (pc' := 5) (ls' := [(4, .inl (y4 + (1 : Int32))), (3, .inl (y3 ||| (0 : Int32))), (0, .inr (.inr y0)), (1, .inl y1), (2, .inl y2)]) (st' := []) (m2 := m) (by decide +kernel) rfl trivial ?_
        refine jS.loc' [2, 3, 4, 1, 0] (ls' := [(0, .inr (.inr y0)), (1, .inl y1), (2, .inl y2), (3, .inl (y3 ||| (0 : Int32))), (4, .inl (y4 + (1 : Int32)))]) rfl ?_
        exact hB _ _ _ _ _ _ H h2
      · replace H := jif_t (Classical.not_not.mp c3) H
        obtain ⟨w4, H⟩ := jgd_ok H
        obtain ⟨w5, H⟩ := jgd_ok H
        obtain ⟨w6, H⟩ := jgd_ok H
        refine jS.adv O [(.aload_n 0, 0, 0, 0, 0, 0, 0), (.getfield 21, 0, 8, 3, 393, 0, 0), (.iload 4, 0, 0, 0, 0, 0, 0), (.iaload, 0, 1, 0, 0, 0, 0), (.goto 4, 0, 39, 0, 0, 0, 0), (.ior, 0, 0, 0, 0, 0, 0), (.istore_n 3, 0, 0, 0, 0, 0, 0), (.iinc 4 1, 0, 0, 0, 0, (1 : Int32), 0), (.goto (-39), 0, 5, 0, 0, 0, 0)] (pc' := 5) (ls' := [(4, .inl (y4 + (1 : Int32))), (3, .inl (y3 ||| (jI m (jP m y0 3) y4.toNatClampNeg))), (0, .inr (.inr y0)), (1, .inl y1), (2, .inl y2)]) (st' := []) (m2 := m) (by decide +kernel) rfl ⟨w4, ⟨w5, jib_ok w6⟩, trivial⟩ ?_
        refine jS.loc' [2, 3, 4, 1, 0] (ls' := [(0, .inr (.inr y0)), (1, .inl y1), (2, .inl y2), (3, .inl (y3 ||| (jI m (jP m y0 3) y4.toNatClampNeg))), (4, .inl (y4 + (1 : Int32)))]) rfl ?_
        exact hB _ _ _ _ _ _ H h2
def c_X8_stemOf_l5 (F : Nat) (m : jMe) : Nat → Nat → Int32 → Int32 → Int32 → Int32 → Option (Nat × Int32 × Int32 × Int32)
  | 0, _, _, _, _, _ => none
  | n + 1, y0, y1, y2, y3, y4 => c_X8_stemOf_l5_b F (fun y0 y1 y2 y3 y4 => c_X8_stemOf_l5 F m n y0 y1 y2 y3 y4) m y0 y1 y2 y3 y4
theorem ec_X8_stemOf_l5 {X : jX} {l : Launch} {d : Nat} (O : jOk X) (hd : 2 ≤ d) {F : Nat} {m0 m' : jMe} {v : Option jAV} {m : jMe} : ∀ (n : Nat) {y0 : Nat} {y1 : Int32} {y2 : Int32} {y3 : Int32} {y4 : Int32} {r : Nat × Int32 × Int32 × Int32} (H : c_X8_stemOf_l5 F m n y0 y1 y2 y3 y4 = some r) (h2 : jS X l d jm_X8_stemOf m0 v m' (47, [(0, .inr (.inr r.1)), (1, .inl r.2.1), (2, .inl r.2.2.1), (3, .inl r.2.2.2)], [], m)), jS X l d jm_X8_stemOf m0 v m' (5, [(0, .inr (.inr y0)), (1, .inl y1), (2, .inl y2), (3, .inl y3), (4, .inl y4)], [], m) := by
  intro n
  induction n with
  | zero =>
    intro y0 y1 y2 y3 y4 r H h2
    cases (show none = some r from H)
  | succ n ih =>
    intro y0 y1 y2 y3 y4 r H h2
    exact ec_X8_stemOf_l5_b O hd (B := (fun y0 y1 y2 y3 y4 => c_X8_stemOf_l5 F m n y0 y1 y2 y3 y4)) (fun y0 y1 y2 y3 y4 r H h2 => ih H h2) H h2
def c_X8_stemOf_l60_b (F : Nat) (B : Nat → Int32 → Int32 → Int32 → Int32 → Option (Int32 ⊕ Unit)) (m : jMe) (y0 : Nat) (y1 : Int32) (y2 : Int32) (y4 : Int32) (y5 : Int32) : Option (Int32 ⊕ Unit) :=
  (if (4 : Int32) ≤ y5 then some (.inr ()) else (if y5 = y2 then B y0 y1 y2 y4 (y5 + (1 : Int32)) else (if ((jushr y1 y5) &&& (1 : Int32)) = (1 : Int32) then jgd (jK m y0 = 40) <| jgd (jK m (jP m y0 3) = 1) <| jgd (jin y5 (jZ m (jP m y0 3)) = true) <| (if (y4 &&& ((jI m (jP m y0 3) y5.toNatClampNeg) ^^^ (-1 : Int32))) = 0 then some (.inl y5) else B y0 y1 y2 y4 (y5 + (1 : Int32))) else B y0 y1 y2 y4 (y5 + (1 : Int32)))))
theorem ec_X8_stemOf_l60_b {X : jX} {l : Launch} {d : Nat} (O : jOk X) (hd : 2 ≤ d) {F : Nat} {m0 m' : jMe} {v : Option jAV} {m : jMe} {B : Nat → Int32 → Int32 → Int32 → Int32 → Option (Int32 ⊕ Unit)} (hB : ∀ (y0 : Nat) (y1 : Int32) (y2 : Int32) (y4 : Int32) (y5 : Int32) (r : Int32 ⊕ Unit), B y0 y1 y2 y4 y5 = some r → (∀ q, r = .inl q → v = (some (.inl q)) ∧ m' = m) → (∀ e, r = .inr e → jS X l d jm_X8_stemOf m0 v m' (106, [], [], m)) → jS X l d jm_X8_stemOf m0 v m' (60, [(0, .inr (.inr y0)), (1, .inl y1), (2, .inl y2), (4, .inl y4), (5, .inl y5)], [], m)) {y0 : Nat} {y1 : Int32} {y2 : Int32} {y4 : Int32} {y5 : Int32} {r : Int32 ⊕ Unit} (H : c_X8_stemOf_l60_b F B m y0 y1 y2 y4 y5 = some r) (h1 : ∀ q, r = .inl q → v = (some (.inl q)) ∧ m' = m) (h2 : ∀ e, r = .inr e → jS X l d jm_X8_stemOf m0 v m' (106, [], [], m)) : jS X l d jm_X8_stemOf m0 v m' (60, [(0, .inr (.inr y0)), (1, .inl y1), (2, .inl y2), (4, .inl y4), (5, .inl y5)], [], m) := by
  unfold c_X8_stemOf_l60_b at H
  refine jS.adv O [(.iload 5, 0, 0, 0, 0, 0, 0), (.iconst 4, 0, 0, 0, 0, (4 : Int32), 0)] (pc' := 63) (ls' := [(0, .inr (.inr y0)), (1, .inl y1), (2, .inl y2), (4, .inl y4), (5, .inl y5)]) (st' := [.inl (4 : Int32), .inl y5]) (m2 := m) (by decide +kernel) rfl trivial ?_
  refine jS.br (i := .if_icmp .ge 43) (P := (4 : Int32) ≤ y5) (rest := []) rfl (by decide +kernel) (tgt := 106) (by decide) (fun c13 => ?_) (fun c13 => ?_)
  · replace H := jif_t c13 H
    replace H := Option.some.inj H
    subst H
    refine jS.loc' [] (ls' := []) rfl ?_
    exact h2 _ rfl
  · replace H := jif_f c13 H
    refine jS.adv O [(.iload 5, 0, 0, 0, 0, 0, 0), (.iload_n 2, 0, 0, 0, 0, 0, 0)] (pc' := 69) (ls' := [(0, .inr (.inr y0)), (1, .inl y1), (2, .inl y2), (4, .inl y4), (5, .inl y5)]) (st' := [.inl y2, .inl y5]) (m2 := m) (by decide +kernel) rfl trivial ?_
    refine jS.br (i := .if_icmp .eq 31) (P := y5 = y2) (rest := []) rfl (by decide +kernel) (tgt := 100) (by decide) (fun c14 => ?_) (fun c14 => ?_)
    · replace H := jif_t c14 H
      refine jS.adv O [(.iinc 5 1, 0, 0, 0, 0, (1 : Int32), 0), (.goto (-43), 0, 60, 0, 0, 0, 0)] (pc' := 60) (ls' := [(5, .inl (y5 + (1 : Int32))), (0, .inr (.inr y0)), (1, .inl y1), (2, .inl y2), (4, .inl y4)]) (st' := []) (m2 := m) (by decide +kernel) rfl trivial ?_
      refine jS.loc' [1, 2, 3, 4, 0] (ls' := [(0, .inr (.inr y0)), (1, .inl y1), (2, .inl y2), (4, .inl y4), (5, .inl (y5 + (1 : Int32)))]) rfl ?_
      exact hB _ _ _ _ _ _ H h1 h2
    · replace H := jif_f c14 H
      refine jS.adv O [(.iload_n 1, 0, 0, 0, 0, 0, 0), (.iload 5, 0, 0, 0, 0, 0, 0), (.iushr, 0, 0, 0, 0, 0, 0), (.iconst 1, 0, 0, 0, 0, (1 : Int32), 0), (.iand, 0, 0, 0, 0, 0, 0), (.iconst 1, 0, 0, 0, 0, (1 : Int32), 0)] (pc' := 79) (ls' := [(0, .inr (.inr y0)), (1, .inl y1), (2, .inl y2), (4, .inl y4), (5, .inl y5)]) (st' := [.inl (1 : Int32), .inl ((jushr y1 y5) &&& (1 : Int32))]) (m2 := m) (by decide +kernel) rfl trivial ?_
      refine jS.br (i := .if_icmp .ne 21) (P := ¬ ((jushr y1 y5) &&& (1 : Int32)) = (1 : Int32)) (rest := []) rfl (by decide +kernel) (tgt := 100) (by decide) (fun c15 => ?_) (fun c15 => ?_)
      · replace H := jif_f c15 H
        refine jS.adv O [(.iinc 5 1, 0, 0, 0, 0, (1 : Int32), 0), (.goto (-43), 0, 60, 0, 0, 0, 0)] (pc' := 60) (ls' := [(5, .inl (y5 + (1 : Int32))), (0, .inr (.inr y0)), (1, .inl y1), (2, .inl y2), (4, .inl y4)]) (st' := []) (m2 := m) (by decide +kernel) rfl trivial ?_
        refine jS.loc' [1, 2, 3, 4, 0] (ls' := [(0, .inr (.inr y0)), (1, .inl y1), (2, .inl y2), (4, .inl y4), (5, .inl (y5 + (1 : Int32)))]) rfl ?_
        exact hB _ _ _ _ _ _ H h1 h2
      · replace H := jif_t (Classical.not_not.mp c15) H
        obtain ⟨w16, H⟩ := jgd_ok H
        obtain ⟨w17, H⟩ := jgd_ok H
        obtain ⟨w18, H⟩ := jgd_ok H
        refine jS.adv O [(.iload 4, 0, 0, 0, 0, 0, 0), (.aload_n 0, 0, 0, 0, 0, 0, 0), (.getfield 21, 0, 8, 3, 393, 0, 0), (.iload 5, 0, 0, 0, 0, 0, 0), (.iaload, 0, 1, 0, 0, 0, 0), (.iconst (-1), 0, 0, 0, 0, (-1 : Int32), 0), (.ixor, 0, 0, 0, 0, 0, 0), (.iand, 0, 0, 0, 0, 0, 0)] (pc' := 94) (ls' := [(0, .inr (.inr y0)), (1, .inl y1), (2, .inl y2), (4, .inl y4), (5, .inl y5)]) (st' := [.inl (y4 &&& ((jI m (jP m y0 3) y5.toNatClampNeg) ^^^ (-1 : Int32)))]) (m2 := m) (by decide +kernel) rfl ⟨w16, ⟨w17, jib_ok w18⟩, trivial⟩ ?_
        refine jS.br (i := .ifCond .ne 6) (P := ¬ (y4 &&& ((jI m (jP m y0 3) y5.toNatClampNeg) ^^^ (-1 : Int32))) = 0) (rest := []) rfl (by decide +kernel) (tgt := 100) (by decide) (fun c19 => ?_) (fun c19 => ?_)
        · replace H := jif_f c19 H
          refine jS.adv O [(.iinc 5 1, 0, 0, 0, 0, (1 : Int32), 0), (.goto (-43), 0, 60, 0, 0, 0, 0)] (pc' := 60) (ls' := [(5, .inl (y5 + (1 : Int32))), (0, .inr (.inr y0)), (1, .inl y1), (2, .inl y2), (4, .inl y4)]) (st' := []) (m2 := m) (by decide +kernel) rfl trivial ?_
          refine jS.loc' [1, 2, 3, 4, 0] (ls' := [(0, .inr (.inr y0)), (1, .inl y1), (2, .inl y2), (4, .inl y4), (5, .inl (y5 + (1 : Int32)))]) rfl ?_
          exact hB _ _ _ _ _ _ H h1 h2
        · replace H := jif_t (Classical.not_not.mp c19) H
          refine jS.adv O [(.iload 5, 0, 0, 0, 0, 0, 0)] (pc' := 99) (ls' := [(0, .inr (.inr y0)), (1, .inl y1), (2, .inl y2), (4, .inl y4), (5, .inl y5)]) (st' := [.inl y5]) (m2 := m) (by decide +kernel) rfl trivial ?_
          replace H := Option.some.inj H
          subst H
          obtain ⟨q1, q2⟩ := h1 _ rfl
          subst q1; subst q2
          exact jS.iret rfl (by decide +kernel)
def c_X8_stemOf_l60 (F : Nat) (m : jMe) : Nat → Nat → Int32 → Int32 → Int32 → Int32 → Option (Int32 ⊕ Unit)
  | 0, _, _, _, _, _ => none
  | n + 1, y0, y1, y2, y4, y5 => c_X8_stemOf_l60_b F (fun y0 y1 y2 y4 y5 => c_X8_stemOf_l60 F m n y0 y1 y2 y4 y5) m y0 y1 y2 y4 y5
theorem ec_X8_stemOf_l60 {X : jX} {l : Launch} {d : Nat} (O : jOk X) (hd : 2 ≤ d) {F : Nat} {m0 m' : jMe} {v : Option jAV} {m : jMe} : ∀ (n : Nat) {y0 : Nat} {y1 : Int32} {y2 : Int32} {y4 : Int32} {y5 : Int32} {r : Int32 ⊕ Unit} (H : c_X8_stemOf_l60 F m n y0 y1 y2 y4 y5 = some r) (h1 : ∀ q, r = .inl q → v = (some (.inl q)) ∧ m' = m) (h2 : ∀ e, r = .inr e → jS X l d jm_X8_stemOf m0 v m' (106, [], [], m)), jS X l d jm_X8_stemOf m0 v m' (60, [(0, .inr (.inr y0)), (1, .inl y1), (2, .inl y2), (4, .inl y4), (5, .inl y5)], [], m) := by
  intro n
  induction n with
  | zero =>
    intro y0 y1 y2 y4 y5 r H h1 h2
    cases (show none = some r from H)
  | succ n ih =>
    intro y0 y1 y2 y4 y5 r H h1 h2
    exact ec_X8_stemOf_l60_b O hd (B := (fun y0 y1 y2 y4 y5 => c_X8_stemOf_l60 F m n y0 y1 y2 y4 y5)) (fun y0 y1 y2 y4 y5 r H h1 h2 => ih H h1 h2) H h1 h2
def c_X8_stemOf (F : Nat) (m : jMe) (x0 : Nat) (x1 : Int32) (x2 : Int32) : Option (Int32) :=
  jb (c_X8_stemOf_l5 F m F x0 x1 x2 (0 : Int32) (0 : Int32)) fun e8 => jgd (jK m e8.1 = 40) <| jgd (jK m (jP m e8.1 3) = 1) <| jgd (jin e8.2.2.1 (jZ m (jP m e8.1 3)) = true) <| jb2 (c_X8_stemOf_l60 F m F e8.1 e8.2.1 e8.2.2.1 ((jI m (jP m e8.1 3) e8.2.2.1.toNatClampNeg) &&& e8.2.2.2) (0 : Int32)) (fun q => some q) fun e21 => some (-1 : Int32)
theorem ec_X8_stemOf {X : jX} {l : Launch} {d : Nat} (O : jOk X) (hd : 2 ≤ d) {F : Nat} {m : jMe} {x0 : Nat} {x1 : Int32} {x2 : Int32} {r : Int32} (H : c_X8_stemOf F m x0 x1 x2 = some r) : jH X l d jm_X8_stemOf [.inr (.inr x0), .inl x1, .inl x2] m (some (.inl r)) m := by
  refine jH.of jpl_RX8 rfl (Nat.le_of_ble_eq_true rfl) ?_
  show jS X l d jm_X8_stemOf m _ _ (0, [(0, .inr (.inr x0)), (1, .inl x1), (2, .inl x2)], [], m)
  unfold c_X8_stemOf at H
  refine jS.adv O [(.iconst 0, 0, 0, 0, 0, (0 : Int32), 0), (.istore_n 3, 0, 0, 0, 0, 0, 0), (.iconst 0, 0, 0, 0, 0, (0 : Int32), 0), (.istore 4, 0, 0, 0, 0, 0, 0)] (pc' := 5) (ls' := [(4, .inl (0 : Int32)), (3, .inl (0 : Int32)), (0, .inr (.inr x0)), (1, .inl x1), (2, .inl x2)]) (st' := []) (m2 := m) (by decide +kernel) rfl trivial ?_
  refine jS.loc' [2, 3, 4, 1, 0] (ls' := [(0, .inr (.inr x0)), (1, .inl x1), (2, .inl x2), (3, .inl (0 : Int32)), (4, .inl (0 : Int32))]) rfl ?_
  obtain ⟨e8, w9, H⟩ := jb_ok H
  refine ec_X8_stemOf_l5 O hd F w9 ?_
  obtain ⟨w10, H⟩ := jgd_ok H
  obtain ⟨w11, H⟩ := jgd_ok H
  obtain ⟨w12, H⟩ := jgd_ok H
  refine jS.adv O [(.aload_n 0, 0, 0, 0, 0, 0, 0), (.getfield 21, 0, 8, 3, 393, 0, 0), (.iload_n 2, 0, 0, 0, 0, 0, 0), (.iaload, 0, 1, 0, 0, 0, 0), (.iload_n 3, 0, 0, 0, 0, 0, 0), (.iand, 0, 0, 0, 0, 0, 0), (.istore 4, 0, 0, 0, 0, 0, 0), (.iconst 0, 0, 0, 0, 0, (0 : Int32), 0), (.istore 5, 0, 0, 0, 0, 0, 0)] (pc' := 60) (ls' := [(5, .inl (0 : Int32)), (4, .inl ((jI m (jP m e8.1 3) e8.2.2.1.toNatClampNeg) &&& e8.2.2.2)), (0, .inr (.inr e8.1)), (1, .inl e8.2.1), (2, .inl e8.2.2.1), (3, .inl e8.2.2.2)]) (st' := []) (m2 := m) (by decide +kernel) rfl ⟨w10, ⟨w11, jib_ok w12⟩, trivial⟩ ?_
  refine jS.loc' [2, 3, 4, 1, 0] (ls' := [(0, .inr (.inr e8.1)), (1, .inl e8.2.1), (2, .inl e8.2.2.1), (4, .inl ((jI m (jP m e8.1 3) e8.2.2.1.toNatClampNeg) &&& e8.2.2.2)), (5, .inl (0 : Int32))]) rfl ?_
  rcases jb2_ok H with ⟨q20, w22, H⟩ | ⟨e21, w22, H⟩
  · refine ec_X8_stemOf_l60 O hd F w22 (fun q2 hq2 => ?_) (fun e2 he2 => by cases he2)
    cases hq2
    cases H
    exact ⟨rfl, rfl⟩
  · refine ec_X8_stemOf_l60 O hd F w22 (fun q2 hq2 => by cases hq2) (fun e2 he2 => ?_)
    cases he2
    refine jS.adv O [(.iconst (-1), 0, 0, 0, 0, (-1 : Int32), 0)] (pc' := 107) (ls' := []) (st' := [.inl (-1 : Int32)]) (m2 := m) (by decide +kernel) rfl trivial ?_
    replace H := Option.some.inj H
    subst H
    exact jS.iret rfl (by decide +kernel)
def c_X8_firstEar_l2_b (F : Nat) (B : Nat → Int32 → Int32 → Option (Int32 ⊕ Unit)) (m : jMe) (y0 : Nat) (y1 : Int32) (y2 : Int32) : Option (Int32 ⊕ Unit) :=
  (if (4 : Int32) ≤ y2 then some (.inr ()) else jb (c_X9_isIn F m y1 y2) fun t3 => (if t3 = 0 then B y0 y1 (y2 + (1 : Int32)) else jgd (jK m y0 = 40) <| jb (c_X8_stemOf F m y0 y1 y2) fun t7 => (if t7 = (-1 : Int32) then B y0 y1 (y2 + (1 : Int32)) else some (.inl y2))))
theorem ec_X8_firstEar_l2_b {X : jX} {l : Launch} {d : Nat} (O : jOk X) (hd : 3 ≤ d) {F : Nat} {m0 m' : jMe} {v : Option jAV} {m : jMe} {B : Nat → Int32 → Int32 → Option (Int32 ⊕ Unit)} (hB : ∀ (y0 : Nat) (y1 : Int32) (y2 : Int32) (r : Int32 ⊕ Unit), B y0 y1 y2 = some r → (∀ q, r = .inl q → v = (some (.inl q)) ∧ m' = m) → (∀ e, r = .inr e → jS X l d jm_X8_firstEar m0 v m' (33, [], [], m)) → jS X l d jm_X8_firstEar m0 v m' (2, [(0, .inr (.inr y0)), (1, .inl y1), (2, .inl y2)], [], m)) {y0 : Nat} {y1 : Int32} {y2 : Int32} {r : Int32 ⊕ Unit} (H : c_X8_firstEar_l2_b F B m y0 y1 y2 = some r) (h1 : ∀ q, r = .inl q → v = (some (.inl q)) ∧ m' = m) (h2 : ∀ e, r = .inr e → jS X l d jm_X8_firstEar m0 v m' (33, [], [], m)) : jS X l d jm_X8_firstEar m0 v m' (2, [(0, .inr (.inr y0)), (1, .inl y1), (2, .inl y2)], [], m) := by
  unfold c_X8_firstEar_l2_b at H
  refine jS.adv O [(.iload_n 2, 0, 0, 0, 0, 0, 0), (.iconst 4, 0, 0, 0, 0, (4 : Int32), 0)] (pc' := 4) (ls' := [(0, .inr (.inr y0)), (1, .inl y1), (2, .inl y2)]) (st' := [.inl (4 : Int32), .inl y2]) (m2 := m) (by decide +kernel) rfl trivial ?_
  refine jS.br (i := .if_icmp .ge 29) (P := (4 : Int32) ≤ y2) (rest := []) rfl (by decide +kernel) (tgt := 33) (by decide) (fun c1 => ?_) (fun c1 => ?_)
  · replace H := jif_t c1 H
    replace H := Option.some.inj H
    subst H
    refine jS.loc' [] (ls' := []) rfl ?_
    exact h2 _ rfl
  · replace H := jif_f c1 H
    refine jS.adv O [(.iload_n 1, 0, 0, 0, 0, 0, 0), (.iload_n 2, 0, 0, 0, 0, 0, 0)] (pc' := 9) (ls' := [(0, .inr (.inr y0)), (1, .inl y1), (2, .inl y2)]) (st' := [.inl y2, .inl y1]) (m2 := m) (by decide +kernel) rfl trivial ?_
    obtain ⟨t3, w2, H⟩ := jb_ok H
    refine jS.step (c' := (12, [(0, .inr (.inr y0)), (1, .inl y1), (2, .inl y2)], [.inl t3], m)) (jSt.callSN (As := [.inl y1, .inl y2]) (rest := []) O (ec_X9_isIn (d := 2) O (Nat.le_refl _) w2) (by omega) jmw_X9_isIn jmv_X9_isIn jmn_X9_isIn (host := "JoinDraws") (idx := 41) jln_JoinDraws_Tree_41 (Nat.le_of_ble_eq_true rfl) (by decide +kernel)) ?_
    refine jS.br (i := .ifCond .eq 15) (P := t3 = 0) (rest := []) rfl (by decide +kernel) (tgt := 27) (by decide) (fun c4 => ?_) (fun c4 => ?_)
    · replace H := jif_t c4 H
      refine jS.adv O [(.iinc 2 1, 0, 0, 0, 0, (1 : Int32), 0), (.goto (-28), 0, 2, 0, 0, 0, 0)] (pc' := 2) (ls' := [(2, .inl (y2 + (1 : Int32))), (0, .inr (.inr y0)), (1, .inl y1)]) (st' := []) (m2 := m) (by decide +kernel) rfl trivial ?_
      refine jS.loc' [1, 2, 0] (ls' := [(0, .inr (.inr y0)), (1, .inl y1), (2, .inl (y2 + (1 : Int32)))]) rfl ?_
      exact hB _ _ _ _ H h1 h2
    · replace H := jif_f c4 H
      obtain ⟨w5, H⟩ := jgd_ok H
      refine jS.adv O [(.aload_n 0, 0, 0, 0, 0, 0, 0), (.iload_n 1, 0, 0, 0, 0, 0, 0), (.iload_n 2, 0, 0, 0, 0, 0, 0)] (pc' := 18) (ls' := [(0, .inr (.inr y0)), (1, .inl y1), (2, .inl y2)]) (st' := [.inl y2, .inl y1, .inr (.inr y0)]) (m2 := m) (by decide +kernel) rfl trivial ?_
      obtain ⟨t7, w6, H⟩ := jb_ok H
      refine jS.step (c' := (21, [(0, .inr (.inr y0)), (1, .inl y1), (2, .inl y2)], [.inl t7], m)) (jSt.callV (c := 8) (As := [.inl y1, .inl y2]) (rest := []) O (ec_X8_stemOf (d := 2) O (Nat.le_refl _) w6) w5 (by decide) rfl (by omega) jmw_X8_stemOf jmv_X8_stemOf jmn_X8_stemOf (idx := 64) (jW_of 787 (by decide +kernel) rfl) (Nat.le_of_ble_eq_true rfl) (by decide +kernel)) ?_
      refine jS.adv O [(.iconst (-1), 0, 0, 0, 0, (-1 : Int32), 0)] (pc' := 22) (ls' := [(0, .inr (.inr y0)), (1, .inl y1), (2, .inl y2)]) (st' := [.inl (-1 : Int32), .inl t7]) (m2 := m) (by decide +kernel) rfl trivial ?_
      refine jS.br (i := .if_icmp .eq 5) (P := t7 = (-1 : Int32)) (rest := []) rfl (by decide +kernel) (tgt := 27) (by decide) (fun c8 => ?_) (fun c8 => ?_)
      · replace H := jif_t c8 H
        refine jS.adv O [(.iinc 2 1, 0, 0, 0, 0, (1 : Int32), 0), (.goto (-28), 0, 2, 0, 0, 0, 0)] (pc' := 2) (ls' := [(2, .inl (y2 + (1 : Int32))), (0, .inr (.inr y0)), (1, .inl y1)]) (st' := []) (m2 := m) (by decide +kernel) rfl trivial ?_
        refine jS.loc' [1, 2, 0] (ls' := [(0, .inr (.inr y0)), (1, .inl y1), (2, .inl (y2 + (1 : Int32)))]) rfl ?_
        exact hB _ _ _ _ H h1 h2
      · replace H := jif_f c8 H
        refine jS.adv O [(.iload_n 2, 0, 0, 0, 0, 0, 0)] (pc' := 26) (ls' := [(0, .inr (.inr y0)), (1, .inl y1), (2, .inl y2)]) (st' := [.inl y2]) (m2 := m) (by decide +kernel) rfl trivial ?_
        replace H := Option.some.inj H
        subst H
        obtain ⟨q1, q2⟩ := h1 _ rfl
        subst q1; subst q2
        exact jS.iret rfl (by decide +kernel)
def c_X8_firstEar_l2 (F : Nat) (m : jMe) : Nat → Nat → Int32 → Int32 → Option (Int32 ⊕ Unit)
  | 0, _, _, _ => none
  | n + 1, y0, y1, y2 => c_X8_firstEar_l2_b F (fun y0 y1 y2 => c_X8_firstEar_l2 F m n y0 y1 y2) m y0 y1 y2
theorem ec_X8_firstEar_l2 {X : jX} {l : Launch} {d : Nat} (O : jOk X) (hd : 3 ≤ d) {F : Nat} {m0 m' : jMe} {v : Option jAV} {m : jMe} : ∀ (n : Nat) {y0 : Nat} {y1 : Int32} {y2 : Int32} {r : Int32 ⊕ Unit} (H : c_X8_firstEar_l2 F m n y0 y1 y2 = some r) (h1 : ∀ q, r = .inl q → v = (some (.inl q)) ∧ m' = m) (h2 : ∀ e, r = .inr e → jS X l d jm_X8_firstEar m0 v m' (33, [], [], m)), jS X l d jm_X8_firstEar m0 v m' (2, [(0, .inr (.inr y0)), (1, .inl y1), (2, .inl y2)], [], m) := by
  intro n
  induction n with
  | zero =>
    intro y0 y1 y2 r H h1 h2
    cases (show none = some r from H)
  | succ n ih =>
    intro y0 y1 y2 r H h1 h2
    exact ec_X8_firstEar_l2_b O hd (B := (fun y0 y1 y2 => c_X8_firstEar_l2 F m n y0 y1 y2)) (fun y0 y1 y2 r H h1 h2 => ih H h1 h2) H h1 h2
def c_X8_firstEar (F : Nat) (m : jMe) (x0 : Nat) (x1 : Int32) : Option (Int32) :=
  jb2 (c_X8_firstEar_l2 F m F x0 x1 (0 : Int32)) (fun q => some q) fun e10 => some (-1 : Int32)
theorem ec_X8_firstEar {X : jX} {l : Launch} {d : Nat} (O : jOk X) (hd : 3 ≤ d) {F : Nat} {m : jMe} {x0 : Nat} {x1 : Int32} {r : Int32} (H : c_X8_firstEar F m x0 x1 = some r) : jH X l d jm_X8_firstEar [.inr (.inr x0), .inl x1] m (some (.inl r)) m := by
  refine jH.of jpl_RX8 rfl (Nat.le_of_ble_eq_true rfl) ?_
  show jS X l d jm_X8_firstEar m _ _ (0, [(0, .inr (.inr x0)), (1, .inl x1)], [], m)
  unfold c_X8_firstEar at H
  refine jS.adv O [(.iconst 0, 0, 0, 0, 0, (0 : Int32), 0), (.istore_n 2, 0, 0, 0, 0, 0, 0)] (pc' := 2) (ls' := [(2, .inl (0 : Int32)), (0, .inr (.inr x0)), (1, .inl x1)]) (st' := []) (m2 := m) (by decide +kernel) rfl trivial ?_
  refine jS.loc' [1, 2, 0] (ls' := [(0, .inr (.inr x0)), (1, .inl x1), (2, .inl (0 : Int32))]) rfl ?_
  rcases jb2_ok H with ⟨q9, w11, H⟩ | ⟨e10, w11, H⟩
  · refine ec_X8_firstEar_l2 O hd F w11 (fun q2 hq2 => ?_) (fun e2 he2 => by cases he2)
    cases hq2
    cases H
    exact ⟨rfl, rfl⟩
  · refine ec_X8_firstEar_l2 O hd F w11 (fun q2 hq2 => by cases hq2) (fun e2 he2 => ?_)
    cases he2
    refine jS.adv O [(.iconst (-1), 0, 0, 0, 0, (-1 : Int32), 0)] (pc' := 34) (ls' := []) (st' := [.inl (-1 : Int32)]) (m2 := m) (by decide +kernel) rfl trivial ?_
    replace H := Option.some.inj H
    subst H
    exact jS.iret rfl (by decide +kernel)
def c_X8_takeOut (F : Nat) (m : jMe) (x0 : Nat) (x1 : Int32) : Option (jMe) :=
  (if x1 = (-1 : Int32) then some m else jgd (jK m x0 = 40) <| (if (4 : Int32) ≤ (jI m x0 4) then some m else jgd (jK m (jP m x0 2) = 1) <| jgd (jin (jI m x0 4) (jZ m (jP m x0 2)) = true) <| some (jsI (jsI m (jP m x0 2) (jI m x0 4).toNatClampNeg x1) x0 4 ((jI (jsI m (jP m x0 2) (jI m x0 4).toNatClampNeg x1) x0 4) + (1 : Int32)))))
theorem ec_X8_takeOut {X : jX} {l : Launch} {d : Nat} (O : jOk X) (hd : 2 ≤ d) {F : Nat} {m : jMe} {x0 : Nat} {x1 : Int32} {r : jMe} (H : c_X8_takeOut F m x0 x1 = some r) : jH X l d jm_X8_takeOut [.inr (.inr x0), .inl x1] m none r := by
  refine jH.of jpl_RX8 rfl (Nat.le_of_ble_eq_true rfl) ?_
  show jS X l d jm_X8_takeOut m _ _ (0, [(0, .inr (.inr x0)), (1, .inl x1)], [], m)
  unfold c_X8_takeOut at H
  refine jS.adv O [(.iload_n 1, 0, 0, 0, 0, 0, 0), (.iconst (-1), 0, 0, 0, 0, (-1 : Int32), 0)] (pc' := 2) (ls' := [(0, .inr (.inr x0)), (1, .inl x1)]) (st' := [.inl (-1 : Int32), .inl x1]) (m2 := m) (by decide +kernel) rfl trivial ?_
  refine jS.br (i := .if_icmp .eq 31) (P := x1 = (-1 : Int32)) (rest := []) rfl (by decide +kernel) (tgt := 33) (by decide) (fun c1 => ?_) (fun c1 => ?_)
  · replace H := jif_t c1 H
    replace H := Option.some.inj H
    subst H
    exact jS.vret rfl (by decide +kernel)
  · replace H := jif_f c1 H
    obtain ⟨w2, H⟩ := jgd_ok H
    refine jS.adv O [(.aload_n 0, 0, 0, 0, 0, 0, 0), (.getfield 24, 0, 8, 4, 394, 0, 0), (.iconst 4, 0, 0, 0, 0, (4 : Int32), 0)] (pc' := 10) (ls' := [(0, .inr (.inr x0)), (1, .inl x1)]) (st' := [.inl (4 : Int32), .inl (jI m x0 4)]) (m2 := m) (by decide +kernel) rfl ⟨w2, trivial⟩ ?_
    refine jS.br (i := .if_icmp .ge 23) (P := (4 : Int32) ≤ (jI m x0 4)) (rest := []) rfl (by decide +kernel) (tgt := 33) (by decide) (fun c3 => ?_) (fun c3 => ?_)
    · replace H := jif_t c3 H
      replace H := Option.some.inj H
      subst H
      exact jS.vret rfl (by decide +kernel)
    · replace H := jif_f c3 H
      obtain ⟨w4, H⟩ := jgd_ok H
      obtain ⟨w5, H⟩ := jgd_ok H
      refine jS.adv O [(.aload_n 0, 0, 0, 0, 0, 0, 0), (.getfield 18, 0, 8, 2, 391, 0, 0), (.aload_n 0, 0, 0, 0, 0, 0, 0), (.getfield 24, 0, 8, 4, 394, 0, 0), (.iload_n 1, 0, 0, 0, 0, 0, 0), (.iastore, 0, 0, 0, 0, 0, 0), (.aload_n 0, 0, 0, 0, 0, 0, 0), (.dup, 0, 0, 0, 0, 0, 0), (.getfield 24, 0, 8, 4, 394, 0, 0), (.iconst 1, 0, 0, 0, 0, (1 : Int32), 0), (.iadd, 0, 0, 0, 0, 0, 0), (.putfield 24, 0, 8, 4, 394, 0, 0)] (pc' := 33) (ls' := [(0, .inr (.inr x0)), (1, .inl x1)]) (st' := []) (m2 := (jsI (jsI m (jP m x0 2) (jI m x0 4).toNatClampNeg x1) x0 4 ((jI (jsI m (jP m x0 2) (jI m x0 4).toNatClampNeg x1) x0 4) + (1 : Int32)))) (by decide +kernel) rfl ⟨w2, w2, ⟨w4, jib_ok w5⟩, w2, w2, trivial⟩ ?_
      replace H := Option.some.inj H
      subst H
      exact jS.vret rfl (by decide +kernel)
def c_X8_plant_l25_b (F : Nat) (B : jMe → Nat → Int32 → Int32 → Option ((Int32 × jMe) ⊕ (jMe × Nat × Int32))) (m : jMe) (y0 : Nat) (y2 : Int32) (y3 : Int32) : Option ((Int32 × jMe) ⊕ (jMe × Nat × Int32)) :=
  (if (4 : Int32) ≤ y3 then some (.inr (m, y0, y2)) else jb (c_J6_bitCount_0f7a4 F m y2) fun t10 => (if t10 ≤ (1 : Int32) then some (.inr (m, y0, y2)) else jgd (jK m y0 = 40) <| jb (c_X8_firstEar F m y0 y2) fun t14 => (if t14 = (-1 : Int32) then some (.inl ((0 : Int32), m)) else jb (c_X8_stemOf F m y0 y2 t14) fun t17 => jgd (jK m (jP m y0 0) = 1) <| jgd (jin t14 (jZ m (jP m y0 0)) = true) <| jgd (jK m (jP (jsI m (jP m y0 0) t14.toNatClampNeg t17) y0 0) = 1) <| jgd (jin t14 (jZ m (jP (jsI m (jP m y0 0) t14.toNatClampNeg t17) y0 0)) = true) <| jgd (jK m (jP (jsI m (jP m y0 0) t14.toNatClampNeg t17) y0 1) = 1) <| jgd (jin (jI (jsI m (jP m y0 0) t14.toNatClampNeg t17) (jP (jsI m (jP m y0 0) t14.toNatClampNeg t17) y0 0) t14.toNatClampNeg) (jZ m (jP (jsI m (jP m y0 0) t14.toNatClampNeg t17) y0 1)) = true) <| jgd (jin (jI (jsI m (jP m y0 0) t14.toNatClampNeg t17) (jP (jsI m (jP m y0 0) t14.toNatClampNeg t17) y0 0) t14.toNatClampNeg) (jZ m (jP (jsI m (jP m y0 0) t14.toNatClampNeg t17) y0 1)) = true) <| jlet (jsI (jsI m (jP m y0 0) t14.toNatClampNeg t17) (jP (jsI m (jP m y0 0) t14.toNatClampNeg t17) y0 1) (jI (jsI m (jP m y0 0) t14.toNatClampNeg t17) (jP (jsI m (jP m y0 0) t14.toNatClampNeg t17) y0 0) t14.toNatClampNeg).toNatClampNeg ((jI (jsI m (jP m y0 0) t14.toNatClampNeg t17) (jP (jsI m (jP m y0 0) t14.toNatClampNeg t17) y0 1) (jI (jsI m (jP m y0 0) t14.toNatClampNeg t17) (jP (jsI m (jP m y0 0) t14.toNatClampNeg t17) y0 0) t14.toNatClampNeg).toNatClampNeg) ||| (jshl (1 : Int32) t14))) fun m25 => jgd (jK m25 y0 = 40) <| jb (c_X8_takeOut F m25 y0 t14) fun t28 => B t28 y0 (y2 &&& ((jshl (1 : Int32) t14) ^^^ (-1 : Int32))) (y3 + (1 : Int32)))))
theorem ec_X8_plant_l25_b {X : jX} {l : Launch} {d : Nat} (O : jOk X) (hd : 4 ≤ d) {F : Nat} {m0 m' : jMe} {v : Option jAV} {B : jMe → Nat → Int32 → Int32 → Option ((Int32 × jMe) ⊕ (jMe × Nat × Int32))} (hB : ∀ (m : jMe) (y0 : Nat) (y2 : Int32) (y3 : Int32) (r : (Int32 × jMe) ⊕ (jMe × Nat × Int32)), B m y0 y2 y3 = some r → (∀ q, r = .inl q → v = (some (.inl q.1)) ∧ m' = q.2) → (∀ e, r = .inr e → jS X l d jm_X8_plant m0 v m' (107, [(0, .inr (.inr e.2.1)), (2, .inl e.2.2)], [], e.1)) → jS X l d jm_X8_plant m0 v m' (25, [(0, .inr (.inr y0)), (2, .inl y2), (3, .inl y3)], [], m)) {m : jMe} {y0 : Nat} {y2 : Int32} {y3 : Int32} {r : (Int32 × jMe) ⊕ (jMe × Nat × Int32)} (H : c_X8_plant_l25_b F B m y0 y2 y3 = some r) (h1 : ∀ q, r = .inl q → v = (some (.inl q.1)) ∧ m' = q.2) (h2 : ∀ e, r = .inr e → jS X l d jm_X8_plant m0 v m' (107, [(0, .inr (.inr e.2.1)), (2, .inl e.2.2)], [], e.1)) : jS X l d jm_X8_plant m0 v m' (25, [(0, .inr (.inr y0)), (2, .inl y2), (3, .inl y3)], [], m) := by
  unfold c_X8_plant_l25_b at H
  refine jS.adv O [(.iload_n 3, 0, 0, 0, 0, 0, 0), (.iconst 4, 0, 0, 0, 0, (4 : Int32), 0)] (pc' := 27) (ls' := [(0, .inr (.inr y0)), (2, .inl y2), (3, .inl y3)]) (st' := [.inl (4 : Int32), .inl y3]) (m2 := m) (by decide +kernel) rfl trivial ?_
  refine jS.br (i := .if_icmp .ge 80) (P := (4 : Int32) ≤ y3) (rest := []) rfl (by decide +kernel) (tgt := 107) (by decide) (fun c8 => ?_) (fun c8 => ?_)
  · replace H := jif_t c8 H
    replace H := Option.some.inj H
    subst H
    refine jS.loc' [0, 1] (ls' := [(0, .inr (.inr y0)), (2, .inl y2)]) rfl ?_
    exact h2 _ rfl
  · replace H := jif_f c8 H
    refine jS.adv O [(.iload_n 2, 0, 0, 0, 0, 0, 0)] (pc' := 31) (ls' := [(0, .inr (.inr y0)), (2, .inl y2), (3, .inl y3)]) (st' := [.inl y2]) (m2 := m) (by decide +kernel) rfl trivial ?_
    obtain ⟨t10, w9, H⟩ := jb_ok H
    refine jS.step (c' := (34, [(0, .inr (.inr y0)), (2, .inl y2), (3, .inl y3)], [.inl t10], m)) (jSt.callS (As := [.inl y2]) (rest := []) O (ec_J6_bitCount_0f7a4 (d := 2) O (Nat.le_refl _) w9) (by omega) jmw_J6_bitCount_0f7a4 jmv_J6_bitCount_0f7a4 jmn_J6_bitCount_0f7a4 (idx := 55) (jW_of 782 (by decide +kernel) rfl) (Nat.le_of_ble_eq_true rfl) (by decide +kernel)) ?_
    refine jS.adv O [(.iconst 1, 0, 0, 0, 0, (1 : Int32), 0)] (pc' := 35) (ls' := [(0, .inr (.inr y0)), (2, .inl y2), (3, .inl y3)]) (st' := [.inl (1 : Int32), .inl t10]) (m2 := m) (by decide +kernel) rfl trivial ?_
    refine jS.br (i := .if_icmp .le 72) (P := t10 ≤ (1 : Int32)) (rest := []) rfl (by decide +kernel) (tgt := 107) (by decide) (fun c11 => ?_) (fun c11 => ?_)
    · replace H := jif_t c11 H
      replace H := Option.some.inj H
      subst H
      refine jS.loc' [0, 1] (ls' := [(0, .inr (.inr y0)), (2, .inl y2)]) rfl ?_
      exact h2 _ rfl
    · replace H := jif_f c11 H
      obtain ⟨w12, H⟩ := jgd_ok H
      refine jS.adv O [(.aload_n 0, 0, 0, 0, 0, 0, 0), (.iload_n 2, 0, 0, 0, 0, 0, 0)] (pc' := 40) (ls' := [(0, .inr (.inr y0)), (2, .inl y2), (3, .inl y3)]) (st' := [.inl y2, .inr (.inr y0)]) (m2 := m) (by decide +kernel) rfl trivial ?_
      obtain ⟨t14, w13, H⟩ := jb_ok H
      refine jS.step (c' := (43, [(0, .inr (.inr y0)), (2, .inl y2), (3, .inl y3)], [.inl t14], m)) (jSt.callV (c := 8) (As := [.inl y2]) (rest := []) O (ec_X8_firstEar (d := 3) O (Nat.le_refl _) w13) w12 (by decide) rfl (by omega) jmw_X8_firstEar jmv_X8_firstEar jmn_X8_firstEar (idx := 61) (jW_of 783 (by decide +kernel) rfl) (Nat.le_of_ble_eq_true rfl) (by decide +kernel)) ?_
      refine jS.adv O [(.istore 4, 0, 0, 0, 0, 0, 0), (.iload 4, 0, 0, 0, 0, 0, 0), (.iconst (-1), 0, 0, 0, 0, (-1 : Int32), 0)] (pc' := 48) (ls' := [(4, .inl t14), (0, .inr (.inr y0)), (2, .inl y2), (3, .inl y3)]) (st' := [.inl (-1 : Int32), .inl t14]) (m2 := m) (by decide +kernel) rfl trivial ?_
      refine jS.br (i := .if_icmp .ne 5) (P := ¬ t14 = (-1 : Int32)) (rest := []) rfl (by decide +kernel) (tgt := 53) (by decide) (fun c15 => ?_) (fun c15 => ?_)
      · replace H := jif_f c15 H
        refine jS.adv O [(.aload_n 0, 0, 0, 0, 0, 0, 0), (.getfield 9, 0, 8, 0, 385, 0, 0), (.iload 4, 0, 0, 0, 0, 0, 0), (.aload_n 0, 0, 0, 0, 0, 0, 0), (.iload_n 2, 0, 0, 0, 0, 0, 0), (.iload 4, 0, 0, 0, 0, 0, 0)] (pc' := 63) (ls' := [(4, .inl t14), (0, .inr (.inr y0)), (2, .inl y2), (3, .inl y3)]) (st' := [.inl t14, .inl y2, .inr (.inr y0), .inl t14, .inr (.inr (jP m y0 0))]) (m2 := m) (by decide +kernel) rfl ⟨w12, trivial⟩ ?_
        obtain ⟨t17, w16, H⟩ := jb_ok H
        refine jS.step (c' := (66, [(4, .inl t14), (0, .inr (.inr y0)), (2, .inl y2), (3, .inl y3)], [.inl t17, .inl t14, .inr (.inr (jP m y0 0))], m)) (jSt.callV (c := 8) (As := [.inl y2, .inl t14]) (rest := [.inl t14, .inr (.inr (jP m y0 0))]) O (ec_X8_stemOf (d := 2) O (Nat.le_refl _) w16) w12 (by decide) rfl (by omega) jmw_X8_stemOf jmv_X8_stemOf jmn_X8_stemOf (idx := 64) (jW_of 787 (by decide +kernel) rfl) (Nat.le_of_ble_eq_true rfl) (by decide +kernel)) ?_
        obtain ⟨w18, H⟩ := jgd_ok H
        obtain ⟨w19, H⟩ := jgd_ok H
        obtain ⟨w20, H⟩ := jgd_ok H
        obtain ⟨w21, H⟩ := jgd_ok H
        obtain ⟨w22, H⟩ := jgd_ok H
        obtain ⟨w23, H⟩ := jgd_ok H
        obtain ⟨w24, H⟩ := jgd_ok H
        obtain ⟨m25, em25, H⟩ := jlet_ok H
        refine jS.adv O [(.iastore, 0, 0, 0, 0, 0, 0), (.aload_n 0, 0, 0, 0, 0, 0, 0), (.getfield 15, 0, 8, 1, 388, 0, 0), (.aload_n 0, 0, 0, 0, 0, 0, 0), (.getfield 9, 0, 8, 0, 385, 0, 0), (.iload 4, 0, 0, 0, 0, 0, 0), (.iaload, 0, 1, 0, 0, 0, 0), (.dup2, 0, 0, 0, 0, 0, 0), (.iaload, 0, 1, 0, 0, 0, 0), (.iconst 1, 0, 0, 0, 0, (1 : Int32), 0), (.iload 4, 0, 0, 0, 0, 0, 0), (.ishl, 0, 0, 0, 0, 0, 0), (.ior, 0, 0, 0, 0, 0, 0), (.iastore, 0, 0, 0, 0, 0, 0)] (pc' := 86) (ls' := [(4, .inl t14), (0, .inr (.inr y0)), (2, .inl y2), (3, .inl y3)]) (st' := []) (m2 := (jsI (jsI m (jP m y0 0) t14.toNatClampNeg t17) (jP (jsI m (jP m y0 0) t14.toNatClampNeg t17) y0 1) (jI (jsI m (jP m y0 0) t14.toNatClampNeg t17) (jP (jsI m (jP m y0 0) t14.toNatClampNeg t17) y0 0) t14.toNatClampNeg).toNatClampNeg ((jI (jsI m (jP m y0 0) t14.toNatClampNeg t17) (jP (jsI m (jP m y0 0) t14.toNatClampNeg t17) y0 1) (jI (jsI m (jP m y0 0) t14.toNatClampNeg t17) (jP (jsI m (jP m y0 0) t14.toNatClampNeg t17) y0 0) t14.toNatClampNeg).toNatClampNeg) ||| (jshl (1 : Int32) t14)))) (by decide +kernel) rfl ⟨⟨w18, jib_ok w19⟩, w12, w12, ⟨w20, jib_ok w21⟩, ⟨w22, jib_ok w23⟩, ⟨w22, jib_ok w24⟩, trivial⟩ ?_
        refine jS.cast (c' := (86, [(4, .inl t14), (0, .inr (.inr y0)), (2, .inl y2), (3, .inl y3)], [], m25)) (by rw [em25]) ?_
        obtain ⟨w26, H⟩ := jgd_ok H
        refine jS.adv O [(.aload_n 0, 0, 0, 0, 0, 0, 0), (.iload 4, 0, 0, 0, 0, 0, 0)] (pc' := 89) (ls' := [(4, .inl t14), (0, .inr (.inr y0)), (2, .inl y2), (3, .inl y3)]) (st' := [.inl t14, .inr (.inr y0)]) (m2 := m25) (by decide +kernel) rfl trivial ?_
        obtain ⟨t28, w27, H⟩ := jb_ok H
        refine jS.step (c' := (92, [(4, .inl t14), (0, .inr (.inr y0)), (2, .inl y2), (3, .inl y3)], [], t28)) (jSt.callV (c := 8) (As := [.inl t14]) (rest := []) O (ec_X8_takeOut (d := 2) O (Nat.le_refl _) w27) w26 (by decide) rfl (by omega) jmw_X8_takeOut jmv_X8_takeOut jmn_X8_takeOut (idx := 68) (jW_of 791 (by decide +kernel) rfl) (Nat.le_of_ble_eq_true rfl) (by decide +kernel)) ?_
        refine jS.adv O [(.iload_n 2, 0, 0, 0, 0, 0, 0), (.iconst 1, 0, 0, 0, 0, (1 : Int32), 0), (.iload 4, 0, 0, 0, 0, 0, 0), (.ishl, 0, 0, 0, 0, 0, 0), (.iconst (-1), 0, 0, 0, 0, (-1 : Int32), 0), (.ixor, 0, 0, 0, 0, 0, 0), (.iand, 0, 0, 0, 0, 0, 0), (.istore_n 2, 0, 0, 0, 0, 0, 0), (.iinc 3 1, 0, 0, 0, 0, (1 : Int32), 0), (.goto (-79), 0, 25, 0, 0, 0, 0)] (pc' := 25) (ls' := [(3, .inl (y3 + (1 : Int32))), (2, .inl (y2 &&& ((jshl (1 : Int32) t14) ^^^ (-1 : Int32)))), (4, .inl t14), (0, .inr (.inr y0))]) (st' := []) (m2 := t28) (by decide +kernel) rfl trivial ?_
        refine jS.loc' [3, 1, 0] (ls' := [(0, .inr (.inr y0)), (2, .inl (y2 &&& ((jshl (1 : Int32) t14) ^^^ (-1 : Int32)))), (3, .inl (y3 + (1 : Int32)))]) rfl ?_
        exact hB _ _ _ _ _ H h1 h2
      · replace H := jif_t (Classical.not_not.mp c15) H
        refine jS.adv O [(.iconst 0, 0, 0, 0, 0, (0 : Int32), 0)] (pc' := 52) (ls' := [(4, .inl t14), (0, .inr (.inr y0)), (2, .inl y2), (3, .inl y3)]) (st' := [.inl (0 : Int32)]) (m2 := m) (by decide +kernel) rfl trivial ?_
        replace H := Option.some.inj H
        subst H
        obtain ⟨q1, q2⟩ := h1 _ rfl
        subst q1; subst q2
        exact jS.zret rfl (Or.inl rfl) (by decide +kernel)
def c_X8_plant_l25 (F : Nat) : Nat → jMe → Nat → Int32 → Int32 → Option ((Int32 × jMe) ⊕ (jMe × Nat × Int32))
  | 0, _, _, _, _ => none
  | n + 1, m, y0, y2, y3 => c_X8_plant_l25_b F (fun m y0 y2 y3 => c_X8_plant_l25 F n m y0 y2 y3) m y0 y2 y3
theorem ec_X8_plant_l25 {X : jX} {l : Launch} {d : Nat} (O : jOk X) (hd : 4 ≤ d) {F : Nat} {m0 m' : jMe} {v : Option jAV} : ∀ (n : Nat) {m : jMe} {y0 : Nat} {y2 : Int32} {y3 : Int32} {r : (Int32 × jMe) ⊕ (jMe × Nat × Int32)} (H : c_X8_plant_l25 F n m y0 y2 y3 = some r) (h1 : ∀ q, r = .inl q → v = (some (.inl q.1)) ∧ m' = q.2) (h2 : ∀ e, r = .inr e → jS X l d jm_X8_plant m0 v m' (107, [(0, .inr (.inr e.2.1)), (2, .inl e.2.2)], [], e.1)), jS X l d jm_X8_plant m0 v m' (25, [(0, .inr (.inr y0)), (2, .inl y2), (3, .inl y3)], [], m) := by
  intro n
  induction n with
  | zero =>
    intro m y0 y2 y3 r H h1 h2
    cases (show none = some r from H)
  | succ n ih =>
    intro m y0 y2 y3 r H h1 h2
    exact ec_X8_plant_l25_b O hd (B := (fun m y0 y2 y3 => c_X8_plant_l25 F n m y0 y2 y3)) (fun m y0 y2 y3 r H h1 h2 => ih H h1 h2) H h1 h2
def c_X8_plant_j141_l114 (F : Nat) (B : jMe → Nat → Int32 → Int32 → Option (jMe × Nat)) (m : jMe) (y0 : Nat) (y2 : Int32) (y3 : Int32) (s0 : Int32) (s1 : Nat) : Option (jMe × Nat) :=
  jgd (jK m s1 = 40) <| B (jsI m s1 5 s0) y0 y2 (y3 + (1 : Int32))
theorem ec_X8_plant_j141_l114 {X : jX} {l : Launch} {d : Nat} (O : jOk X) (hd : 4 ≤ d) {F : Nat} {m0 m' : jMe} {v : Option jAV} {B : jMe → Nat → Int32 → Int32 → Option (jMe × Nat)} (hB : ∀ (m : jMe) (y0 : Nat) (y2 : Int32) (y3 : Int32) (r : jMe × Nat), B m y0 y2 y3 = some r → (jS X l d jm_X8_plant m0 v m' (150, [(0, .inr (.inr r.2))], [], r.1)) → jS X l d jm_X8_plant m0 v m' (114, [(0, .inr (.inr y0)), (2, .inl y2), (3, .inl y3)], [], m)) {m : jMe} {y0 : Nat} {y2 : Int32} {y3 : Int32} {s0 : Int32} {s1 : Nat} {r : jMe × Nat} (H : c_X8_plant_j141_l114 F B m y0 y2 y3 s0 s1 = some r) (h2 : jS X l d jm_X8_plant m0 v m' (150, [(0, .inr (.inr r.2))], [], r.1)) : jS X l d jm_X8_plant m0 v m' (141, [(0, .inr (.inr y0)), (2, .inl y2), (3, .inl y3)], [.inl s0, .inr (.inr s1)], m) := by
  unfold c_X8_plant_j141_l114 at H
  obtain ⟨w39, H⟩ := jgd_ok H
  refine jS.adv O [(.putfield 28, 0, 8, 5, 396, 0, 0), (.iinc 3 1, 0, 0, 0, 0, (1 : Int32), 0), (.goto (-33), 0, 114, 0, 0, 0, 0)] (pc' := 114) (ls' := [(3, .inl (y3 + (1 : Int32))), (0, .inr (.inr y0)), (2, .inl y2)]) (st' := []) (m2 := (jsI m s1 5 s0)) (by decide +kernel) rfl ⟨w39, trivial⟩ ?_
  refine jS.loc' [1, 2, 0] (ls' := [(0, .inr (.inr y0)), (2, .inl y2), (3, .inl (y3 + (1 : Int32)))]) rfl ?_
  exact hB _ _ _ _ _ H h2
def c_X8_plant_l114_b (F : Nat) (B : jMe → Nat → Int32 → Int32 → Option (jMe × Nat)) (m : jMe) (y0 : Nat) (y2 : Int32) (y3 : Int32) : Option (jMe × Nat) :=
  (if (4 : Int32) ≤ y3 then some (m, y0) else jgd (jK m y0 = 40) <| (if (jI m y0 5) = (-1 : Int32) then jb (c_X9_isIn F m y2 y3) fun t37 => (if t37 = 0 then c_X8_plant_j141_l114 F B m y0 y2 y3 (-1 : Int32) y0 else c_X8_plant_j141_l114 F B m y0 y2 y3 y3 y0) else some (m, y0)))
theorem ec_X8_plant_l114_b {X : jX} {l : Launch} {d : Nat} (O : jOk X) (hd : 4 ≤ d) {F : Nat} {m0 m' : jMe} {v : Option jAV} {B : jMe → Nat → Int32 → Int32 → Option (jMe × Nat)} (hB : ∀ (m : jMe) (y0 : Nat) (y2 : Int32) (y3 : Int32) (r : jMe × Nat), B m y0 y2 y3 = some r → (jS X l d jm_X8_plant m0 v m' (150, [(0, .inr (.inr r.2))], [], r.1)) → jS X l d jm_X8_plant m0 v m' (114, [(0, .inr (.inr y0)), (2, .inl y2), (3, .inl y3)], [], m)) {m : jMe} {y0 : Nat} {y2 : Int32} {y3 : Int32} {r : jMe × Nat} (H : c_X8_plant_l114_b F B m y0 y2 y3 = some r) (h2 : jS X l d jm_X8_plant m0 v m' (150, [(0, .inr (.inr r.2))], [], r.1)) : jS X l d jm_X8_plant m0 v m' (114, [(0, .inr (.inr y0)), (2, .inl y2), (3, .inl y3)], [], m) := by
  unfold c_X8_plant_l114_b at H
  refine jS.adv O [(.iload_n 3, 0, 0, 0, 0, 0, 0), (.iconst 4, 0, 0, 0, 0, (4 : Int32), 0)] (pc' := 116) (ls' := [(0, .inr (.inr y0)), (2, .inl y2), (3, .inl y3)]) (st' := [.inl (4 : Int32), .inl y3]) (m2 := m) (by decide +kernel) rfl trivial ?_
  refine jS.br (i := .if_icmp .ge 34) (P := (4 : Int32) ≤ y3) (rest := []) rfl (by decide +kernel) (tgt := 150) (by decide) (fun c33 => ?_) (fun c33 => ?_)
  · replace H := jif_t c33 H
    replace H := Option.some.inj H
    subst H
    refine jS.loc' [0] (ls' := [(0, .inr (.inr y0))]) rfl ?_
    exact h2
  · replace H := jif_f c33 H
    obtain ⟨w34, H⟩ := jgd_ok H
    refine jS.adv O [(.aload_n 0, 0, 0, 0, 0, 0, 0), (.getfield 28, 0, 8, 5, 396, 0, 0), (.iconst (-1), 0, 0, 0, 0, (-1 : Int32), 0)] (pc' := 124) (ls' := [(0, .inr (.inr y0)), (2, .inl y2), (3, .inl y3)]) (st' := [.inl (-1 : Int32), .inl (jI m y0 5)]) (m2 := m) (by decide +kernel) rfl ⟨w34, trivial⟩ ?_
    refine jS.br (i := .if_icmp .ne 26) (P := ¬ (jI m y0 5) = (-1 : Int32)) (rest := []) rfl (by decide +kernel) (tgt := 150) (by decide) (fun c35 => ?_) (fun c35 => ?_)
    · replace H := jif_f c35 H
      replace H := Option.some.inj H
      subst H
      refine jS.loc' [0] (ls' := [(0, .inr (.inr y0))]) rfl ?_
      exact h2
    · replace H := jif_t (Classical.not_not.mp c35) H
      refine jS.adv O [(.aload_n 0, 0, 0, 0, 0, 0, 0), (.iload_n 2, 0, 0, 0, 0, 0, 0), (.iload_n 3, 0, 0, 0, 0, 0, 0)] (pc' := 130) (ls' := [(0, .inr (.inr y0)), (2, .inl y2), (3, .inl y3)]) (st' := [.inl y3, .inl y2, .inr (.inr y0)]) (m2 := m) (by decide +kernel) rfl trivial ?_
      obtain ⟨t37, w36, H⟩ := jb_ok H
      refine jS.step (c' := (133, [(0, .inr (.inr y0)), (2, .inl y2), (3, .inl y3)], [.inl t37, .inr (.inr y0)], m)) (jSt.callSN (As := [.inl y2, .inl y3]) (rest := [.inr (.inr y0)]) O (ec_X9_isIn (d := 2) O (Nat.le_refl _) w36) (by omega) jmw_X9_isIn jmv_X9_isIn jmn_X9_isIn (host := "JoinDraws") (idx := 41) jln_JoinDraws_Tree_41 (Nat.le_of_ble_eq_true rfl) (by decide +kernel)) ?_
      refine jS.br (i := .ifCond .eq 7) (P := t37 = 0) (rest := [.inr (.inr y0)]) rfl (by decide +kernel) (tgt := 140) (by decide) (fun c38 => ?_) (fun c38 => ?_)
      · replace H := jif_t c38 H
        refine jS.adv O [(.iconst (-1), 0, 0, 0, 0, (-1 : Int32), 0)] (pc' := 141) (ls' := [(0, .inr (.inr y0)), (2, .inl y2), (3, .inl y3)]) (st' := [.inl (-1 : Int32), .inr (.inr y0)]) (m2 := m) (by decide +kernel) rfl trivial ?_
        refine jS.loc' [0, 1, 2] (ls' := [(0, .inr (.inr y0)), (2, .inl y2), (3, .inl y3)]) rfl ?_
        exact ec_X8_plant_j141_l114 O hd hB H h2
      · replace H := jif_f c38 H
        refine jS.adv O [(.iload_n 3, 0, 0, 0, 0, 0, 0), (.goto 4, 0, 141, 0, 0, 0, 0)] (pc' := 141) (ls' := [(0, .inr (.inr y0)), (2, .inl y2), (3, .inl y3)]) (st' := [.inl y3, .inr (.inr y0)]) (m2 := m) (by decide +kernel) rfl trivial ?_
        refine jS.loc' [0, 1, 2] (ls' := [(0, .inr (.inr y0)), (2, .inl y2), (3, .inl y3)]) rfl ?_
        exact ec_X8_plant_j141_l114 O hd hB H h2
def c_X8_plant_l114 (F : Nat) : Nat → jMe → Nat → Int32 → Int32 → Option (jMe × Nat)
  | 0, _, _, _, _ => none
  | n + 1, m, y0, y2, y3 => c_X8_plant_l114_b F (fun m y0 y2 y3 => c_X8_plant_l114 F n m y0 y2 y3) m y0 y2 y3
theorem ec_X8_plant_l114 {X : jX} {l : Launch} {d : Nat} (O : jOk X) (hd : 4 ≤ d) {F : Nat} {m0 m' : jMe} {v : Option jAV} : ∀ (n : Nat) {m : jMe} {y0 : Nat} {y2 : Int32} {y3 : Int32} {r : jMe × Nat} (H : c_X8_plant_l114 F n m y0 y2 y3 = some r) (h2 : jS X l d jm_X8_plant m0 v m' (150, [(0, .inr (.inr r.2))], [], r.1)), jS X l d jm_X8_plant m0 v m' (114, [(0, .inr (.inr y0)), (2, .inl y2), (3, .inl y3)], [], m) := by
  intro n
  induction n with
  | zero =>
    intro m y0 y2 y3 r H h2
    cases (show none = some r from H)
  | succ n ih =>
    intro m y0 y2 y3 r H h2
    exact ec_X8_plant_l114_b O hd (B := (fun m y0 y2 y3 => c_X8_plant_l114 F n m y0 y2 y3)) (fun m y0 y2 y3 r H h2 => ih H h2) H h2
def c_X8_plant_j150 (F : Nat) (m : jMe) (y0 : Nat) : Option (Int32 × jMe) :=
  jgd (jK m y0 = 40) <| jb (c_X8_takeOut F m y0 (jI m y0 5)) fun t45 => some ((1 : Int32), t45)
theorem ec_X8_plant_j150 {X : jX} {l : Launch} {d : Nat} (O : jOk X) (hd : 4 ≤ d) {F : Nat} {m0 m : jMe} {y0 : Nat} {r : Int32 × jMe} (H : c_X8_plant_j150 F m y0 = some r) : jS X l d jm_X8_plant m0 (some (.inl r.1)) r.2 (150, [(0, .inr (.inr y0))], [], m) := by
  unfold c_X8_plant_j150 at H
  obtain ⟨w43, H⟩ := jgd_ok H
  refine jS.adv O [(.aload_n 0, 0, 0, 0, 0, 0, 0), (.aload_n 0, 0, 0, 0, 0, 0, 0), (.getfield 28, 0, 8, 5, 396, 0, 0)] (pc' := 155) (ls' := [(0, .inr (.inr y0))]) (st' := [.inl (jI m y0 5), .inr (.inr y0)]) (m2 := m) (by decide +kernel) rfl ⟨w43, trivial⟩ ?_
  obtain ⟨t45, w44, H⟩ := jb_ok H
  refine jS.step (c' := (158, [(0, .inr (.inr y0))], [], t45)) (jSt.callV (c := 8) (As := [.inl (jI m y0 5)]) (rest := []) O (ec_X8_takeOut (d := 2) O (Nat.le_refl _) w44) w43 (by decide) rfl (by omega) jmw_X8_takeOut jmv_X8_takeOut jmn_X8_takeOut (idx := 68) (jW_of 791 (by decide +kernel) rfl) (Nat.le_of_ble_eq_true rfl) (by decide +kernel)) ?_
  refine jS.adv O [(.iconst 1, 0, 0, 0, 0, (1 : Int32), 0)] (pc' := 159) (ls' := [(0, .inr (.inr y0))]) (st' := [.inl (1 : Int32)]) (m2 := t45) (by decide +kernel) rfl trivial ?_
  replace H := Option.some.inj H
  subst H
  exact jS.zret rfl (Or.inr rfl) (by decide +kernel)
def c_X8_plant_j107 (F : Nat) (m : jMe) (y0 : Nat) (y2 : Int32) : Option (Int32 × jMe) :=
  jgd (jK m y0 = 40) <| jb (c_X8_plant_l114 F F (jsI m y0 5 (-1 : Int32)) y0 y2 (0 : Int32)) fun e41 => c_X8_plant_j150 F e41.1 e41.2
theorem ec_X8_plant_j107 {X : jX} {l : Launch} {d : Nat} (O : jOk X) (hd : 4 ≤ d) {F : Nat} {m0 m : jMe} {y0 : Nat} {y2 : Int32} {r : Int32 × jMe} (H : c_X8_plant_j107 F m y0 y2 = some r) : jS X l d jm_X8_plant m0 (some (.inl r.1)) r.2 (107, [(0, .inr (.inr y0)), (2, .inl y2)], [], m) := by
  unfold c_X8_plant_j107 at H
  obtain ⟨w32, H⟩ := jgd_ok H
  refine jS.adv O [(.aload_n 0, 0, 0, 0, 0, 0, 0), (.iconst (-1), 0, 0, 0, 0, (-1 : Int32), 0), (.putfield 28, 0, 8, 5, 396, 0, 0), (.iconst 0, 0, 0, 0, 0, (0 : Int32), 0), (.istore_n 3, 0, 0, 0, 0, 0, 0)] (pc' := 114) (ls' := [(3, .inl (0 : Int32)), (0, .inr (.inr y0)), (2, .inl y2)]) (st' := []) (m2 := (jsI m y0 5 (-1 : Int32))) (by decide +kernel) rfl ⟨w32, trivial⟩ ?_
  refine jS.loc' [1, 2, 0] (ls' := [(0, .inr (.inr y0)), (2, .inl y2), (3, .inl (0 : Int32))]) rfl ?_
  obtain ⟨e41, w42, H⟩ := jb_ok H
  refine ec_X8_plant_l114 O hd F w42 ?_
  refine jS.loc' [0] (ls' := [(0, .inr (.inr e41.2))]) rfl ?_
  exact ec_X8_plant_j150 O hd H
def c_X8_plant (F : Nat) (m : jMe) (x0 : Nat) (x1 : Int32) : Option (Int32 × jMe) :=
  jgd (jK m x0 = 40) <| jb (c_J7_fill_53178 F m (jP m x0 0) (-1 : Int32)) fun t3 => jgd (jK t3 x0 = 40) <| jb (c_J7_fill_53178 F t3 (jP t3 x0 1) (0 : Int32)) fun t6 => jgd (jK t6 x0 = 40) <| jb2 (c_X8_plant_l25 F F (jsI t6 x0 4 (0 : Int32)) x0 x1 (1 : Int32)) (fun q => some q) fun e30 => c_X8_plant_j107 F e30.1 e30.2.1 e30.2.2
theorem ec_X8_plant {X : jX} {l : Launch} {d : Nat} (O : jOk X) (hd : 4 ≤ d) {F : Nat} {m : jMe} {x0 : Nat} {x1 : Int32} {r : Int32 × jMe} (H : c_X8_plant F m x0 x1 = some r) : jH X l d jm_X8_plant [.inr (.inr x0), .inl x1] m (some (.inl r.1)) r.2 := by
  refine jH.of jpl_RX8 rfl (Nat.le_of_ble_eq_true rfl) ?_
  show jS X l d jm_X8_plant m _ _ (0, [(0, .inr (.inr x0)), (1, .inl x1)], [], m)
  unfold c_X8_plant at H
  obtain ⟨w1, H⟩ := jgd_ok H
  refine jS.adv O [(.aload_n 0, 0, 0, 0, 0, 0, 0), (.getfield 9, 0, 8, 0, 385, 0, 0), (.iconst (-1), 0, 0, 0, 0, (-1 : Int32), 0)] (pc' := 5) (ls' := [(0, .inr (.inr x0)), (1, .inl x1)]) (st' := [.inl (-1 : Int32), .inr (.inr (jP m x0 0))]) (m2 := m) (by decide +kernel) rfl ⟨w1, trivial⟩ ?_
  obtain ⟨t3, w2, H⟩ := jb_ok H
  refine jS.step (c' := (8, [(0, .inr (.inr x0)), (1, .inl x1)], [], t3)) (jSt.callS (As := [.inr (.inr (jP m x0 0)), .inl (-1 : Int32)]) (rest := []) O (ec_J7_fill_53178 (d := 2) O (Nat.le_refl _) w2) (by omega) jmw_J7_fill_53178 jmv_J7_fill_53178 jmn_J7_fill_53178 (idx := 49) (jW_of 779 (by decide +kernel) rfl) (Nat.le_of_ble_eq_true rfl) (by decide +kernel)) ?_
  obtain ⟨w4, H⟩ := jgd_ok H
  refine jS.adv O [(.aload_n 0, 0, 0, 0, 0, 0, 0), (.getfield 15, 0, 8, 1, 388, 0, 0), (.iconst 0, 0, 0, 0, 0, (0 : Int32), 0)] (pc' := 13) (ls' := [(0, .inr (.inr x0)), (1, .inl x1)]) (st' := [.inl (0 : Int32), .inr (.inr (jP t3 x0 1))]) (m2 := t3) (by decide +kernel) rfl ⟨w4, trivial⟩ ?_
  obtain ⟨t6, w5, H⟩ := jb_ok H
  refine jS.step (c' := (16, [(0, .inr (.inr x0)), (1, .inl x1)], [], t6)) (jSt.callS (As := [.inr (.inr (jP t3 x0 1)), .inl (0 : Int32)]) (rest := []) O (ec_J7_fill_53178 (d := 2) O (Nat.le_refl _) w5) (by omega) jmw_J7_fill_53178 jmv_J7_fill_53178 jmn_J7_fill_53178 (idx := 49) (jW_of 779 (by decide +kernel) rfl) (Nat.le_of_ble_eq_true rfl) (by decide +kernel)) ?_
  obtain ⟨w7, H⟩ := jgd_ok H
  refine jS.adv O [(.aload_n 0, 0, 0, 0, 0, 0, 0), (.iconst 0, 0, 0, 0, 0, (0 : Int32), 0), (.putfield 24, 0, 8, 4, 394, 0, 0), (.iload_n 1, 0, 0, 0, 0, 0, 0), (.istore_n 2, 0, 0, 0, 0, 0, 0), (.iconst 1, 0, 0, 0, 0, (1 : Int32), 0), (.istore_n 3, 0, 0, 0, 0, 0, 0)] (pc' := 25) (ls' := [(3, .inl (1 : Int32)), (2, .inl x1), (0, .inr (.inr x0)), (1, .inl x1)]) (st' := []) (m2 := (jsI t6 x0 4 (0 : Int32))) (by decide +kernel) rfl ⟨w7, trivial⟩ ?_
  refine jS.loc' [2, 1, 0] (ls' := [(0, .inr (.inr x0)), (2, .inl x1), (3, .inl (1 : Int32))]) rfl ?_
  rcases jb2_ok H with ⟨q29, w31, H⟩ | ⟨e30, w31, H⟩
  · refine ec_X8_plant_l25 O hd F w31 (fun q2 hq2 => ?_) (fun e2 he2 => by cases he2)
    cases hq2
    cases H
    exact ⟨rfl, rfl⟩
  · refine ec_X8_plant_l25 O hd F w31 (fun q2 hq2 => by cases hq2) (fun e2 he2 => ?_)
    cases he2
    refine jS.loc' [0, 1] (ls' := [(0, .inr (.inr e30.2.1)), (2, .inl e30.2.2)]) rfl ?_
    exact ec_X8_plant_j107 O hd H
def c_X8_grow_j89_l12 (F : Nat) (B : jMe → Nat → Nat → Int32 → Int32 → Option (jMe × Nat)) (m : jMe) (y0 : Nat) (y1 : Nat) (y2 : Int32) (y3 : Int32) (s0 : Int32) (s1 : Int32) (s2 : Nat) : Option (jMe × Nat) :=
  jgd (jK m s2 = 40) <| B (jsI m s2 7 (s1 ||| s0)) y0 y1 y2 (y3 + (1 : Int32))
theorem ec_X8_grow_j89_l12 {X : jX} {l : Launch} {d : Nat} (O : jOk X) (hd : 5 ≤ d) {F : Nat} {m0 m' : jMe} {v : Option jAV} {B : jMe → Nat → Nat → Int32 → Int32 → Option (jMe × Nat)} (hB : ∀ (m : jMe) (y0 : Nat) (y1 : Nat) (y2 : Int32) (y3 : Int32) (r : jMe × Nat), B m y0 y1 y2 y3 = some r → (jS X l d jm_X8_grow m0 v m' (99, [(0, .inr (.inr r.2))], [], r.1)) → jS X l d jm_X8_grow m0 v m' (12, [(0, .inr (.inr y0)), (1, .inr (.inr y1)), (2, .inl y2), (3, .inl y3)], [], m)) {m : jMe} {y0 : Nat} {y1 : Nat} {y2 : Int32} {y3 : Int32} {s0 : Int32} {s1 : Int32} {s2 : Nat} {r : jMe × Nat} (H : c_X8_grow_j89_l12 F B m y0 y1 y2 y3 s0 s1 s2 = some r) (h2 : jS X l d jm_X8_grow m0 v m' (99, [(0, .inr (.inr r.2))], [], r.1)) : jS X l d jm_X8_grow m0 v m' (89, [(0, .inr (.inr y0)), (1, .inr (.inr y1)), (2, .inl y2), (3, .inl y3)], [.inl s0, .inl s1, .inr (.inr s2)], m) := by
  unfold c_X8_grow_j89_l12 at H
  obtain ⟨w19, H⟩ := jgd_ok H
  refine jS.adv O [(.ior, 0, 0, 0, 0, 0, 0), (.putfield 34, 0, 8, 7, 402, 0, 0), (.iinc 3 1, 0, 0, 0, 0, (1 : Int32), 0), (.goto (-84), 0, 12, 0, 0, 0, 0)] (pc' := 12) (ls' := [(3, .inl (y3 + (1 : Int32))), (0, .inr (.inr y0)), (1, .inr (.inr y1)), (2, .inl y2)]) (st' := []) (m2 := (jsI m s2 7 (s1 ||| s0))) (by decide +kernel) rfl ⟨w19, trivial⟩ ?_
  refine jS.loc' [1, 2, 3, 0] (ls' := [(0, .inr (.inr y0)), (1, .inr (.inr y1)), (2, .inl y2), (3, .inl (y3 + (1 : Int32)))]) rfl ?_
  exact hB _ _ _ _ _ _ H h2
def c_X8_grow_j68_l12 (F : Nat) (B : jMe → Nat → Nat → Int32 → Int32 → Option (jMe × Nat)) (m : jMe) (y0 : Nat) (y1 : Nat) (y2 : Int32) (y3 : Int32) (y4 : Int32) (s0 : Int32) (s1 : Int32) (s2 : Nat) : Option (jMe × Nat) :=
  jgd (jK m s2 = 40) <| jgd (jK m y0 = 40) <| (if y4 = 0 then c_X8_grow_j89_l12 F B (jsI m s2 6 (s1 ||| s0)) y0 y1 y2 y3 (jshl (1 : Int32) y3) (jI (jsI m s2 6 (s1 ||| s0)) y0 7) y0 else c_X8_grow_j89_l12 F B (jsI m s2 6 (s1 ||| s0)) y0 y1 y2 y3 (0 : Int32) (jI (jsI m s2 6 (s1 ||| s0)) y0 7) y0)
theorem ec_X8_grow_j68_l12 {X : jX} {l : Launch} {d : Nat} (O : jOk X) (hd : 5 ≤ d) {F : Nat} {m0 m' : jMe} {v : Option jAV} {B : jMe → Nat → Nat → Int32 → Int32 → Option (jMe × Nat)} (hB : ∀ (m : jMe) (y0 : Nat) (y1 : Nat) (y2 : Int32) (y3 : Int32) (r : jMe × Nat), B m y0 y1 y2 y3 = some r → (jS X l d jm_X8_grow m0 v m' (99, [(0, .inr (.inr r.2))], [], r.1)) → jS X l d jm_X8_grow m0 v m' (12, [(0, .inr (.inr y0)), (1, .inr (.inr y1)), (2, .inl y2), (3, .inl y3)], [], m)) {m : jMe} {y0 : Nat} {y1 : Nat} {y2 : Int32} {y3 : Int32} {y4 : Int32} {s0 : Int32} {s1 : Int32} {s2 : Nat} {r : jMe × Nat} (H : c_X8_grow_j68_l12 F B m y0 y1 y2 y3 y4 s0 s1 s2 = some r) (h2 : jS X l d jm_X8_grow m0 v m' (99, [(0, .inr (.inr r.2))], [], r.1)) : jS X l d jm_X8_grow m0 v m' (68, [(0, .inr (.inr y0)), (1, .inr (.inr y1)), (2, .inl y2), (3, .inl y3), (4, .inl y4)], [.inl s0, .inl s1, .inr (.inr s2)], m) := by
  unfold c_X8_grow_j68_l12 at H
  obtain ⟨w16, H⟩ := jgd_ok H
  obtain ⟨w17, H⟩ := jgd_ok H
  refine jS.adv O [(.ior, 0, 0, 0, 0, 0, 0), (.putfield 31, 0, 8, 6, 399, 0, 0), (.aload_n 0, 0, 0, 0, 0, 0, 0), (.dup, 0, 0, 0, 0, 0, 0), (.getfield 34, 0, 8, 7, 402, 0, 0), (.iload 4, 0, 0, 0, 0, 0, 0)] (pc' := 79) (ls' := [(0, .inr (.inr y0)), (1, .inr (.inr y1)), (2, .inl y2), (3, .inl y3), (4, .inl y4)]) (st' := [.inl y4, .inl (jI (jsI m s2 6 (s1 ||| s0)) y0 7), .inr (.inr y0)]) (m2 := (jsI m s2 6 (s1 ||| s0))) (by decide +kernel) rfl ⟨w16, w17, trivial⟩ ?_
  refine jS.br (i := .ifCond .eq 7) (P := y4 = 0) (rest := [.inl (jI (jsI m s2 6 (s1 ||| s0)) y0 7), .inr (.inr y0)]) rfl (by decide +kernel) (tgt := 86) (by decide) (fun c18 => ?_) (fun c18 => ?_)
  · replace H := jif_t c18 H
    refine jS.adv O [(.iconst 1, 0, 0, 0, 0, (1 : Int32), 0), (.iload_n 3, 0, 0, 0, 0, 0, 0), (.ishl, 0, 0, 0, 0, 0, 0)] (pc' := 89) (ls' := [(0, .inr (.inr y0)), (1, .inr (.inr y1)), (2, .inl y2), (3, .inl y3), (4, .inl y4)]) (st' := [.inl (jshl (1 : Int32) y3), .inl (jI (jsI m s2 6 (s1 ||| s0)) y0 7), .inr (.inr y0)]) (m2 := (jsI m s2 6 (s1 ||| s0))) (by decide +kernel) rfl trivial ?_
    refine jS.loc' [0, 1, 2, 3] (ls' := [(0, .inr (.inr y0)), (1, .inr (.inr y1)), (2, .inl y2), (3, .inl y3)]) rfl ?_
    exact ec_X8_grow_j89_l12 O hd hB H h2
  · replace H := jif_f c18 H
    refine jS.adv O [(.iconst 0, 0, 0, 0, 0, (0 : Int32), 0), (.goto 6, 0, 89, 0, 0, 0, 0)] (pc' := 89) (ls' := [(0, .inr (.inr y0)), (1, .inr (.inr y1)), (2, .inl y2), (3, .inl y3), (4, .inl y4)]) (st' := [.inl (0 : Int32), .inl (jI (jsI m s2 6 (s1 ||| s0)) y0 7), .inr (.inr y0)]) (m2 := (jsI m s2 6 (s1 ||| s0))) (by decide +kernel) rfl trivial ?_
    refine jS.loc' [0, 1, 2, 3] (ls' := [(0, .inr (.inr y0)), (1, .inr (.inr y1)), (2, .inl y2), (3, .inl y3)]) rfl ?_
    exact ec_X8_grow_j89_l12 O hd hB H h2
def c_X8_grow_l12_b (F : Nat) (B : jMe → Nat → Nat → Int32 → Int32 → Option (jMe × Nat)) (m : jMe) (y0 : Nat) (y1 : Nat) (y2 : Int32) (y3 : Int32) : Option (jMe × Nat) :=
  (if (4 : Int32) ≤ y3 then some (m, y0) else jgd (jK m y0 = 40) <| jgd (jK m y1 = 5) <| jgd (jin y3 (jZ m y1) = true) <| jgd (jK m (jP m y1 y3.toNatClampNeg) = 36) <| jgd (jK m (jP m y0 3) = 1) <| jgd (jin y3 (jZ m (jP m y0 3)) = true) <| jb (c_X9_isIn F (jsI m (jP m y0 3) y3.toNatClampNeg (jI m (jP m y1 y3.toNatClampNeg) 3)) y2 y3) fun t10 => (if t10 = 0 then B (jsI m (jP m y0 3) y3.toNatClampNeg (jI m (jP m y1 y3.toNatClampNeg) 3)) y0 y1 y2 (y3 + (1 : Int32)) else jb (c_X8_plant F (jsI m (jP m y0 3) y3.toNatClampNeg (jI m (jP m y1 y3.toNatClampNeg) 3)) y0 ((jI (jsI m (jP m y0 3) y3.toNatClampNeg (jI m (jP m y1 y3.toNatClampNeg) 3)) y0 6) ||| (jshl (1 : Int32) y3))) fun t13 => jgd (jK t13.2 y0 = 40) <| (if t13.1 = 0 then c_X8_grow_j68_l12 F B t13.2 y0 y1 y2 y3 t13.1 (0 : Int32) (jI t13.2 y0 6) y0 else c_X8_grow_j68_l12 F B t13.2 y0 y1 y2 y3 t13.1 (jshl (1 : Int32) y3) (jI t13.2 y0 6) y0)))
theorem ec_X8_grow_l12_b {X : jX} {l : Launch} {d : Nat} (O : jOk X) (hd : 5 ≤ d) {F : Nat} {m0 m' : jMe} {v : Option jAV} {B : jMe → Nat → Nat → Int32 → Int32 → Option (jMe × Nat)} (hB : ∀ (m : jMe) (y0 : Nat) (y1 : Nat) (y2 : Int32) (y3 : Int32) (r : jMe × Nat), B m y0 y1 y2 y3 = some r → (jS X l d jm_X8_grow m0 v m' (99, [(0, .inr (.inr r.2))], [], r.1)) → jS X l d jm_X8_grow m0 v m' (12, [(0, .inr (.inr y0)), (1, .inr (.inr y1)), (2, .inl y2), (3, .inl y3)], [], m)) {m : jMe} {y0 : Nat} {y1 : Nat} {y2 : Int32} {y3 : Int32} {r : jMe × Nat} (H : c_X8_grow_l12_b F B m y0 y1 y2 y3 = some r) (h2 : jS X l d jm_X8_grow m0 v m' (99, [(0, .inr (.inr r.2))], [], r.1)) : jS X l d jm_X8_grow m0 v m' (12, [(0, .inr (.inr y0)), (1, .inr (.inr y1)), (2, .inl y2), (3, .inl y3)], [], m) := by
  unfold c_X8_grow_l12_b at H
  refine jS.adv O [(.iload_n 3, 0, 0, 0, 0, 0, 0), (.iconst 4, 0, 0, 0, 0, (4 : Int32), 0)] (pc' := 14) (ls' := [(0, .inr (.inr y0)), (1, .inr (.inr y1)), (2, .inl y2), (3, .inl y3)]) (st' := [.inl (4 : Int32), .inl y3]) (m2 := m) (by decide +kernel) rfl trivial ?_
  refine jS.br (i := .if_icmp .ge 85) (P := (4 : Int32) ≤ y3) (rest := []) rfl (by decide +kernel) (tgt := 99) (by decide) (fun c2 => ?_) (fun c2 => ?_)
  · replace H := jif_t c2 H
    replace H := Option.some.inj H
    subst H
    refine jS.loc' [0] (ls' := [(0, .inr (.inr y0))]) rfl ?_
    exact h2
  · replace H := jif_f c2 H
    obtain ⟨w3, H⟩ := jgd_ok H
    obtain ⟨w4, H⟩ := jgd_ok H
    obtain ⟨w5, H⟩ := jgd_ok H
    obtain ⟨w6, H⟩ := jgd_ok H
    obtain ⟨w7, H⟩ := jgd_ok H
    obtain ⟨w8, H⟩ := jgd_ok H
    refine jS.adv O [(.aload_n 0, 0, 0, 0, 0, 0, 0), (.getfield 21, 0, 8, 3, 393, 0, 0), (.iload_n 3, 0, 0, 0, 0, 0, 0), (.aload_n 1, 0, 0, 0, 0, 0, 0), (.iload_n 3, 0, 0, 0, 0, 0, 0), (.aaload, 0, 5, 0, 0, 0, 0), (.getfield 37, 0, 4, 3, 502, 0, 0), (.iastore, 0, 0, 0, 0, 0, 0), (.iload_n 2, 0, 0, 0, 0, 0, 0), (.iload_n 3, 0, 0, 0, 0, 0, 0)] (pc' := 31) (ls' := [(0, .inr (.inr y0)), (1, .inr (.inr y1)), (2, .inl y2), (3, .inl y3)]) (st' := [.inl y3, .inl y2]) (m2 := (jsI m (jP m y0 3) y3.toNatClampNeg (jI m (jP m y1 y3.toNatClampNeg) 3))) (by decide +kernel) rfl ⟨w3, ⟨w4, jib_ok w5⟩, w6, ⟨w7, jib_ok w8⟩, trivial⟩ ?_
    obtain ⟨t10, w9, H⟩ := jb_ok H
    refine jS.step (c' := (34, [(0, .inr (.inr y0)), (1, .inr (.inr y1)), (2, .inl y2), (3, .inl y3)], [.inl t10], (jsI m (jP m y0 3) y3.toNatClampNeg (jI m (jP m y1 y3.toNatClampNeg) 3)))) (jSt.callSN (As := [.inl y2, .inl y3]) (rest := []) O (ec_X9_isIn (d := 2) O (Nat.le_refl _) w9) (by omega) jmw_X9_isIn jmv_X9_isIn jmn_X9_isIn (host := "JoinDraws") (idx := 41) jln_JoinDraws_Tree_41 (Nat.le_of_ble_eq_true rfl) (by decide +kernel)) ?_
    refine jS.br (i := .ifCond .eq 59) (P := t10 = 0) (rest := []) rfl (by decide +kernel) (tgt := 93) (by decide) (fun c11 => ?_) (fun c11 => ?_)
    · replace H := jif_t c11 H
      refine jS.adv O [(.iinc 3 1, 0, 0, 0, 0, (1 : Int32), 0), (.goto (-84), 0, 12, 0, 0, 0, 0)] (pc' := 12) (ls' := [(3, .inl (y3 + (1 : Int32))), (0, .inr (.inr y0)), (1, .inr (.inr y1)), (2, .inl y2)]) (st' := []) (m2 := (jsI m (jP m y0 3) y3.toNatClampNeg (jI m (jP m y1 y3.toNatClampNeg) 3))) (by decide +kernel) rfl trivial ?_
      refine jS.loc' [1, 2, 3, 0] (ls' := [(0, .inr (.inr y0)), (1, .inr (.inr y1)), (2, .inl y2), (3, .inl (y3 + (1 : Int32)))]) rfl ?_
      exact hB _ _ _ _ _ _ H h2
    · replace H := jif_f c11 H
      refine jS.adv O [(.aload_n 0, 0, 0, 0, 0, 0, 0), (.aload_n 0, 0, 0, 0, 0, 0, 0), (.getfield 31, 0, 8, 6, 399, 0, 0), (.iconst 1, 0, 0, 0, 0, (1 : Int32), 0), (.iload_n 3, 0, 0, 0, 0, 0, 0), (.ishl, 0, 0, 0, 0, 0, 0), (.ior, 0, 0, 0, 0, 0, 0)] (pc' := 46) (ls' := [(0, .inr (.inr y0)), (1, .inr (.inr y1)), (2, .inl y2), (3, .inl y3)]) (st' := [.inl ((jI (jsI m (jP m y0 3) y3.toNatClampNeg (jI m (jP m y1 y3.toNatClampNeg) 3)) y0 6) ||| (jshl (1 : Int32) y3)), .inr (.inr y0)]) (m2 := (jsI m (jP m y0 3) y3.toNatClampNeg (jI m (jP m y1 y3.toNatClampNeg) 3))) (by decide +kernel) rfl ⟨w3, trivial⟩ ?_
      obtain ⟨t13, w12, H⟩ := jb_ok H
      refine jS.step (c' := (49, [(0, .inr (.inr y0)), (1, .inr (.inr y1)), (2, .inl y2), (3, .inl y3)], [.inl t13.1], t13.2)) (jSt.callV (c := 8) (As := [.inl ((jI (jsI m (jP m y0 3) y3.toNatClampNeg (jI m (jP m y1 y3.toNatClampNeg) 3)) y0 6) ||| (jshl (1 : Int32) y3))]) (rest := []) O (ec_X8_plant (d := 4) O (Nat.le_refl _) w12) w3 (by decide) rfl (by omega) jmw_X8_plant jmv_X8_plant jmn_X8_plant (idx := 45) (jW_of 775 (by decide +kernel) rfl) (Nat.le_of_ble_eq_true rfl) (by decide +kernel)) ?_
      obtain ⟨w14, H⟩ := jgd_ok H
      refine jS.adv O [(.istore 4, 0, 0, 0, 0, 0, 0), (.aload_n 0, 0, 0, 0, 0, 0, 0), (.dup, 0, 0, 0, 0, 0, 0), (.getfield 31, 0, 8, 6, 399, 0, 0), (.iload 4, 0, 0, 0, 0, 0, 0)] (pc' := 58) (ls' := [(4, .inl t13.1), (0, .inr (.inr y0)), (1, .inr (.inr y1)), (2, .inl y2), (3, .inl y3)]) (st' := [.inl t13.1, .inl (jI t13.2 y0 6), .inr (.inr y0)]) (m2 := t13.2) (by decide +kernel) rfl ⟨w14, trivial⟩ ?_
      refine jS.br (i := .ifCond .eq 9) (P := t13.1 = 0) (rest := [.inl (jI t13.2 y0 6), .inr (.inr y0)]) rfl (by decide +kernel) (tgt := 67) (by decide) (fun c15 => ?_) (fun c15 => ?_)
      · replace H := jif_t c15 H
        refine jS.adv O [(.iconst 0, 0, 0, 0, 0, (0 : Int32), 0)] (pc' := 68) (ls' := [(4, .inl t13.1), (0, .inr (.inr y0)), (1, .inr (.inr y1)), (2, .inl y2), (3, .inl y3)]) (st' := [.inl (0 : Int32), .inl (jI t13.2 y0 6), .inr (.inr y0)]) (m2 := t13.2) (by decide +kernel) rfl trivial ?_
        refine jS.loc' [1, 2, 3, 4, 0] (ls' := [(0, .inr (.inr y0)), (1, .inr (.inr y1)), (2, .inl y2), (3, .inl y3), (4, .inl t13.1)]) rfl ?_
        exact ec_X8_grow_j68_l12 O hd hB H h2
      · replace H := jif_f c15 H
        refine jS.adv O [(.iconst 1, 0, 0, 0, 0, (1 : Int32), 0), (.iload_n 3, 0, 0, 0, 0, 0, 0), (.ishl, 0, 0, 0, 0, 0, 0), (.goto 4, 0, 68, 0, 0, 0, 0)] (pc' := 68) (ls' := [(4, .inl t13.1), (0, .inr (.inr y0)), (1, .inr (.inr y1)), (2, .inl y2), (3, .inl y3)]) (st' := [.inl (jshl (1 : Int32) y3), .inl (jI t13.2 y0 6), .inr (.inr y0)]) (m2 := t13.2) (by decide +kernel) rfl trivial ?_
        refine jS.loc' [1, 2, 3, 4, 0] (ls' := [(0, .inr (.inr y0)), (1, .inr (.inr y1)), (2, .inl y2), (3, .inl y3), (4, .inl t13.1)]) rfl ?_
        exact ec_X8_grow_j68_l12 O hd hB H h2
def c_X8_grow_l12 (F : Nat) : Nat → jMe → Nat → Nat → Int32 → Int32 → Option (jMe × Nat)
  | 0, _, _, _, _, _ => none
  | n + 1, m, y0, y1, y2, y3 => c_X8_grow_l12_b F (fun m y0 y1 y2 y3 => c_X8_grow_l12 F n m y0 y1 y2 y3) m y0 y1 y2 y3
theorem ec_X8_grow_l12 {X : jX} {l : Launch} {d : Nat} (O : jOk X) (hd : 5 ≤ d) {F : Nat} {m0 m' : jMe} {v : Option jAV} : ∀ (n : Nat) {m : jMe} {y0 : Nat} {y1 : Nat} {y2 : Int32} {y3 : Int32} {r : jMe × Nat} (H : c_X8_grow_l12 F n m y0 y1 y2 y3 = some r) (h2 : jS X l d jm_X8_grow m0 v m' (99, [(0, .inr (.inr r.2))], [], r.1)), jS X l d jm_X8_grow m0 v m' (12, [(0, .inr (.inr y0)), (1, .inr (.inr y1)), (2, .inl y2), (3, .inl y3)], [], m) := by
  intro n
  induction n with
  | zero =>
    intro m y0 y1 y2 y3 r H h2
    cases (show none = some r from H)
  | succ n ih =>
    intro m y0 y1 y2 y3 r H h2
    exact ec_X8_grow_l12_b O hd (B := (fun m y0 y1 y2 y3 => c_X8_grow_l12 F n m y0 y1 y2 y3)) (fun m y0 y1 y2 y3 r H h2 => ih H h2) H h2
def c_X8_grow (F : Nat) (m : jMe) (x0 : Nat) (x1 : Nat) (x2 : Int32) : Option (jMe) :=
  jgd (jK m x0 = 40) <| jb (c_X8_grow_l12 F F (jsI (jsI m x0 6 (0 : Int32)) x0 7 (0 : Int32)) x0 x1 x2 (0 : Int32)) fun e21 => jgd (jK e21.1 e21.2 = 40) <| jb (c_X8_plant F e21.1 e21.2 (jI e21.1 e21.2 6)) fun t25 => some t25.2
theorem ec_X8_grow {X : jX} {l : Launch} {d : Nat} (O : jOk X) (hd : 5 ≤ d) {F : Nat} {m : jMe} {x0 : Nat} {x1 : Nat} {x2 : Int32} {r : jMe} (H : c_X8_grow F m x0 x1 x2 = some r) : jH X l d jm_X8_grow [.inr (.inr x0), .inr (.inr x1), .inl x2] m none r := by
  refine jH.of jpl_RX8 rfl (Nat.le_of_ble_eq_true rfl) ?_
  show jS X l d jm_X8_grow m _ _ (0, [(0, .inr (.inr x0)), (1, .inr (.inr x1)), (2, .inl x2)], [], m)
  unfold c_X8_grow at H
  obtain ⟨w1, H⟩ := jgd_ok H
  refine jS.adv O [(.aload_n 0, 0, 0, 0, 0, 0, 0), (.iconst 0, 0, 0, 0, 0, (0 : Int32), 0), (.putfield 31, 0, 8, 6, 399, 0, 0), (.aload_n 0, 0, 0, 0, 0, 0, 0), (.iconst 0, 0, 0, 0, 0, (0 : Int32), 0), (.putfield 34, 0, 8, 7, 402, 0, 0), (.iconst 0, 0, 0, 0, 0, (0 : Int32), 0), (.istore_n 3, 0, 0, 0, 0, 0, 0)] (pc' := 12) (ls' := [(3, .inl (0 : Int32)), (0, .inr (.inr x0)), (1, .inr (.inr x1)), (2, .inl x2)]) (st' := []) (m2 := (jsI (jsI m x0 6 (0 : Int32)) x0 7 (0 : Int32))) (by decide +kernel) rfl ⟨w1, w1, trivial⟩ ?_
  refine jS.loc' [1, 2, 3, 0] (ls' := [(0, .inr (.inr x0)), (1, .inr (.inr x1)), (2, .inl x2), (3, .inl (0 : Int32))]) rfl ?_
  obtain ⟨e21, w22, H⟩ := jb_ok H
  refine ec_X8_grow_l12 O hd F w22 ?_
  obtain ⟨w23, H⟩ := jgd_ok H
  refine jS.adv O [(.aload_n 0, 0, 0, 0, 0, 0, 0), (.aload_n 0, 0, 0, 0, 0, 0, 0), (.getfield 31, 0, 8, 6, 399, 0, 0)] (pc' := 104) (ls' := [(0, .inr (.inr e21.2))]) (st' := [.inl (jI e21.1 e21.2 6), .inr (.inr e21.2)]) (m2 := e21.1) (by decide +kernel) rfl ⟨w23, trivial⟩ ?_
  obtain ⟨t25, w24, H⟩ := jb_ok H
  refine jS.step (c' := (107, [(0, .inr (.inr e21.2))], [.inl t25.1], t25.2)) (jSt.callV (c := 8) (As := [.inl (jI e21.1 e21.2 6)]) (rest := []) O (ec_X8_plant (d := 4) O (Nat.le_refl _) w24) w23 (by decide) rfl (by omega) jmw_X8_plant jmv_X8_plant jmn_X8_plant (idx := 45) (jW_of 775 (by decide +kernel) rfl) (Nat.le_of_ble_eq_true rfl) (by decide +kernel)) ?_
  refine jS.adv O [(.pop, 0, 0, 0, 0, 0, 0)] (pc' := 108) (ls' := [(0, .inr (.inr e21.2))]) (st' := []) (m2 := t25.2) (by decide +kernel) rfl trivial ?_
  replace H := Option.some.inj H
  subst H
  exact jS.vret rfl (by decide +kernel)
def c_X4_has (F : Nat) (m : jMe) (x0 : Nat) (x1 : Int32) : Option (Int32) :=
  (if x1 < 0 then some (0 : Int32) else jgd (jK m x0 = 36) <| (if (jI m x0 5) ≤ x1 then some (0 : Int32) else some (1 : Int32)))
theorem ec_X4_has {X : jX} {l : Launch} {d : Nat} (O : jOk X) (hd : 2 ≤ d) {F : Nat} {m : jMe} {x0 : Nat} {x1 : Int32} {r : Int32} (H : c_X4_has F m x0 x1 = some r) : jH X l d jm_X4_has [.inr (.inr x0), .inl x1] m (some (.inl r)) m := by
  refine jH.of jpl_RX4 rfl (Nat.le_of_ble_eq_true rfl) ?_
  show jS X l d jm_X4_has m _ _ (0, [(0, .inr (.inr x0)), (1, .inl x1)], [], m)
  unfold c_X4_has at H
  refine jS.adv O [(.iload_n 1, 0, 0, 0, 0, 0, 0)] (pc' := 1) (ls' := [(0, .inr (.inr x0)), (1, .inl x1)]) (st' := [.inl x1]) (m2 := m) (by decide +kernel) rfl trivial ?_
  refine jS.br (i := .ifCond .lt 15) (P := x1 < 0) (rest := []) rfl (by decide +kernel) (tgt := 16) (by decide) (fun c1 => ?_) (fun c1 => ?_)
  · replace H := jif_t c1 H
    refine jS.adv O [(.iconst 0, 0, 0, 0, 0, (0 : Int32), 0)] (pc' := 17) (ls' := [(0, .inr (.inr x0)), (1, .inl x1)]) (st' := [.inl (0 : Int32)]) (m2 := m) (by decide +kernel) rfl trivial ?_
    replace H := Option.some.inj H
    subst H
    exact jS.zret rfl (Or.inl rfl) (by decide +kernel)
  · replace H := jif_f c1 H
    obtain ⟨w2, H⟩ := jgd_ok H
    refine jS.adv O [(.iload_n 1, 0, 0, 0, 0, 0, 0), (.aload_n 0, 0, 0, 0, 0, 0, 0), (.getfield 28, 0, 4, 5, 507, 0, 0)] (pc' := 9) (ls' := [(0, .inr (.inr x0)), (1, .inl x1)]) (st' := [.inl (jI m x0 5), .inl x1]) (m2 := m) (by decide +kernel) rfl ⟨w2, trivial⟩ ?_
    refine jS.br (i := .if_icmp .ge 7) (P := (jI m x0 5) ≤ x1) (rest := []) rfl (by decide +kernel) (tgt := 16) (by decide) (fun c3 => ?_) (fun c3 => ?_)
    · replace H := jif_t c3 H
      refine jS.adv O [(.iconst 0, 0, 0, 0, 0, (0 : Int32), 0)] (pc' := 17) (ls' := [(0, .inr (.inr x0)), (1, .inl x1)]) (st' := [.inl (0 : Int32)]) (m2 := m) (by decide +kernel) rfl trivial ?_
      replace H := Option.some.inj H
      subst H
      exact jS.zret rfl (Or.inl rfl) (by decide +kernel)
    · replace H := jif_f c3 H
      refine jS.adv O [(.iconst 1, 0, 0, 0, 0, (1 : Int32), 0), (.goto 4, 0, 17, 0, 0, 0, 0)] (pc' := 17) (ls' := [(0, .inr (.inr x0)), (1, .inl x1)]) (st' := [.inl (1 : Int32)]) (m2 := m) (by decide +kernel) rfl trivial ?_
      replace H := Option.some.inj H
      subst H
      exact jS.zret rfl (Or.inr rfl) (by decide +kernel)
def c_X4_isLive (F : Nat) (m : jMe) (x0 : Nat) (x1 : Int32) : Option (Int32) :=
  jgd (jK m x0 = 36) <| jb (c_X4_has F m x0 x1) fun t3 => (if t3 = 0 then some (0 : Int32) else jb (c_X9_isIn F m (jI m x0 6) x1) fun t6 => (if t6 = 0 then some (0 : Int32) else some (1 : Int32)))
theorem ec_X4_isLive {X : jX} {l : Launch} {d : Nat} (O : jOk X) (hd : 3 ≤ d) {F : Nat} {m : jMe} {x0 : Nat} {x1 : Int32} {r : Int32} (H : c_X4_isLive F m x0 x1 = some r) : jH X l d jm_X4_isLive [.inr (.inr x0), .inl x1] m (some (.inl r)) m := by
  refine jH.of jpl_RX4 rfl (Nat.le_of_ble_eq_true rfl) ?_
  show jS X l d jm_X4_isLive m _ _ (0, [(0, .inr (.inr x0)), (1, .inl x1)], [], m)
  unfold c_X4_isLive at H
  obtain ⟨w1, H⟩ := jgd_ok H
  refine jS.adv O [(.aload_n 0, 0, 0, 0, 0, 0, 0), (.iload_n 1, 0, 0, 0, 0, 0, 0)] (pc' := 2) (ls' := [(0, .inr (.inr x0)), (1, .inl x1)]) (st' := [.inl x1, .inr (.inr x0)]) (m2 := m) (by decide +kernel) rfl trivial ?_
  obtain ⟨t3, w2, H⟩ := jb_ok H
  refine jS.step (c' := (5, [(0, .inr (.inr x0)), (1, .inl x1)], [.inl t3], m)) (jSt.callV (c := 4) (As := [.inl x1]) (rest := []) O (ec_X4_has (d := 2) O (Nat.le_refl _) w2) w1 (by decide) rfl (by omega) jmw_X4_has jmv_X4_has jmn_X4_has (idx := 41) (jW_of 669 (by decide +kernel) rfl) (Nat.le_of_ble_eq_true rfl) (by decide +kernel)) ?_
  refine jS.br (i := .ifCond .eq 18) (P := t3 = 0) (rest := []) rfl (by decide +kernel) (tgt := 23) (by decide) (fun c4 => ?_) (fun c4 => ?_)
  · replace H := jif_t c4 H
    refine jS.adv O [(.iconst 0, 0, 0, 0, 0, (0 : Int32), 0)] (pc' := 24) (ls' := [(0, .inr (.inr x0)), (1, .inl x1)]) (st' := [.inl (0 : Int32)]) (m2 := m) (by decide +kernel) rfl trivial ?_
    replace H := Option.some.inj H
    subst H
    exact jS.zret rfl (Or.inl rfl) (by decide +kernel)
  · replace H := jif_f c4 H
    refine jS.adv O [(.aload_n 0, 0, 0, 0, 0, 0, 0), (.getfield 31, 0, 4, 6, 511, 0, 0), (.iload_n 1, 0, 0, 0, 0, 0, 0)] (pc' := 13) (ls' := [(0, .inr (.inr x0)), (1, .inl x1)]) (st' := [.inl x1, .inl (jI m x0 6)]) (m2 := m) (by decide +kernel) rfl ⟨w1, trivial⟩ ?_
    obtain ⟨t6, w5, H⟩ := jb_ok H
    refine jS.step (c' := (16, [(0, .inr (.inr x0)), (1, .inl x1)], [.inl t6], m)) (jSt.callSN (As := [.inl (jI m x0 6), .inl x1]) (rest := []) O (ec_X9_isIn (d := 2) O (Nat.le_refl _) w5) (by omega) jmw_X9_isIn jmv_X9_isIn jmn_X9_isIn (host := "JoinDraws") (idx := 34) jln_JoinDraws_Relation_34 (Nat.le_of_ble_eq_true rfl) (by decide +kernel)) ?_
    refine jS.br (i := .ifCond .eq 7) (P := t6 = 0) (rest := []) rfl (by decide +kernel) (tgt := 23) (by decide) (fun c7 => ?_) (fun c7 => ?_)
    · replace H := jif_t c7 H
      refine jS.adv O [(.iconst 0, 0, 0, 0, 0, (0 : Int32), 0)] (pc' := 24) (ls' := [(0, .inr (.inr x0)), (1, .inl x1)]) (st' := [.inl (0 : Int32)]) (m2 := m) (by decide +kernel) rfl trivial ?_
      replace H := Option.some.inj H
      subst H
      exact jS.zret rfl (Or.inl rfl) (by decide +kernel)
    · replace H := jif_f c7 H
      refine jS.adv O [(.iconst 1, 0, 0, 0, 0, (1 : Int32), 0), (.goto 4, 0, 24, 0, 0, 0, 0)] (pc' := 24) (ls' := [(0, .inr (.inr x0)), (1, .inl x1)]) (st' := [.inl (1 : Int32)]) (m2 := m) (by decide +kernel) rfl trivial ?_
      replace H := Option.some.inj H
      subst H
      exact jS.zret rfl (Or.inr rfl) (by decide +kernel)
def c_X4_valueAt_j29 (F : Nat) (m : jMe) (y1 : Int32) (y2 : Int32) (s0 : Int32) : Option (Int32) :=
  (if s0 = 0 then some (-1 : Int32) else some ((jushr y1 ((4 : Int32) * y2)) &&& (15 : Int32)))
theorem ec_X4_valueAt_j29 {X : jX} {l : Launch} {d : Nat} (O : jOk X) (hd : 2 ≤ d) {F : Nat} {m0 m : jMe} {y1 : Int32} {y2 : Int32} {s0 : Int32} {r : Int32} (H : c_X4_valueAt_j29 F m y1 y2 s0 = some r) : jS X l d jm_X4_valueAt m0 (some (.inl r)) m (29, [(1, .inl y1), (2, .inl y2)], [.inl s0], m) := by
  unfold c_X4_valueAt_j29 at H
  refine jS.adv O [(.istore_n 3, 0, 0, 0, 0, 0, 0), (.iload_n 3, 0, 0, 0, 0, 0, 0)] (pc' := 31) (ls' := [(3, .inl s0), (1, .inl y1), (2, .inl y2)]) (st' := [.inl s0]) (m2 := m) (by decide +kernel) rfl trivial ?_
  refine jS.br (i := .ifCond .eq 14) (P := s0 = 0) (rest := []) rfl (by decide +kernel) (tgt := 45) (by decide) (fun c2 => ?_) (fun c2 => ?_)
  · replace H := jif_t c2 H
    refine jS.adv O [(.iconst (-1), 0, 0, 0, 0, (-1 : Int32), 0)] (pc' := 46) (ls' := [(3, .inl s0), (1, .inl y1), (2, .inl y2)]) (st' := [.inl (-1 : Int32)]) (m2 := m) (by decide +kernel) rfl trivial ?_
    replace H := Option.some.inj H
    subst H
    exact jS.iret rfl (by decide +kernel)
  · replace H := jif_f c2 H
    refine jS.adv O [(.iload_n 1, 0, 0, 0, 0, 0, 0), (.iconst 4, 0, 0, 0, 0, (4 : Int32), 0), (.iload_n 2, 0, 0, 0, 0, 0, 0), (.imul, 0, 0, 0, 0, 0, 0), (.iushr, 0, 0, 0, 0, 0, 0), (.bipush 15, 0, 0, 0, 0, (15 : Int32), 0), (.iand, 0, 0, 0, 0, 0, 0), (.goto 4, 0, 46, 0, 0, 0, 0)] (pc' := 46) (ls' := [(3, .inl s0), (1, .inl y1), (2, .inl y2)]) (st' := [.inl ((jushr y1 ((4 : Int32) * y2)) &&& (15 : Int32))]) (m2 := m) (by decide +kernel) rfl trivial ?_
    replace H := Option.some.inj H
    subst H
    exact jS.iret rfl (by decide +kernel)
def c_X4_valueAt (F : Nat) (m : jMe) (x0 : Nat) (x1 : Int32) (x2 : Int32) : Option (Int32) :=
  (if x2 < 0 then c_X4_valueAt_j29 F m x1 x2 (0 : Int32) else (if (6 : Int32) ≤ x2 then c_X4_valueAt_j29 F m x1 x2 (0 : Int32) else jgd (jK m x0 = 36) <| (if ((jushr (jI m x0 4) ((4 : Int32) * x2)) &&& (15 : Int32)) = 0 then c_X4_valueAt_j29 F m x1 x2 (0 : Int32) else c_X4_valueAt_j29 F m x1 x2 (1 : Int32))))
theorem ec_X4_valueAt {X : jX} {l : Launch} {d : Nat} (O : jOk X) (hd : 2 ≤ d) {F : Nat} {m : jMe} {x0 : Nat} {x1 : Int32} {x2 : Int32} {r : Int32} (H : c_X4_valueAt F m x0 x1 x2 = some r) : jH X l d jm_X4_valueAt [.inr (.inr x0), .inl x1, .inl x2] m (some (.inl r)) m := by
  refine jH.of jpl_RX4 rfl (Nat.le_of_ble_eq_true rfl) ?_
  show jS X l d jm_X4_valueAt m _ _ (0, [(0, .inr (.inr x0)), (1, .inl x1), (2, .inl x2)], [], m)
  unfold c_X4_valueAt at H
  refine jS.adv O [(.iload_n 2, 0, 0, 0, 0, 0, 0)] (pc' := 1) (ls' := [(0, .inr (.inr x0)), (1, .inl x1), (2, .inl x2)]) (st' := [.inl x2]) (m2 := m) (by decide +kernel) rfl trivial ?_
  refine jS.br (i := .ifCond .lt 27) (P := x2 < 0) (rest := []) rfl (by decide +kernel) (tgt := 28) (by decide) (fun c1 => ?_) (fun c1 => ?_)
  · replace H := jif_t c1 H
    refine jS.adv O [(.iconst 0, 0, 0, 0, 0, (0 : Int32), 0)] (pc' := 29) (ls' := [(0, .inr (.inr x0)), (1, .inl x1), (2, .inl x2)]) (st' := [.inl (0 : Int32)]) (m2 := m) (by decide +kernel) rfl trivial ?_
    refine jS.loc' [1, 2] (ls' := [(1, .inl x1), (2, .inl x2)]) rfl ?_
    exact ec_X4_valueAt_j29 O hd H
  · replace H := jif_f c1 H
    refine jS.adv O [(.iload_n 2, 0, 0, 0, 0, 0, 0), (.bipush 6, 0, 0, 0, 0, (6 : Int32), 0)] (pc' := 7) (ls' := [(0, .inr (.inr x0)), (1, .inl x1), (2, .inl x2)]) (st' := [.inl (6 : Int32), .inl x2]) (m2 := m) (by decide +kernel) rfl trivial ?_
    refine jS.br (i := .if_icmp .ge 21) (P := (6 : Int32) ≤ x2) (rest := []) rfl (by decide +kernel) (tgt := 28) (by decide) (fun c3 => ?_) (fun c3 => ?_)
    · replace H := jif_t c3 H
      refine jS.adv O [(.iconst 0, 0, 0, 0, 0, (0 : Int32), 0)] (pc' := 29) (ls' := [(0, .inr (.inr x0)), (1, .inl x1), (2, .inl x2)]) (st' := [.inl (0 : Int32)]) (m2 := m) (by decide +kernel) rfl trivial ?_
      refine jS.loc' [1, 2] (ls' := [(1, .inl x1), (2, .inl x2)]) rfl ?_
      exact ec_X4_valueAt_j29 O hd H
    · replace H := jif_f c3 H
      obtain ⟨w4, H⟩ := jgd_ok H
      refine jS.adv O [(.aload_n 0, 0, 0, 0, 0, 0, 0), (.getfield 25, 0, 4, 4, 505, 0, 0), (.iconst 4, 0, 0, 0, 0, (4 : Int32), 0), (.iload_n 2, 0, 0, 0, 0, 0, 0), (.imul, 0, 0, 0, 0, 0, 0), (.iushr, 0, 0, 0, 0, 0, 0), (.bipush 15, 0, 0, 0, 0, (15 : Int32), 0), (.iand, 0, 0, 0, 0, 0, 0)] (pc' := 21) (ls' := [(0, .inr (.inr x0)), (1, .inl x1), (2, .inl x2)]) (st' := [.inl ((jushr (jI m x0 4) ((4 : Int32) * x2)) &&& (15 : Int32))]) (m2 := m) (by decide +kernel) rfl ⟨w4, trivial⟩ ?_
      refine jS.br (i := .ifCond .eq 7) (P := ((jushr (jI m x0 4) ((4 : Int32) * x2)) &&& (15 : Int32)) = 0) (rest := []) rfl (by decide +kernel) (tgt := 28) (by decide) (fun c5 => ?_) (fun c5 => ?_)
      · replace H := jif_t c5 H
        refine jS.adv O [(.iconst 0, 0, 0, 0, 0, (0 : Int32), 0)] (pc' := 29) (ls' := [(0, .inr (.inr x0)), (1, .inl x1), (2, .inl x2)]) (st' := [.inl (0 : Int32)]) (m2 := m) (by decide +kernel) rfl trivial ?_
        refine jS.loc' [1, 2] (ls' := [(1, .inl x1), (2, .inl x2)]) rfl ?_
        exact ec_X4_valueAt_j29 O hd H
      · replace H := jif_f c5 H
        refine jS.adv O [(.iconst 1, 0, 0, 0, 0, (1 : Int32), 0), (.goto 4, 0, 29, 0, 0, 0, 0)] (pc' := 29) (ls' := [(0, .inr (.inr x0)), (1, .inl x1), (2, .inl x2)]) (st' := [.inl (1 : Int32)]) (m2 := m) (by decide +kernel) rfl trivial ?_
        refine jS.loc' [1, 2] (ls' := [(1, .inl x1), (2, .inl x2)]) rfl ?_
        exact ec_X4_valueAt_j29 O hd H
def c_X7_named (F : Nat) (m : jMe) (x0 : Int32) (x1 : Nat) (x2 : Int32) (x3 : Int32) : Option (Int32) :=
  (if x0 = (6 : Int32) then some x3 else if x0 = (7 : Int32) then some x2 else if x0 = (8 : Int32) then jgd (jK m x1 = 36) <| jgd (jK m (jP m x1 1) = 1) <| jgd (jin x3 (jZ m (jP m x1 1)) = true) <| some (jI m (jP m x1 1) x3.toNatClampNeg) else jgd (jK m x1 = 36) <| jgd (jK m (jP m x1 0) = 1) <| jgd (jin x3 (jZ m (jP m x1 0)) = true) <| jb (c_X4_valueAt F m x1 (jI m (jP m x1 0) x3.toNatClampNeg) x0) fun t11 => some t11)
theorem ec_X7_named {X : jX} {l : Launch} {d : Nat} (O : jOk X) (hd : 3 ≤ d) {F : Nat} {m : jMe} {x0 : Int32} {x1 : Nat} {x2 : Int32} {x3 : Int32} {r : Int32} (H : c_X7_named F m x0 x1 x2 x3 = some r) : jH X l d jm_X7_named [.inl x0, .inr (.inr x1), .inl x2, .inl x3] m (some (.inl r)) m := by
  refine jH.of jpl_RX7 rfl (Nat.le_of_ble_eq_true rfl) ?_
  show jS X l d jm_X7_named m _ _ (0, [(0, .inl x0), (1, .inr (.inr x1)), (2, .inl x2), (3, .inl x3)], [], m)
  unfold c_X7_named at H
  refine jS.adv O [(.iload_n 0, 0, 0, 0, 0, 0, 0)] (pc' := 1) (ls' := [(0, .inl x0), (1, .inr (.inr x1)), (2, .inl x2), (3, .inl x3)]) (st' := [.inl x0]) (m2 := m) (by decide +kernel) rfl trivial ?_
  by_cases c1 : x0 = (6 : Int32)
  · replace H := jif_t c1 H
    refine jS.tswIn (dflt := 38) (lo := 6) (hi := 8) (offs := #[27, 29, 31]) (off := 27) c1 (len := 27) (tgt := 28) (by decide +kernel) (by decide) (by decide) rfl (by decide) ?_
    refine jS.adv O [(.iload_n 3, 0, 0, 0, 0, 0, 0)] (pc' := 29) (ls' := [(0, .inl x0), (1, .inr (.inr x1)), (2, .inl x2), (3, .inl x3)]) (st' := [.inl x3]) (m2 := m) (by decide +kernel) rfl trivial ?_
    replace H := Option.some.inj H
    subst H
    exact jS.iret rfl (by decide +kernel)
  replace H := jif_f c1 H
  by_cases c2 : x0 = (7 : Int32)
  · replace H := jif_t c2 H
    refine jS.tswIn (dflt := 38) (lo := 6) (hi := 8) (offs := #[27, 29, 31]) (off := 29) c2 (len := 27) (tgt := 30) (by decide +kernel) (by decide) (by decide) rfl (by decide) ?_
    refine jS.adv O [(.iload_n 2, 0, 0, 0, 0, 0, 0)] (pc' := 31) (ls' := [(0, .inl x0), (1, .inr (.inr x1)), (2, .inl x2), (3, .inl x3)]) (st' := [.inl x2]) (m2 := m) (by decide +kernel) rfl trivial ?_
    replace H := Option.some.inj H
    subst H
    exact jS.iret rfl (by decide +kernel)
  replace H := jif_f c2 H
  by_cases c3 : x0 = (8 : Int32)
  · replace H := jif_t c3 H
    refine jS.tswIn (dflt := 38) (lo := 6) (hi := 8) (offs := #[27, 29, 31]) (off := 31) c3 (len := 27) (tgt := 32) (by decide +kernel) (by decide) (by decide) rfl (by decide) ?_
    obtain ⟨w4, H⟩ := jgd_ok H
    obtain ⟨w5, H⟩ := jgd_ok H
    obtain ⟨w6, H⟩ := jgd_ok H
    refine jS.adv O [(.aload_n 1, 0, 0, 0, 0, 0, 0), (.getfield 40, 0, 4, 1, 497, 0, 0), (.iload_n 3, 0, 0, 0, 0, 0, 0), (.iaload, 0, 1, 0, 0, 0, 0)] (pc' := 38) (ls' := [(0, .inl x0), (1, .inr (.inr x1)), (2, .inl x2), (3, .inl x3)]) (st' := [.inl (jI m (jP m x1 1) x3.toNatClampNeg)]) (m2 := m) (by decide +kernel) rfl ⟨w4, ⟨w5, jib_ok w6⟩, trivial⟩ ?_
    replace H := Option.some.inj H
    subst H
    exact jS.iret rfl (by decide +kernel)
  replace H := jif_f c3 H
  refine jS.tswOut (dflt := 38) (lo := 6) (hi := 8) (offs := #[27, 29, 31]) (by have q := jsw_out (x := x0) (vs := [(6 : Int32), (7 : Int32), (8 : Int32)]) (lo := 6) (n := 3) (by decide) (List.forall_mem_cons.mpr ⟨c1, List.forall_mem_cons.mpr ⟨c2, List.forall_mem_cons.mpr ⟨c3, List.forall_mem_nil _⟩⟩⟩); first | exact q | omega) (len := 27) (tgt := 39) (by decide +kernel) (by decide) ?_
  obtain ⟨w7, H⟩ := jgd_ok H
  obtain ⟨w8, H⟩ := jgd_ok H
  obtain ⟨w9, H⟩ := jgd_ok H
  refine jS.adv O [(.aload_n 1, 0, 0, 0, 0, 0, 0), (.aload_n 1, 0, 0, 0, 0, 0, 0), (.getfield 45, 0, 4, 0, 492, 0, 0), (.iload_n 3, 0, 0, 0, 0, 0, 0), (.iaload, 0, 1, 0, 0, 0, 0), (.iload_n 0, 0, 0, 0, 0, 0, 0)] (pc' := 47) (ls' := [(0, .inl x0), (1, .inr (.inr x1)), (2, .inl x2), (3, .inl x3)]) (st' := [.inl x0, .inl (jI m (jP m x1 0) x3.toNatClampNeg), .inr (.inr x1)]) (m2 := m) (by decide +kernel) rfl ⟨w7, ⟨w8, jib_ok w9⟩, trivial⟩ ?_
  obtain ⟨t11, w10, H⟩ := jb_ok H
  refine jS.step (c' := (50, [(0, .inl x0), (1, .inr (.inr x1)), (2, .inl x2), (3, .inl x3)], [.inl t11], m)) (jSt.callV (c := 4) (As := [.inl (jI m (jP m x1 0) x3.toNatClampNeg), .inl x0]) (rest := []) O (ec_X4_valueAt (d := 2) O (Nat.le_refl _) w10) w7 (by decide) rfl (by omega) jmw_X4_valueAt jmv_X4_valueAt jmn_X4_valueAt (idx := 48) (jW_of 737 (by decide +kernel) rfl) (Nat.le_of_ble_eq_true rfl) (by decide +kernel)) ?_
  replace H := Option.some.inj H
  subst H
  exact jS.iret rfl (by decide +kernel)
def c_X7_bit (F : Nat) (m : jMe) (x0 : Int32) : Option (Int32) :=
  (if x0 = 0 then some (0 : Int32) else some (1 : Int32))
theorem ec_X7_bit {X : jX} {l : Launch} {d : Nat} (O : jOk X) (hd : 2 ≤ d) {F : Nat} {m : jMe} {x0 : Int32} {r : Int32} (H : c_X7_bit F m x0 = some r) : jH X l d jm_X7_bit [.inl x0] m (some (.inl r)) m := by
  refine jH.of jpl_RX7 rfl (Nat.le_of_ble_eq_true rfl) ?_
  show jS X l d jm_X7_bit m _ _ (0, [(0, .inl x0)], [], m)
  unfold c_X7_bit at H
  refine jS.adv O [(.iload_n 0, 0, 0, 0, 0, 0, 0)] (pc' := 1) (ls' := [(0, .inl x0)]) (st' := [.inl x0]) (m2 := m) (by decide +kernel) rfl trivial ?_
  refine jS.br (i := .ifCond .eq 7) (P := x0 = 0) (rest := []) rfl (by decide +kernel) (tgt := 8) (by decide) (fun c1 => ?_) (fun c1 => ?_)
  · replace H := jif_t c1 H
    refine jS.adv O [(.iconst 0, 0, 0, 0, 0, (0 : Int32), 0)] (pc' := 9) (ls' := [(0, .inl x0)]) (st' := [.inl (0 : Int32)]) (m2 := m) (by decide +kernel) rfl trivial ?_
    replace H := Option.some.inj H
    subst H
    exact jS.iret rfl (by decide +kernel)
  · replace H := jif_f c1 H
    refine jS.adv O [(.iconst 1, 0, 0, 0, 0, (1 : Int32), 0), (.goto 4, 0, 9, 0, 0, 0, 0)] (pc' := 9) (ls' := [(0, .inl x0)]) (st' := [.inl (1 : Int32)]) (m2 := m) (by decide +kernel) rfl trivial ?_
    replace H := Option.some.inj H
    subst H
    exact jS.iret rfl (by decide +kernel)
def c_X7_joined_j78 (F : Nat) (m : jMe) (s0 : Int32) : Option (Int32) :=
  jb (c_X7_bit F m s0) fun t10 => some t10
theorem ec_X7_joined_j78 {X : jX} {l : Launch} {d : Nat} (O : jOk X) (hd : 3 ≤ d) {F : Nat} {m0 m : jMe} {s0 : Int32} {r : Int32} (H : c_X7_joined_j78 F m s0 = some r) : jS X l d jm_X7_joined m0 (some (.inl r)) m (78, [], [.inl s0], m) := by
  unfold c_X7_joined_j78 at H
  obtain ⟨t10, w9, H⟩ := jb_ok H
  refine jS.step (c' := (81, [], [.inl t10], m)) (jSt.callS (As := [.inl s0]) (rest := []) O (ec_X7_bit (d := 2) O (Nat.le_refl _) w9) (by omega) jmw_X7_bit jmv_X7_bit jmn_X7_bit (idx := 32) (jW_of 738 (by decide +kernel) rfl) (Nat.le_of_ble_eq_true rfl) (by decide +kernel)) ?_
  replace H := Option.some.inj H
  subst H
  exact jS.iret rfl (by decide +kernel)
def c_X7_joined_j92 (F : Nat) (m : jMe) (s0 : Int32) : Option (Int32) :=
  jb (c_X7_bit F m s0) fun t14 => some t14
theorem ec_X7_joined_j92 {X : jX} {l : Launch} {d : Nat} (O : jOk X) (hd : 3 ≤ d) {F : Nat} {m0 m : jMe} {s0 : Int32} {r : Int32} (H : c_X7_joined_j92 F m s0 = some r) : jS X l d jm_X7_joined m0 (some (.inl r)) m (92, [], [.inl s0], m) := by
  unfold c_X7_joined_j92 at H
  obtain ⟨t14, w13, H⟩ := jb_ok H
  refine jS.step (c' := (95, [], [.inl t14], m)) (jSt.callS (As := [.inl s0]) (rest := []) O (ec_X7_bit (d := 2) O (Nat.le_refl _) w13) (by omega) jmw_X7_bit jmv_X7_bit jmn_X7_bit (idx := 32) (jW_of 738 (by decide +kernel) rfl) (Nat.le_of_ble_eq_true rfl) (by decide +kernel)) ?_
  replace H := Option.some.inj H
  subst H
  exact jS.iret rfl (by decide +kernel)
def c_X7_joined_j109 (F : Nat) (m : jMe) (s0 : Int32) : Option (Int32) :=
  jb (c_X7_bit F m s0) fun t18 => some t18
theorem ec_X7_joined_j109 {X : jX} {l : Launch} {d : Nat} (O : jOk X) (hd : 3 ≤ d) {F : Nat} {m0 m : jMe} {s0 : Int32} {r : Int32} (H : c_X7_joined_j109 F m s0 = some r) : jS X l d jm_X7_joined m0 (some (.inl r)) m (109, [], [.inl s0], m) := by
  unfold c_X7_joined_j109 at H
  obtain ⟨t18, w17, H⟩ := jb_ok H
  refine jS.step (c' := (112, [], [.inl t18], m)) (jSt.callS (As := [.inl s0]) (rest := []) O (ec_X7_bit (d := 2) O (Nat.le_refl _) w17) (by omega) jmw_X7_bit jmv_X7_bit jmn_X7_bit (idx := 32) (jW_of 738 (by decide +kernel) rfl) (Nat.le_of_ble_eq_true rfl) (by decide +kernel)) ?_
  replace H := Option.some.inj H
  subst H
  exact jS.iret rfl (by decide +kernel)
def c_X7_joined_j126 (F : Nat) (m : jMe) (s0 : Int32) : Option (Int32) :=
  jb (c_X7_bit F m s0) fun t22 => some t22
theorem ec_X7_joined_j126 {X : jX} {l : Launch} {d : Nat} (O : jOk X) (hd : 3 ≤ d) {F : Nat} {m0 m : jMe} {s0 : Int32} {r : Int32} (H : c_X7_joined_j126 F m s0 = some r) : jS X l d jm_X7_joined m0 (some (.inl r)) m (126, [], [.inl s0], m) := by
  unfold c_X7_joined_j126 at H
  obtain ⟨t22, w21, H⟩ := jb_ok H
  refine jS.step (c' := (129, [], [.inl t22], m)) (jSt.callS (As := [.inl s0]) (rest := []) O (ec_X7_bit (d := 2) O (Nat.le_refl _) w21) (by omega) jmw_X7_bit jmv_X7_bit jmn_X7_bit (idx := 32) (jW_of 738 (by decide +kernel) rfl) (Nat.le_of_ble_eq_true rfl) (by decide +kernel)) ?_
  replace H := Option.some.inj H
  subst H
  exact jS.iret rfl (by decide +kernel)
def c_X7_joined (F : Nat) (m : jMe) (x0 : Int32) (x1 : Int32) (x2 : Int32) : Option (Int32) :=
  (if x0 = (4 : Int32) then some (x1 + x2) else if x0 = (5 : Int32) then some (x1 - x2) else if x0 = (6 : Int32) then some (x1 * x2) else if x0 = (7 : Int32) then (if x2 = 0 then some (0 : Int32) else jgd (¬ x2 = 0) <| some (jrem x1 x2)) else if x0 = (8 : Int32) then (if x2 ≤ x1 then c_X7_joined_j78 F m (0 : Int32) else c_X7_joined_j78 F m (1 : Int32)) else if x0 = (9 : Int32) then (if x1 = x2 then c_X7_joined_j92 F m (1 : Int32) else c_X7_joined_j92 F m (0 : Int32)) else if x0 = (10 : Int32) then (if x1 = 0 then c_X7_joined_j109 F m (0 : Int32) else (if x2 = 0 then c_X7_joined_j109 F m (0 : Int32) else c_X7_joined_j109 F m (1 : Int32))) else (if x1 = 0 then (if x2 = 0 then c_X7_joined_j126 F m (0 : Int32) else c_X7_joined_j126 F m (1 : Int32)) else c_X7_joined_j126 F m (1 : Int32)))
theorem ec_X7_joined {X : jX} {l : Launch} {d : Nat} (O : jOk X) (hd : 3 ≤ d) {F : Nat} {m : jMe} {x0 : Int32} {x1 : Int32} {x2 : Int32} {r : Int32} (H : c_X7_joined F m x0 x1 x2 = some r) : jH X l d jm_X7_joined [.inl x0, .inl x1, .inl x2] m (some (.inl r)) m := by
  refine jH.of jpl_RX7 rfl (Nat.le_of_ble_eq_true rfl) ?_
  show jS X l d jm_X7_joined m _ _ (0, [(0, .inl x0), (1, .inl x1), (2, .inl x2)], [], m)
  unfold c_X7_joined at H
  refine jS.adv O [(.iload_n 0, 0, 0, 0, 0, 0, 0)] (pc' := 1) (ls' := [(0, .inl x0), (1, .inl x1), (2, .inl x2)]) (st' := [.inl x0]) (m2 := m) (by decide +kernel) rfl trivial ?_
  by_cases c1 : x0 = (4 : Int32)
  · replace H := jif_t c1 H
    refine jS.tswIn (dflt := 112) (lo := 4) (hi := 10) (offs := #[43, 47, 51, 55, 67, 81, 95]) (off := 43) c1 (len := 43) (tgt := 44) (by decide +kernel) (by decide) (by decide) rfl (by decide) ?_
    refine jS.adv O [(.iload_n 1, 0, 0, 0, 0, 0, 0), (.iload_n 2, 0, 0, 0, 0, 0, 0), (.iadd, 0, 0, 0, 0, 0, 0)] (pc' := 47) (ls' := [(0, .inl x0), (1, .inl x1), (2, .inl x2)]) (st' := [.inl (x1 + x2)]) (m2 := m) (by decide +kernel) rfl trivial ?_
    replace H := Option.some.inj H
    subst H
    exact jS.iret rfl (by decide +kernel)
  replace H := jif_f c1 H
  by_cases c2 : x0 = (5 : Int32)
  · replace H := jif_t c2 H
    refine jS.tswIn (dflt := 112) (lo := 4) (hi := 10) (offs := #[43, 47, 51, 55, 67, 81, 95]) (off := 47) c2 (len := 43) (tgt := 48) (by decide +kernel) (by decide) (by decide) rfl (by decide) ?_
    refine jS.adv O [(.iload_n 1, 0, 0, 0, 0, 0, 0), (.iload_n 2, 0, 0, 0, 0, 0, 0), (.isub, 0, 0, 0, 0, 0, 0)] (pc' := 51) (ls' := [(0, .inl x0), (1, .inl x1), (2, .inl x2)]) (st' := [.inl (x1 - x2)]) (m2 := m) (by decide +kernel) rfl trivial ?_
    replace H := Option.some.inj H
    subst H
    exact jS.iret rfl (by decide +kernel)
  replace H := jif_f c2 H
  by_cases c3 : x0 = (6 : Int32)
  · replace H := jif_t c3 H
    refine jS.tswIn (dflt := 112) (lo := 4) (hi := 10) (offs := #[43, 47, 51, 55, 67, 81, 95]) (off := 51) c3 (len := 43) (tgt := 52) (by decide +kernel) (by decide) (by decide) rfl (by decide) ?_
    refine jS.adv O [(.iload_n 1, 0, 0, 0, 0, 0, 0), (.iload_n 2, 0, 0, 0, 0, 0, 0), (.imul, 0, 0, 0, 0, 0, 0)] (pc' := 55) (ls' := [(0, .inl x0), (1, .inl x1), (2, .inl x2)]) (st' := [.inl (x1 * x2)]) (m2 := m) (by decide +kernel) rfl trivial ?_
    replace H := Option.some.inj H
    subst H
    exact jS.iret rfl (by decide +kernel)
  replace H := jif_f c3 H
  by_cases c4 : x0 = (7 : Int32)
  · replace H := jif_t c4 H
    refine jS.tswIn (dflt := 112) (lo := 4) (hi := 10) (offs := #[43, 47, 51, 55, 67, 81, 95]) (off := 55) c4 (len := 43) (tgt := 56) (by decide +kernel) (by decide) (by decide) rfl (by decide) ?_
    refine jS.adv O [(.iload_n 2, 0, 0, 0, 0, 0, 0)] (pc' := 57) (ls' := [(0, .inl x0), (1, .inl x1), (2, .inl x2)]) (st' := [.inl x2]) (m2 := m) (by decide +kernel) rfl trivial ?_
    refine jS.br (i := .ifCond .ne 7) (P := ¬ x2 = 0) (rest := []) rfl (by decide +kernel) (tgt := 64) (by decide) (fun c5 => ?_) (fun c5 => ?_)
    · replace H := jif_f c5 H
      obtain ⟨w6, H⟩ := jgd_ok H
      refine jS.adv O [(.iload_n 1, 0, 0, 0, 0, 0, 0), (.iload_n 2, 0, 0, 0, 0, 0, 0), (.irem, 0, 0, 0, 0, 0, 0)] (pc' := 67) (ls' := [(0, .inl x0), (1, .inl x1), (2, .inl x2)]) (st' := [.inl (jrem x1 x2)]) (m2 := m) (by decide +kernel) rfl ⟨w6, trivial⟩ ?_
      replace H := Option.some.inj H
      subst H
      exact jS.iret rfl (by decide +kernel)
    · replace H := jif_t (Classical.not_not.mp c5) H
      refine jS.adv O [(.iconst 0, 0, 0, 0, 0, (0 : Int32), 0), (.goto 6, 0, 67, 0, 0, 0, 0)] (pc' := 67) (ls' := [(0, .inl x0), (1, .inl x1), (2, .inl x2)]) (st' := [.inl (0 : Int32)]) (m2 := m) (by decide +kernel) rfl trivial ?_
      replace H := Option.some.inj H
      subst H
      exact jS.iret rfl (by decide +kernel)
  replace H := jif_f c4 H
  by_cases c7 : x0 = (8 : Int32)
  · replace H := jif_t c7 H
    refine jS.tswIn (dflt := 112) (lo := 4) (hi := 10) (offs := #[43, 47, 51, 55, 67, 81, 95]) (off := 67) c7 (len := 43) (tgt := 68) (by decide +kernel) (by decide) (by decide) rfl (by decide) ?_
    refine jS.adv O [(.iload_n 1, 0, 0, 0, 0, 0, 0), (.iload_n 2, 0, 0, 0, 0, 0, 0)] (pc' := 70) (ls' := [(0, .inl x0), (1, .inl x1), (2, .inl x2)]) (st' := [.inl x2, .inl x1]) (m2 := m) (by decide +kernel) rfl trivial ?_
    refine jS.br (i := .if_icmp .ge 7) (P := x2 ≤ x1) (rest := []) rfl (by decide +kernel) (tgt := 77) (by decide) (fun c8 => ?_) (fun c8 => ?_)
    · replace H := jif_t c8 H
      refine jS.adv O [(.iconst 0, 0, 0, 0, 0, (0 : Int32), 0)] (pc' := 78) (ls' := [(0, .inl x0), (1, .inl x1), (2, .inl x2)]) (st' := [.inl (0 : Int32)]) (m2 := m) (by decide +kernel) rfl trivial ?_
      refine jS.loc' [] (ls' := []) rfl ?_
      exact ec_X7_joined_j78 O hd H
    · replace H := jif_f c8 H
      refine jS.adv O [(.iconst 1, 0, 0, 0, 0, (1 : Int32), 0), (.goto 4, 0, 78, 0, 0, 0, 0)] (pc' := 78) (ls' := [(0, .inl x0), (1, .inl x1), (2, .inl x2)]) (st' := [.inl (1 : Int32)]) (m2 := m) (by decide +kernel) rfl trivial ?_
      refine jS.loc' [] (ls' := []) rfl ?_
      exact ec_X7_joined_j78 O hd H
  replace H := jif_f c7 H
  by_cases c11 : x0 = (9 : Int32)
  · replace H := jif_t c11 H
    refine jS.tswIn (dflt := 112) (lo := 4) (hi := 10) (offs := #[43, 47, 51, 55, 67, 81, 95]) (off := 81) c11 (len := 43) (tgt := 82) (by decide +kernel) (by decide) (by decide) rfl (by decide) ?_
    refine jS.adv O [(.iload_n 1, 0, 0, 0, 0, 0, 0), (.iload_n 2, 0, 0, 0, 0, 0, 0)] (pc' := 84) (ls' := [(0, .inl x0), (1, .inl x1), (2, .inl x2)]) (st' := [.inl x2, .inl x1]) (m2 := m) (by decide +kernel) rfl trivial ?_
    refine jS.br (i := .if_icmp .ne 7) (P := ¬ x1 = x2) (rest := []) rfl (by decide +kernel) (tgt := 91) (by decide) (fun c12 => ?_) (fun c12 => ?_)
    · replace H := jif_f c12 H
      refine jS.adv O [(.iconst 0, 0, 0, 0, 0, (0 : Int32), 0)] (pc' := 92) (ls' := [(0, .inl x0), (1, .inl x1), (2, .inl x2)]) (st' := [.inl (0 : Int32)]) (m2 := m) (by decide +kernel) rfl trivial ?_
      refine jS.loc' [] (ls' := []) rfl ?_
      exact ec_X7_joined_j92 O hd H
    · replace H := jif_t (Classical.not_not.mp c12) H
      refine jS.adv O [(.iconst 1, 0, 0, 0, 0, (1 : Int32), 0), (.goto 4, 0, 92, 0, 0, 0, 0)] (pc' := 92) (ls' := [(0, .inl x0), (1, .inl x1), (2, .inl x2)]) (st' := [.inl (1 : Int32)]) (m2 := m) (by decide +kernel) rfl trivial ?_
      refine jS.loc' [] (ls' := []) rfl ?_
      exact ec_X7_joined_j92 O hd H
  replace H := jif_f c11 H
  by_cases c15 : x0 = (10 : Int32)
  · replace H := jif_t c15 H
    refine jS.tswIn (dflt := 112) (lo := 4) (hi := 10) (offs := #[43, 47, 51, 55, 67, 81, 95]) (off := 95) c15 (len := 43) (tgt := 96) (by decide +kernel) (by decide) (by decide) rfl (by decide) ?_
    refine jS.adv O [(.iload_n 1, 0, 0, 0, 0, 0, 0)] (pc' := 97) (ls' := [(0, .inl x0), (1, .inl x1), (2, .inl x2)]) (st' := [.inl x1]) (m2 := m) (by decide +kernel) rfl trivial ?_
    refine jS.br (i := .ifCond .eq 11) (P := x1 = 0) (rest := []) rfl (by decide +kernel) (tgt := 108) (by decide) (fun c16 => ?_) (fun c16 => ?_)
    · replace H := jif_t c16 H
      refine jS.adv O [(.iconst 0, 0, 0, 0, 0, (0 : Int32), 0)] (pc' := 109) (ls' := [(0, .inl x0), (1, .inl x1), (2, .inl x2)]) (st' := [.inl (0 : Int32)]) (m2 := m) (by decide +kernel) rfl trivial ?_
      refine jS.loc' [] (ls' := []) rfl ?_
      exact ec_X7_joined_j109 O hd H
    · replace H := jif_f c16 H
      refine jS.adv O [(.iload_n 2, 0, 0, 0, 0, 0, 0)] (pc' := 101) (ls' := [(0, .inl x0), (1, .inl x1), (2, .inl x2)]) (st' := [.inl x2]) (m2 := m) (by decide +kernel) rfl trivial ?_
      refine jS.br (i := .ifCond .eq 7) (P := x2 = 0) (rest := []) rfl (by decide +kernel) (tgt := 108) (by decide) (fun c19 => ?_) (fun c19 => ?_)
      · replace H := jif_t c19 H
        refine jS.adv O [(.iconst 0, 0, 0, 0, 0, (0 : Int32), 0)] (pc' := 109) (ls' := [(0, .inl x0), (1, .inl x1), (2, .inl x2)]) (st' := [.inl (0 : Int32)]) (m2 := m) (by decide +kernel) rfl trivial ?_
        refine jS.loc' [] (ls' := []) rfl ?_
        exact ec_X7_joined_j109 O hd H
      · replace H := jif_f c19 H
        refine jS.adv O [(.iconst 1, 0, 0, 0, 0, (1 : Int32), 0), (.goto 4, 0, 109, 0, 0, 0, 0)] (pc' := 109) (ls' := [(0, .inl x0), (1, .inl x1), (2, .inl x2)]) (st' := [.inl (1 : Int32)]) (m2 := m) (by decide +kernel) rfl trivial ?_
        refine jS.loc' [] (ls' := []) rfl ?_
        exact ec_X7_joined_j109 O hd H
  replace H := jif_f c15 H
  refine jS.tswOut (dflt := 112) (lo := 4) (hi := 10) (offs := #[43, 47, 51, 55, 67, 81, 95]) (by have q := jsw_out (x := x0) (vs := [(4 : Int32), (5 : Int32), (6 : Int32), (7 : Int32), (8 : Int32), (9 : Int32), (10 : Int32)]) (lo := 4) (n := 7) (by decide) (List.forall_mem_cons.mpr ⟨c1, List.forall_mem_cons.mpr ⟨c2, List.forall_mem_cons.mpr ⟨c3, List.forall_mem_cons.mpr ⟨c4, List.forall_mem_cons.mpr ⟨c7, List.forall_mem_cons.mpr ⟨c11, List.forall_mem_cons.mpr ⟨c15, List.forall_mem_nil _⟩⟩⟩⟩⟩⟩⟩); first | exact q | omega) (len := 43) (tgt := 113) (by decide +kernel) (by decide) ?_
  refine jS.adv O [(.iload_n 1, 0, 0, 0, 0, 0, 0)] (pc' := 114) (ls' := [(0, .inl x0), (1, .inl x1), (2, .inl x2)]) (st' := [.inl x1]) (m2 := m) (by decide +kernel) rfl trivial ?_
  refine jS.br (i := .ifCond .ne 7) (P := ¬ x1 = 0) (rest := []) rfl (by decide +kernel) (tgt := 121) (by decide) (fun c20 => ?_) (fun c20 => ?_)
  · replace H := jif_f c20 H
    refine jS.adv O [(.iconst 1, 0, 0, 0, 0, (1 : Int32), 0), (.goto 4, 0, 126, 0, 0, 0, 0)] (pc' := 126) (ls' := [(0, .inl x0), (1, .inl x1), (2, .inl x2)]) (st' := [.inl (1 : Int32)]) (m2 := m) (by decide +kernel) rfl trivial ?_
    refine jS.loc' [] (ls' := []) rfl ?_
    exact ec_X7_joined_j126 O hd H
  · replace H := jif_t (Classical.not_not.mp c20) H
    refine jS.adv O [(.iload_n 2, 0, 0, 0, 0, 0, 0)] (pc' := 118) (ls' := [(0, .inl x0), (1, .inl x1), (2, .inl x2)]) (st' := [.inl x2]) (m2 := m) (by decide +kernel) rfl trivial ?_
    refine jS.br (i := .ifCond .eq 7) (P := x2 = 0) (rest := []) rfl (by decide +kernel) (tgt := 125) (by decide) (fun c23 => ?_) (fun c23 => ?_)
    · replace H := jif_t c23 H
      refine jS.adv O [(.iconst 0, 0, 0, 0, 0, (0 : Int32), 0)] (pc' := 126) (ls' := [(0, .inl x0), (1, .inl x1), (2, .inl x2)]) (st' := [.inl (0 : Int32)]) (m2 := m) (by decide +kernel) rfl trivial ?_
      refine jS.loc' [] (ls' := []) rfl ?_
      exact ec_X7_joined_j126 O hd H
    · replace H := jif_f c23 H
      refine jS.adv O [(.iconst 1, 0, 0, 0, 0, (1 : Int32), 0), (.goto 4, 0, 126, 0, 0, 0, 0)] (pc' := 126) (ls' := [(0, .inl x0), (1, .inl x1), (2, .inl x2)]) (st' := [.inl (1 : Int32)]) (m2 := m) (by decide +kernel) rfl trivial ?_
      refine jS.loc' [] (ls' := []) rfl ?_
      exact ec_X7_joined_j126 O hd H
def c_X7_valueFor_j83_l6 (F : Nat) (B : jMe → Nat → Nat → Int32 → Int32 → Int32 → Int32 → Option ((Int32 × jMe) ⊕ (jMe × Nat × Int32))) (m : jMe) (y0 : Nat) (y1 : Nat) (y2 : Int32) (y3 : Int32) (y4 : Int32) (y5 : Int32) (s0 : Int32) (s1 : Int32) (s2 : Nat) : Option ((Int32 × jMe) ⊕ (jMe × Nat × Int32)) :=
  jgd (jK m s2 = 1) <| jgd (jin s1 (jZ m s2) = true) <| B (jsI m s2 s1.toNatClampNeg s0) y0 y1 y2 y3 (y4 + (1 : Int32)) (y5 + (1 : Int32))
theorem ec_X7_valueFor_j83_l6 {X : jX} {l : Launch} {d : Nat} (O : jOk X) (hd : 4 ≤ d) {F : Nat} {m0 m' : jMe} {v : Option jAV} {B : jMe → Nat → Nat → Int32 → Int32 → Int32 → Int32 → Option ((Int32 × jMe) ⊕ (jMe × Nat × Int32))} (hB : ∀ (m : jMe) (y0 : Nat) (y1 : Nat) (y2 : Int32) (y3 : Int32) (y4 : Int32) (y5 : Int32) (r : (Int32 × jMe) ⊕ (jMe × Nat × Int32)), B m y0 y1 y2 y3 y4 y5 = some r → (∀ q, r = .inl q → v = (some (.inl q.1)) ∧ m' = q.2) → (∀ e, r = .inr e → jS X l d jm_X7_valueFor m0 v m' (208, [(0, .inr (.inr e.2.1)), (4, .inl e.2.2)], [], e.1)) → jS X l d jm_X7_valueFor m0 v m' (6, [(0, .inr (.inr y0)), (1, .inr (.inr y1)), (2, .inl y2), (3, .inl y3), (4, .inl y4), (5, .inl y5)], [], m)) {m : jMe} {y0 : Nat} {y1 : Nat} {y2 : Int32} {y3 : Int32} {y4 : Int32} {y5 : Int32} {s0 : Int32} {s1 : Int32} {s2 : Nat} {r : (Int32 × jMe) ⊕ (jMe × Nat × Int32)} (H : c_X7_valueFor_j83_l6 F B m y0 y1 y2 y3 y4 y5 s0 s1 s2 = some r) (h1 : ∀ q, r = .inl q → v = (some (.inl q.1)) ∧ m' = q.2) (h2 : ∀ e, r = .inr e → jS X l d jm_X7_valueFor m0 v m' (208, [(0, .inr (.inr e.2.1)), (4, .inl e.2.2)], [], e.1)) : jS X l d jm_X7_valueFor m0 v m' (83, [(0, .inr (.inr y0)), (1, .inr (.inr y1)), (2, .inl y2), (3, .inl y3), (4, .inl y4), (5, .inl y5)], [.inl s0, .inl s1, .inr (.inr s2)], m) := by
  unfold c_X7_valueFor_j83_l6 at H
  obtain ⟨w12, H⟩ := jgd_ok H
  obtain ⟨w13, H⟩ := jgd_ok H
  refine jS.adv O [(.iastore, 0, 0, 0, 0, 0, 0), (.iinc 4 1, 0, 0, 0, 0, (1 : Int32), 0), (.goto 115, 0, 202, 0, 0, 0, 0), (.iinc 5 1, 0, 0, 0, 0, (1 : Int32), 0), (.goto (-199), 0, 6, 0, 0, 0, 0)] (pc' := 6) (ls' := [(5, .inl (y5 + (1 : Int32))), (4, .inl (y4 + (1 : Int32))), (0, .inr (.inr y0)), (1, .inr (.inr y1)), (2, .inl y2), (3, .inl y3)]) (st' := []) (m2 := (jsI m s2 s1.toNatClampNeg s0)) (by decide +kernel) rfl ⟨⟨w12, jib_ok w13⟩, trivial⟩ ?_
  refine jS.loc' [2, 3, 4, 5, 1, 0] (ls' := [(0, .inr (.inr y0)), (1, .inr (.inr y1)), (2, .inl y2), (3, .inl y3), (4, .inl (y4 + (1 : Int32))), (5, .inl (y5 + (1 : Int32)))]) rfl ?_
  exact hB _ _ _ _ _ _ _ _ H h1 h2
def c_X7_valueFor_j50_l6 (F : Nat) (B : jMe → Nat → Nat → Int32 → Int32 → Int32 → Int32 → Option ((Int32 × jMe) ⊕ (jMe × Nat × Int32))) (m : jMe) (y0 : Nat) (y1 : Nat) (y2 : Int32) (y3 : Int32) (y4 : Int32) (y5 : Int32) (y6 : Int32) (y7 : Int32) : Option ((Int32 × jMe) ⊕ (jMe × Nat × Int32)) :=
  (if y4 < (64 : Int32) then jgd (jK m y0 = 39) <| (if y6 = 0 then c_X7_valueFor_j83_l6 F B m y0 y1 y2 y3 y4 y5 y7 y4 (jP m y0 1) else jb (c_X7_named F m y7 y1 y2 y3) fun t11 => c_X7_valueFor_j83_l6 F B m y0 y1 y2 y3 y4 y5 t11 y4 (jP m y0 1)) else some (.inl ((0 : Int32), m)))
theorem ec_X7_valueFor_j50_l6 {X : jX} {l : Launch} {d : Nat} (O : jOk X) (hd : 4 ≤ d) {F : Nat} {m0 m' : jMe} {v : Option jAV} {B : jMe → Nat → Nat → Int32 → Int32 → Int32 → Int32 → Option ((Int32 × jMe) ⊕ (jMe × Nat × Int32))} (hB : ∀ (m : jMe) (y0 : Nat) (y1 : Nat) (y2 : Int32) (y3 : Int32) (y4 : Int32) (y5 : Int32) (r : (Int32 × jMe) ⊕ (jMe × Nat × Int32)), B m y0 y1 y2 y3 y4 y5 = some r → (∀ q, r = .inl q → v = (some (.inl q.1)) ∧ m' = q.2) → (∀ e, r = .inr e → jS X l d jm_X7_valueFor m0 v m' (208, [(0, .inr (.inr e.2.1)), (4, .inl e.2.2)], [], e.1)) → jS X l d jm_X7_valueFor m0 v m' (6, [(0, .inr (.inr y0)), (1, .inr (.inr y1)), (2, .inl y2), (3, .inl y3), (4, .inl y4), (5, .inl y5)], [], m)) {m : jMe} {y0 : Nat} {y1 : Nat} {y2 : Int32} {y3 : Int32} {y4 : Int32} {y5 : Int32} {y6 : Int32} {y7 : Int32} {r : (Int32 × jMe) ⊕ (jMe × Nat × Int32)} (H : c_X7_valueFor_j50_l6 F B m y0 y1 y2 y3 y4 y5 y6 y7 = some r) (h1 : ∀ q, r = .inl q → v = (some (.inl q.1)) ∧ m' = q.2) (h2 : ∀ e, r = .inr e → jS X l d jm_X7_valueFor m0 v m' (208, [(0, .inr (.inr e.2.1)), (4, .inl e.2.2)], [], e.1)) : jS X l d jm_X7_valueFor m0 v m' (50, [(0, .inr (.inr y0)), (1, .inr (.inr y1)), (2, .inl y2), (3, .inl y3), (4, .inl y4), (5, .inl y5), (6, .inl y6), (7, .inl y7)], [], m) := by
  unfold c_X7_valueFor_j50_l6 at H
  refine jS.adv O [(.iload 4, 0, 0, 0, 0, 0, 0), (.bipush 64, 0, 0, 0, 0, (64 : Int32), 0)] (pc' := 54) (ls' := [(0, .inr (.inr y0)), (1, .inr (.inr y1)), (2, .inl y2), (3, .inl y3), (4, .inl y4), (5, .inl y5), (6, .inl y6), (7, .inl y7)]) (st' := [.inl (64 : Int32), .inl y4]) (m2 := m) (by decide +kernel) rfl trivial ?_
  refine jS.br (i := .if_icmp .lt 5) (P := y4 < (64 : Int32)) (rest := []) rfl (by decide +kernel) (tgt := 59) (by decide) (fun c7 => ?_) (fun c7 => ?_)
  · replace H := jif_t c7 H
    obtain ⟨w8, H⟩ := jgd_ok H
    refine jS.adv O [(.aload_n 0, 0, 0, 0, 0, 0, 0), (.getfield 9, 0, 7, 1, 572, 0, 0), (.iload 4, 0, 0, 0, 0, 0, 0), (.iload 6, 0, 0, 0, 0, 0, 0)] (pc' := 67) (ls' := [(0, .inr (.inr y0)), (1, .inr (.inr y1)), (2, .inl y2), (3, .inl y3), (4, .inl y4), (5, .inl y5), (6, .inl y6), (7, .inl y7)]) (st' := [.inl y6, .inl y4, .inr (.inr (jP m y0 1))]) (m2 := m) (by decide +kernel) rfl ⟨w8, trivial⟩ ?_
    refine jS.br (i := .ifCond .ne 8) (P := ¬ y6 = 0) (rest := [.inl y4, .inr (.inr (jP m y0 1))]) rfl (by decide +kernel) (tgt := 75) (by decide) (fun c9 => ?_) (fun c9 => ?_)
    · replace H := jif_f c9 H
      refine jS.adv O [(.iload 7, 0, 0, 0, 0, 0, 0), (.aload_n 1, 0, 0, 0, 0, 0, 0), (.iload_n 2, 0, 0, 0, 0, 0, 0), (.iload_n 3, 0, 0, 0, 0, 0, 0)] (pc' := 80) (ls' := [(0, .inr (.inr y0)), (1, .inr (.inr y1)), (2, .inl y2), (3, .inl y3), (4, .inl y4), (5, .inl y5), (6, .inl y6), (7, .inl y7)]) (st' := [.inl y3, .inl y2, .inr (.inr y1), .inl y7, .inl y4, .inr (.inr (jP m y0 1))]) (m2 := m) (by decide +kernel) rfl trivial ?_
      obtain ⟨t11, w10, H⟩ := jb_ok H
      refine jS.step (c' := (83, [(0, .inr (.inr y0)), (1, .inr (.inr y1)), (2, .inl y2), (3, .inl y3), (4, .inl y4), (5, .inl y5), (6, .inl y6), (7, .inl y7)], [.inl t11, .inl y4, .inr (.inr (jP m y0 1))], m)) (jSt.callS (As := [.inl y7, .inr (.inr y1), .inl y2, .inl y3]) (rest := [.inl y4, .inr (.inr (jP m y0 1))]) O (ec_X7_named (d := 3) O (Nat.le_refl _) w10) (by omega) jmw_X7_named jmv_X7_named jmn_X7_named (idx := 28) (jW_of 734 (by decide +kernel) rfl) (Nat.le_of_ble_eq_true rfl) (by decide +kernel)) ?_
      refine jS.loc' [0, 1, 2, 3, 4, 5] (ls' := [(0, .inr (.inr y0)), (1, .inr (.inr y1)), (2, .inl y2), (3, .inl y3), (4, .inl y4), (5, .inl y5)]) rfl ?_
      exact ec_X7_valueFor_j83_l6 O hd hB H h1 h2
    · replace H := jif_t (Classical.not_not.mp c9) H
      refine jS.adv O [(.iload 7, 0, 0, 0, 0, 0, 0), (.goto 11, 0, 83, 0, 0, 0, 0)] (pc' := 83) (ls' := [(0, .inr (.inr y0)), (1, .inr (.inr y1)), (2, .inl y2), (3, .inl y3), (4, .inl y4), (5, .inl y5), (6, .inl y6), (7, .inl y7)]) (st' := [.inl y7, .inl y4, .inr (.inr (jP m y0 1))]) (m2 := m) (by decide +kernel) rfl trivial ?_
      refine jS.loc' [0, 1, 2, 3, 4, 5] (ls' := [(0, .inr (.inr y0)), (1, .inr (.inr y1)), (2, .inl y2), (3, .inl y3), (4, .inl y4), (5, .inl y5)]) rfl ?_
      exact ec_X7_valueFor_j83_l6 O hd hB H h1 h2
  · replace H := jif_f c7 H
    refine jS.adv O [(.iconst 0, 0, 0, 0, 0, (0 : Int32), 0)] (pc' := 58) (ls' := [(0, .inr (.inr y0)), (1, .inr (.inr y1)), (2, .inl y2), (3, .inl y3), (4, .inl y4), (5, .inl y5), (6, .inl y6), (7, .inl y7)]) (st' := [.inl (0 : Int32)]) (m2 := m) (by decide +kernel) rfl trivial ?_
    replace H := Option.some.inj H
    subst H
    obtain ⟨q1, q2⟩ := h1 _ rfl
    subst q1; subst q2
    exact jS.iret rfl (by decide +kernel)
def c_X7_valueFor_j157_l6 (F : Nat) (B : jMe → Nat → Nat → Int32 → Int32 → Int32 → Int32 → Option ((Int32 × jMe) ⊕ (jMe × Nat × Int32))) (m : jMe) (y0 : Nat) (y1 : Nat) (y2 : Int32) (y3 : Int32) (y4 : Int32) (y5 : Int32) (s0 : Int32) (s1 : Int32) (s2 : Nat) : Option ((Int32 × jMe) ⊕ (jMe × Nat × Int32)) :=
  jgd (jK m s2 = 1) <| jgd (jin s1 (jZ m s2) = true) <| B (jsI m s2 s1.toNatClampNeg s0) y0 y1 y2 y3 y4 (y5 + (1 : Int32))
theorem ec_X7_valueFor_j157_l6 {X : jX} {l : Launch} {d : Nat} (O : jOk X) (hd : 4 ≤ d) {F : Nat} {m0 m' : jMe} {v : Option jAV} {B : jMe → Nat → Nat → Int32 → Int32 → Int32 → Int32 → Option ((Int32 × jMe) ⊕ (jMe × Nat × Int32))} (hB : ∀ (m : jMe) (y0 : Nat) (y1 : Nat) (y2 : Int32) (y3 : Int32) (y4 : Int32) (y5 : Int32) (r : (Int32 × jMe) ⊕ (jMe × Nat × Int32)), B m y0 y1 y2 y3 y4 y5 = some r → (∀ q, r = .inl q → v = (some (.inl q.1)) ∧ m' = q.2) → (∀ e, r = .inr e → jS X l d jm_X7_valueFor m0 v m' (208, [(0, .inr (.inr e.2.1)), (4, .inl e.2.2)], [], e.1)) → jS X l d jm_X7_valueFor m0 v m' (6, [(0, .inr (.inr y0)), (1, .inr (.inr y1)), (2, .inl y2), (3, .inl y3), (4, .inl y4), (5, .inl y5)], [], m)) {m : jMe} {y0 : Nat} {y1 : Nat} {y2 : Int32} {y3 : Int32} {y4 : Int32} {y5 : Int32} {s0 : Int32} {s1 : Int32} {s2 : Nat} {r : (Int32 × jMe) ⊕ (jMe × Nat × Int32)} (H : c_X7_valueFor_j157_l6 F B m y0 y1 y2 y3 y4 y5 s0 s1 s2 = some r) (h1 : ∀ q, r = .inl q → v = (some (.inl q.1)) ∧ m' = q.2) (h2 : ∀ e, r = .inr e → jS X l d jm_X7_valueFor m0 v m' (208, [(0, .inr (.inr e.2.1)), (4, .inl e.2.2)], [], e.1)) : jS X l d jm_X7_valueFor m0 v m' (157, [(0, .inr (.inr y0)), (1, .inr (.inr y1)), (2, .inl y2), (3, .inl y3), (4, .inl y4), (5, .inl y5)], [.inl s0, .inl s1, .inr (.inr s2)], m) := by
  unfold c_X7_valueFor_j157_l6 at H
  obtain ⟨w24, H⟩ := jgd_ok H
  obtain ⟨w25, H⟩ := jgd_ok H
  refine jS.adv O [(.iastore, 0, 0, 0, 0, 0, 0), (.goto 44, 0, 202, 0, 0, 0, 0), (.iinc 5 1, 0, 0, 0, 0, (1 : Int32), 0), (.goto (-199), 0, 6, 0, 0, 0, 0)] (pc' := 6) (ls' := [(5, .inl (y5 + (1 : Int32))), (0, .inr (.inr y0)), (1, .inr (.inr y1)), (2, .inl y2), (3, .inl y3), (4, .inl y4)]) (st' := []) (m2 := (jsI m s2 s1.toNatClampNeg s0)) (by decide +kernel) rfl ⟨⟨w24, jib_ok w25⟩, trivial⟩ ?_
  refine jS.loc' [1, 2, 3, 4, 5, 0] (ls' := [(0, .inr (.inr y0)), (1, .inr (.inr y1)), (2, .inl y2), (3, .inl y3), (4, .inl y4), (5, .inl (y5 + (1 : Int32)))]) rfl ?_
  exact hB _ _ _ _ _ _ _ _ H h1 h2
def c_X7_valueFor_j154_l6 (F : Nat) (B : jMe → Nat → Nat → Int32 → Int32 → Int32 → Int32 → Option ((Int32 × jMe) ⊕ (jMe × Nat × Int32))) (m : jMe) (y0 : Nat) (y1 : Nat) (y2 : Int32) (y3 : Int32) (y4 : Int32) (y5 : Int32) (s0 : Int32) (s1 : Int32) (s2 : Nat) : Option ((Int32 × jMe) ⊕ (jMe × Nat × Int32)) :=
  jb (c_X7_bit F m s0) fun t23 => c_X7_valueFor_j157_l6 F B m y0 y1 y2 y3 y4 y5 t23 s1 s2
theorem ec_X7_valueFor_j154_l6 {X : jX} {l : Launch} {d : Nat} (O : jOk X) (hd : 4 ≤ d) {F : Nat} {m0 m' : jMe} {v : Option jAV} {B : jMe → Nat → Nat → Int32 → Int32 → Int32 → Int32 → Option ((Int32 × jMe) ⊕ (jMe × Nat × Int32))} (hB : ∀ (m : jMe) (y0 : Nat) (y1 : Nat) (y2 : Int32) (y3 : Int32) (y4 : Int32) (y5 : Int32) (r : (Int32 × jMe) ⊕ (jMe × Nat × Int32)), B m y0 y1 y2 y3 y4 y5 = some r → (∀ q, r = .inl q → v = (some (.inl q.1)) ∧ m' = q.2) → (∀ e, r = .inr e → jS X l d jm_X7_valueFor m0 v m' (208, [(0, .inr (.inr e.2.1)), (4, .inl e.2.2)], [], e.1)) → jS X l d jm_X7_valueFor m0 v m' (6, [(0, .inr (.inr y0)), (1, .inr (.inr y1)), (2, .inl y2), (3, .inl y3), (4, .inl y4), (5, .inl y5)], [], m)) {m : jMe} {y0 : Nat} {y1 : Nat} {y2 : Int32} {y3 : Int32} {y4 : Int32} {y5 : Int32} {s0 : Int32} {s1 : Int32} {s2 : Nat} {r : (Int32 × jMe) ⊕ (jMe × Nat × Int32)} (H : c_X7_valueFor_j154_l6 F B m y0 y1 y2 y3 y4 y5 s0 s1 s2 = some r) (h1 : ∀ q, r = .inl q → v = (some (.inl q.1)) ∧ m' = q.2) (h2 : ∀ e, r = .inr e → jS X l d jm_X7_valueFor m0 v m' (208, [(0, .inr (.inr e.2.1)), (4, .inl e.2.2)], [], e.1)) : jS X l d jm_X7_valueFor m0 v m' (154, [(0, .inr (.inr y0)), (1, .inr (.inr y1)), (2, .inl y2), (3, .inl y3), (4, .inl y4), (5, .inl y5)], [.inl s0, .inl s1, .inr (.inr s2)], m) := by
  unfold c_X7_valueFor_j154_l6 at H
  obtain ⟨t23, w22, H⟩ := jb_ok H
  refine jS.step (c' := (157, [(0, .inr (.inr y0)), (1, .inr (.inr y1)), (2, .inl y2), (3, .inl y3), (4, .inl y4), (5, .inl y5)], [.inl t23, .inl s1, .inr (.inr s2)], m)) (jSt.callS (As := [.inl s0]) (rest := [.inl s1, .inr (.inr s2)]) O (ec_X7_bit (d := 2) O (Nat.le_refl _) w22) (by omega) jmw_X7_bit jmv_X7_bit jmn_X7_bit (idx := 32) (jW_of 738 (by decide +kernel) rfl) (Nat.le_of_ble_eq_true rfl) (by decide +kernel)) ?_
  refine jS.loc' [0, 1, 2, 3, 4, 5] (ls' := [(0, .inr (.inr y0)), (1, .inr (.inr y1)), (2, .inl y2), (3, .inl y3), (4, .inl y4), (5, .inl y5)]) rfl ?_
  exact ec_X7_valueFor_j157_l6 O hd hB H h1 h2
def c_X7_valueFor_j102_l6 (F : Nat) (B : jMe → Nat → Nat → Int32 → Int32 → Int32 → Int32 → Option ((Int32 × jMe) ⊕ (jMe × Nat × Int32))) (m : jMe) (y0 : Nat) (y1 : Nat) (y2 : Int32) (y3 : Int32) (y4 : Int32) (y5 : Int32) (y6 : Int32) : Option ((Int32 × jMe) ⊕ (jMe × Nat × Int32)) :=
  (if (1 : Int32) ≤ y4 then jgd (jK m y0 = 39) <| (if y6 = (2 : Int32) then jgd (jK m (jP m y0 1) = 1) <| jgd (jin (y4 - (1 : Int32)) (jZ m (jP m y0 1)) = true) <| c_X7_valueFor_j157_l6 F B m y0 y1 y2 y3 y4 y5 (-(jI m (jP m y0 1) (y4 - (1 : Int32)).toNatClampNeg)) (y4 - (1 : Int32)) (jP m y0 1) else jgd (jK m (jP m y0 1) = 1) <| jgd (jin (y4 - (1 : Int32)) (jZ m (jP m y0 1)) = true) <| (if (jI m (jP m y0 1) (y4 - (1 : Int32)).toNatClampNeg) = 0 then c_X7_valueFor_j154_l6 F B m y0 y1 y2 y3 y4 y5 (1 : Int32) (y4 - (1 : Int32)) (jP m y0 1) else c_X7_valueFor_j154_l6 F B m y0 y1 y2 y3 y4 y5 (0 : Int32) (y4 - (1 : Int32)) (jP m y0 1))) else some (.inl ((0 : Int32), m)))
theorem ec_X7_valueFor_j102_l6 {X : jX} {l : Launch} {d : Nat} (O : jOk X) (hd : 4 ≤ d) {F : Nat} {m0 m' : jMe} {v : Option jAV} {B : jMe → Nat → Nat → Int32 → Int32 → Int32 → Int32 → Option ((Int32 × jMe) ⊕ (jMe × Nat × Int32))} (hB : ∀ (m : jMe) (y0 : Nat) (y1 : Nat) (y2 : Int32) (y3 : Int32) (y4 : Int32) (y5 : Int32) (r : (Int32 × jMe) ⊕ (jMe × Nat × Int32)), B m y0 y1 y2 y3 y4 y5 = some r → (∀ q, r = .inl q → v = (some (.inl q.1)) ∧ m' = q.2) → (∀ e, r = .inr e → jS X l d jm_X7_valueFor m0 v m' (208, [(0, .inr (.inr e.2.1)), (4, .inl e.2.2)], [], e.1)) → jS X l d jm_X7_valueFor m0 v m' (6, [(0, .inr (.inr y0)), (1, .inr (.inr y1)), (2, .inl y2), (3, .inl y3), (4, .inl y4), (5, .inl y5)], [], m)) {m : jMe} {y0 : Nat} {y1 : Nat} {y2 : Int32} {y3 : Int32} {y4 : Int32} {y5 : Int32} {y6 : Int32} {r : (Int32 × jMe) ⊕ (jMe × Nat × Int32)} (H : c_X7_valueFor_j102_l6 F B m y0 y1 y2 y3 y4 y5 y6 = some r) (h1 : ∀ q, r = .inl q → v = (some (.inl q.1)) ∧ m' = q.2) (h2 : ∀ e, r = .inr e → jS X l d jm_X7_valueFor m0 v m' (208, [(0, .inr (.inr e.2.1)), (4, .inl e.2.2)], [], e.1)) : jS X l d jm_X7_valueFor m0 v m' (102, [(0, .inr (.inr y0)), (1, .inr (.inr y1)), (2, .inl y2), (3, .inl y3), (4, .inl y4), (5, .inl y5), (6, .inl y6)], [], m) := by
  unfold c_X7_valueFor_j102_l6 at H
  refine jS.adv O [(.iload 4, 0, 0, 0, 0, 0, 0), (.iconst 1, 0, 0, 0, 0, (1 : Int32), 0)] (pc' := 105) (ls' := [(0, .inr (.inr y0)), (1, .inr (.inr y1)), (2, .inl y2), (3, .inl y3), (4, .inl y4), (5, .inl y5), (6, .inl y6)]) (st' := [.inl (1 : Int32), .inl y4]) (m2 := m) (by decide +kernel) rfl trivial ?_
  refine jS.br (i := .if_icmp .ge 5) (P := (1 : Int32) ≤ y4) (rest := []) rfl (by decide +kernel) (tgt := 110) (by decide) (fun c16 => ?_) (fun c16 => ?_)
  · replace H := jif_t c16 H
    obtain ⟨w17, H⟩ := jgd_ok H
    refine jS.adv O [(.aload_n 0, 0, 0, 0, 0, 0, 0), (.getfield 9, 0, 7, 1, 572, 0, 0), (.iload 4, 0, 0, 0, 0, 0, 0), (.iconst 1, 0, 0, 0, 0, (1 : Int32), 0), (.isub, 0, 0, 0, 0, 0, 0), (.iload 6, 0, 0, 0, 0, 0, 0), (.iconst 2, 0, 0, 0, 0, (2 : Int32), 0)] (pc' := 121) (ls' := [(0, .inr (.inr y0)), (1, .inr (.inr y1)), (2, .inl y2), (3, .inl y3), (4, .inl y4), (5, .inl y5), (6, .inl y6)]) (st' := [.inl (2 : Int32), .inl y6, .inl (y4 - (1 : Int32)), .inr (.inr (jP m y0 1))]) (m2 := m) (by decide +kernel) rfl ⟨w17, trivial⟩ ?_
    refine jS.br (i := .if_icmp .ne 16) (P := ¬ y6 = (2 : Int32)) (rest := [.inl (y4 - (1 : Int32)), .inr (.inr (jP m y0 1))]) rfl (by decide +kernel) (tgt := 137) (by decide) (fun c18 => ?_) (fun c18 => ?_)
    · replace H := jif_f c18 H
      obtain ⟨w19, H⟩ := jgd_ok H
      obtain ⟨w20, H⟩ := jgd_ok H
      refine jS.adv O [(.aload_n 0, 0, 0, 0, 0, 0, 0), (.getfield 9, 0, 7, 1, 572, 0, 0), (.iload 4, 0, 0, 0, 0, 0, 0), (.iconst 1, 0, 0, 0, 0, (1 : Int32), 0), (.isub, 0, 0, 0, 0, 0, 0), (.iaload, 0, 1, 0, 0, 0, 0)] (pc' := 146) (ls' := [(0, .inr (.inr y0)), (1, .inr (.inr y1)), (2, .inl y2), (3, .inl y3), (4, .inl y4), (5, .inl y5), (6, .inl y6)]) (st' := [.inl (jI m (jP m y0 1) (y4 - (1 : Int32)).toNatClampNeg), .inl (y4 - (1 : Int32)), .inr (.inr (jP m y0 1))]) (m2 := m) (by decide +kernel) rfl ⟨w17, ⟨w19, jib_ok w20⟩, trivial⟩ ?_
      refine jS.br (i := .ifCond .ne 7) (P := ¬ (jI m (jP m y0 1) (y4 - (1 : Int32)).toNatClampNeg) = 0) (rest := [.inl (y4 - (1 : Int32)), .inr (.inr (jP m y0 1))]) rfl (by decide +kernel) (tgt := 153) (by decide) (fun c21 => ?_) (fun c21 => ?_)
      · replace H := jif_f c21 H
        refine jS.adv O [(.iconst 0, 0, 0, 0, 0, (0 : Int32), 0)] (pc' := 154) (ls' := [(0, .inr (.inr y0)), (1, .inr (.inr y1)), (2, .inl y2), (3, .inl y3), (4, .inl y4), (5, .inl y5), (6, .inl y6)]) (st' := [.inl (0 : Int32), .inl (y4 - (1 : Int32)), .inr (.inr (jP m y0 1))]) (m2 := m) (by decide +kernel) rfl trivial ?_
        refine jS.loc' [0, 1, 2, 3, 4, 5] (ls' := [(0, .inr (.inr y0)), (1, .inr (.inr y1)), (2, .inl y2), (3, .inl y3), (4, .inl y4), (5, .inl y5)]) rfl ?_
        exact ec_X7_valueFor_j154_l6 O hd hB H h1 h2
      · replace H := jif_t (Classical.not_not.mp c21) H
        refine jS.adv O [(.iconst 1, 0, 0, 0, 0, (1 : Int32), 0), (.goto 4, 0, 154, 0, 0, 0, 0)] (pc' := 154) (ls' := [(0, .inr (.inr y0)), (1, .inr (.inr y1)), (2, .inl y2), (3, .inl y3), (4, .inl y4), (5, .inl y5), (6, .inl y6)]) (st' := [.inl (1 : Int32), .inl (y4 - (1 : Int32)), .inr (.inr (jP m y0 1))]) (m2 := m) (by decide +kernel) rfl trivial ?_
        refine jS.loc' [0, 1, 2, 3, 4, 5] (ls' := [(0, .inr (.inr y0)), (1, .inr (.inr y1)), (2, .inl y2), (3, .inl y3), (4, .inl y4), (5, .inl y5)]) rfl ?_
        exact ec_X7_valueFor_j154_l6 O hd hB H h1 h2
    · replace H := jif_t (Classical.not_not.mp c18) H
      obtain ⟨w26, H⟩ := jgd_ok H
      obtain ⟨w27, H⟩ := jgd_ok H
      refine jS.adv O [(.aload_n 0, 0, 0, 0, 0, 0, 0), (.getfield 9, 0, 7, 1, 572, 0, 0), (.iload 4, 0, 0, 0, 0, 0, 0), (.iconst 1, 0, 0, 0, 0, (1 : Int32), 0), (.isub, 0, 0, 0, 0, 0, 0), (.iaload, 0, 1, 0, 0, 0, 0), (.ineg, 0, 0, 0, 0, 0, 0), (.goto 23, 0, 157, 0, 0, 0, 0)] (pc' := 157) (ls' := [(0, .inr (.inr y0)), (1, .inr (.inr y1)), (2, .inl y2), (3, .inl y3), (4, .inl y4), (5, .inl y5), (6, .inl y6)]) (st' := [.inl (-(jI m (jP m y0 1) (y4 - (1 : Int32)).toNatClampNeg)), .inl (y4 - (1 : Int32)), .inr (.inr (jP m y0 1))]) (m2 := m) (by decide +kernel) rfl ⟨w17, ⟨w26, jib_ok w27⟩, trivial⟩ ?_
      refine jS.loc' [0, 1, 2, 3, 4, 5] (ls' := [(0, .inr (.inr y0)), (1, .inr (.inr y1)), (2, .inl y2), (3, .inl y3), (4, .inl y4), (5, .inl y5)]) rfl ?_
      exact ec_X7_valueFor_j157_l6 O hd hB H h1 h2
  · replace H := jif_f c16 H
    refine jS.adv O [(.iconst 0, 0, 0, 0, 0, (0 : Int32), 0)] (pc' := 109) (ls' := [(0, .inr (.inr y0)), (1, .inr (.inr y1)), (2, .inl y2), (3, .inl y3), (4, .inl y4), (5, .inl y5), (6, .inl y6)]) (st' := [.inl (0 : Int32)]) (m2 := m) (by decide +kernel) rfl trivial ?_
    replace H := Option.some.inj H
    subst H
    obtain ⟨q1, q2⟩ := h1 _ rfl
    subst q1; subst q2
    exact jS.iret rfl (by decide +kernel)
def c_X7_valueFor_l6_b (F : Nat) (B : jMe → Nat → Nat → Int32 → Int32 → Int32 → Int32 → Option ((Int32 × jMe) ⊕ (jMe × Nat × Int32))) (m : jMe) (y0 : Nat) (y1 : Nat) (y2 : Int32) (y3 : Int32) (y4 : Int32) (y5 : Int32) : Option ((Int32 × jMe) ⊕ (jMe × Nat × Int32)) :=
  jgd (jK m y0 = 39) <| jgd (jK m (jP m y0 0) = 1) <| (if (Int32.ofNat (jZ m (jP m y0 0))) ≤ y5 then some (.inr (m, y0, y4)) else jgd (jin y5 (jZ m (jP m y0 0)) = true) <| jgd (jin y5 (jZ m (jP m y0 0)) = true) <| (if ((jI m (jP m y0 0) y5.toNatClampNeg) &&& (15 : Int32)) = 0 then c_X7_valueFor_j50_l6 F B m y0 y1 y2 y3 y4 y5 ((jI m (jP m y0 0) y5.toNatClampNeg) &&& (15 : Int32)) (jushr (jI m (jP m y0 0) y5.toNatClampNeg) (4 : Int32)) else (if ((jI m (jP m y0 0) y5.toNatClampNeg) &&& (15 : Int32)) = (1 : Int32) then c_X7_valueFor_j50_l6 F B m y0 y1 y2 y3 y4 y5 ((jI m (jP m y0 0) y5.toNatClampNeg) &&& (15 : Int32)) (jushr (jI m (jP m y0 0) y5.toNatClampNeg) (4 : Int32)) else (if ((jI m (jP m y0 0) y5.toNatClampNeg) &&& (15 : Int32)) = (2 : Int32) then c_X7_valueFor_j102_l6 F B m y0 y1 y2 y3 y4 y5 ((jI m (jP m y0 0) y5.toNatClampNeg) &&& (15 : Int32)) else (if ((jI m (jP m y0 0) y5.toNatClampNeg) &&& (15 : Int32)) = (3 : Int32) then c_X7_valueFor_j102_l6 F B m y0 y1 y2 y3 y4 y5 ((jI m (jP m y0 0) y5.toNatClampNeg) &&& (15 : Int32)) else (if (2 : Int32) ≤ y4 then jgd (jK m (jP m y0 1) = 1) <| jgd (jin ((y4 + (-1 : Int32)) - (1 : Int32)) (jZ m (jP m y0 1)) = true) <| jgd (jin (y4 + (-1 : Int32)) (jZ m (jP m y0 1)) = true) <| jb (c_X7_joined F m ((jI m (jP m y0 0) y5.toNatClampNeg) &&& (15 : Int32)) (jI m (jP m y0 1) ((y4 + (-1 : Int32)) - (1 : Int32)).toNatClampNeg) (jI m (jP m y0 1) (y4 + (-1 : Int32)).toNatClampNeg)) fun t34 => jgd (jin ((y4 + (-1 : Int32)) - (1 : Int32)) (jZ m (jP m y0 1)) = true) <| B (jsI m (jP m y0 1) ((y4 + (-1 : Int32)) - (1 : Int32)).toNatClampNeg t34) y0 y1 y2 y3 (y4 + (-1 : Int32)) (y5 + (1 : Int32)) else some (.inl ((0 : Int32), m))))))))
theorem ec_X7_valueFor_l6_b {X : jX} {l : Launch} {d : Nat} (O : jOk X) (hd : 4 ≤ d) {F : Nat} {m0 m' : jMe} {v : Option jAV} {B : jMe → Nat → Nat → Int32 → Int32 → Int32 → Int32 → Option ((Int32 × jMe) ⊕ (jMe × Nat × Int32))} (hB : ∀ (m : jMe) (y0 : Nat) (y1 : Nat) (y2 : Int32) (y3 : Int32) (y4 : Int32) (y5 : Int32) (r : (Int32 × jMe) ⊕ (jMe × Nat × Int32)), B m y0 y1 y2 y3 y4 y5 = some r → (∀ q, r = .inl q → v = (some (.inl q.1)) ∧ m' = q.2) → (∀ e, r = .inr e → jS X l d jm_X7_valueFor m0 v m' (208, [(0, .inr (.inr e.2.1)), (4, .inl e.2.2)], [], e.1)) → jS X l d jm_X7_valueFor m0 v m' (6, [(0, .inr (.inr y0)), (1, .inr (.inr y1)), (2, .inl y2), (3, .inl y3), (4, .inl y4), (5, .inl y5)], [], m)) {m : jMe} {y0 : Nat} {y1 : Nat} {y2 : Int32} {y3 : Int32} {y4 : Int32} {y5 : Int32} {r : (Int32 × jMe) ⊕ (jMe × Nat × Int32)} (H : c_X7_valueFor_l6_b F B m y0 y1 y2 y3 y4 y5 = some r) (h1 : ∀ q, r = .inl q → v = (some (.inl q.1)) ∧ m' = q.2) (h2 : ∀ e, r = .inr e → jS X l d jm_X7_valueFor m0 v m' (208, [(0, .inr (.inr e.2.1)), (4, .inl e.2.2)], [], e.1)) : jS X l d jm_X7_valueFor m0 v m' (6, [(0, .inr (.inr y0)), (1, .inr (.inr y1)), (2, .inl y2), (3, .inl y3), (4, .inl y4), (5, .inl y5)], [], m) := by
  unfold c_X7_valueFor_l6_b at H
  obtain ⟨w1, H⟩ := jgd_ok H
  obtain ⟨w2, H⟩ := jgd_ok H
  refine jS.adv O [(.iload 5, 0, 0, 0, 0, 0, 0), (.aload_n 0, 0, 0, 0, 0, 0, 0), (.getfield 25, 0, 7, 0, 571, 0, 0), (.arraylength, 0, 1, 0, 0, 0, 0)] (pc' := 13) (ls' := [(0, .inr (.inr y0)), (1, .inr (.inr y1)), (2, .inl y2), (3, .inl y3), (4, .inl y4), (5, .inl y5)]) (st' := [.inl (Int32.ofNat (jZ m (jP m y0 0))), .inl y5]) (m2 := m) (by decide +kernel) rfl ⟨w1, w2, trivial⟩ ?_
  refine jS.br (i := .if_icmp .ge 195) (P := (Int32.ofNat (jZ m (jP m y0 0))) ≤ y5) (rest := []) rfl (by decide +kernel) (tgt := 208) (by decide) (fun c3 => ?_) (fun c3 => ?_)
  · replace H := jif_t c3 H
    replace H := Option.some.inj H
    subst H
    refine jS.loc' [0, 4] (ls' := [(0, .inr (.inr y0)), (4, .inl y4)]) rfl ?_
    exact h2 _ rfl
  · replace H := jif_f c3 H
    obtain ⟨w4, H⟩ := jgd_ok H
    obtain ⟨w5, H⟩ := jgd_ok H
    refine jS.adv O [(.aload_n 0, 0, 0, 0, 0, 0, 0), (.getfield 25, 0, 7, 0, 571, 0, 0), (.iload 5, 0, 0, 0, 0, 0, 0), (.iaload, 0, 1, 0, 0, 0, 0), (.bipush 15, 0, 0, 0, 0, (15 : Int32), 0), (.iand, 0, 0, 0, 0, 0, 0), (.istore 6, 0, 0, 0, 0, 0, 0), (.aload_n 0, 0, 0, 0, 0, 0, 0), (.getfield 25, 0, 7, 0, 571, 0, 0), (.iload 5, 0, 0, 0, 0, 0, 0), (.iaload, 0, 1, 0, 0, 0, 0), (.iconst 4, 0, 0, 0, 0, (4 : Int32), 0), (.iushr, 0, 0, 0, 0, 0, 0), (.istore 7, 0, 0, 0, 0, 0, 0), (.iload 6, 0, 0, 0, 0, 0, 0)] (pc' := 41) (ls' := [(7, .inl (jushr (jI m (jP m y0 0) y5.toNatClampNeg) (4 : Int32))), (6, .inl ((jI m (jP m y0 0) y5.toNatClampNeg) &&& (15 : Int32))), (0, .inr (.inr y0)), (1, .inr (.inr y1)), (2, .inl y2), (3, .inl y3), (4, .inl y4), (5, .inl y5)]) (st' := [.inl ((jI m (jP m y0 0) y5.toNatClampNeg) &&& (15 : Int32))]) (m2 := m) (by decide +kernel) rfl ⟨w1, ⟨w2, jib_ok w4⟩, w1, ⟨w2, jib_ok w5⟩, trivial⟩ ?_
    refine jS.br (i := .ifCond .eq 9) (P := ((jI m (jP m y0 0) y5.toNatClampNeg) &&& (15 : Int32)) = 0) (rest := []) rfl (by decide +kernel) (tgt := 50) (by decide) (fun c6 => ?_) (fun c6 => ?_)
    · replace H := jif_t c6 H
      refine jS.loc' [2, 3, 4, 5, 6, 7, 1, 0] (ls' := [(0, .inr (.inr y0)), (1, .inr (.inr y1)), (2, .inl y2), (3, .inl y3), (4, .inl y4), (5, .inl y5), (6, .inl ((jI m (jP m y0 0) y5.toNatClampNeg) &&& (15 : Int32))), (7, .inl (jushr (jI m (jP m y0 0) y5.toNatClampNeg) (4 : Int32)))]) rfl ?_
      exact ec_X7_valueFor_j50_l6 O hd hB H h1 h2
    · replace H := jif_f c6 H
      refine jS.adv O [(.iload 6, 0, 0, 0, 0, 0, 0), (.iconst 1, 0, 0, 0, 0, (1 : Int32), 0)] (pc' := 47) (ls' := [(7, .inl (jushr (jI m (jP m y0 0) y5.toNatClampNeg) (4 : Int32))), (6, .inl ((jI m (jP m y0 0) y5.toNatClampNeg) &&& (15 : Int32))), (0, .inr (.inr y0)), (1, .inr (.inr y1)), (2, .inl y2), (3, .inl y3), (4, .inl y4), (5, .inl y5)]) (st' := [.inl (1 : Int32), .inl ((jI m (jP m y0 0) y5.toNatClampNeg) &&& (15 : Int32))]) (m2 := m) (by decide +kernel) rfl trivial ?_
      refine jS.br (i := .if_icmp .ne 43) (P := ¬ ((jI m (jP m y0 0) y5.toNatClampNeg) &&& (15 : Int32)) = (1 : Int32)) (rest := []) rfl (by decide +kernel) (tgt := 90) (by decide) (fun c14 => ?_) (fun c14 => ?_)
      · replace H := jif_f c14 H
        refine jS.adv O [(.iload 6, 0, 0, 0, 0, 0, 0), (.iconst 2, 0, 0, 0, 0, (2 : Int32), 0)] (pc' := 93) (ls' := [(7, .inl (jushr (jI m (jP m y0 0) y5.toNatClampNeg) (4 : Int32))), (6, .inl ((jI m (jP m y0 0) y5.toNatClampNeg) &&& (15 : Int32))), (0, .inr (.inr y0)), (1, .inr (.inr y1)), (2, .inl y2), (3, .inl y3), (4, .inl y4), (5, .inl y5)]) (st' := [.inl (2 : Int32), .inl ((jI m (jP m y0 0) y5.toNatClampNeg) &&& (15 : Int32))]) (m2 := m) (by decide +kernel) rfl trivial ?_
        refine jS.br (i := .if_icmp .eq 9) (P := ((jI m (jP m y0 0) y5.toNatClampNeg) &&& (15 : Int32)) = (2 : Int32)) (rest := []) rfl (by decide +kernel) (tgt := 102) (by decide) (fun c15 => ?_) (fun c15 => ?_)
        · replace H := jif_t c15 H
          refine jS.loc' [2, 3, 4, 5, 6, 7, 1] (ls' := [(0, .inr (.inr y0)), (1, .inr (.inr y1)), (2, .inl y2), (3, .inl y3), (4, .inl y4), (5, .inl y5), (6, .inl ((jI m (jP m y0 0) y5.toNatClampNeg) &&& (15 : Int32)))]) rfl ?_
          exact ec_X7_valueFor_j102_l6 O hd hB H h1 h2
        · replace H := jif_f c15 H
          refine jS.adv O [(.iload 6, 0, 0, 0, 0, 0, 0), (.iconst 3, 0, 0, 0, 0, (3 : Int32), 0)] (pc' := 99) (ls' := [(7, .inl (jushr (jI m (jP m y0 0) y5.toNatClampNeg) (4 : Int32))), (6, .inl ((jI m (jP m y0 0) y5.toNatClampNeg) &&& (15 : Int32))), (0, .inr (.inr y0)), (1, .inr (.inr y1)), (2, .inl y2), (3, .inl y3), (4, .inl y4), (5, .inl y5)]) (st' := [.inl (3 : Int32), .inl ((jI m (jP m y0 0) y5.toNatClampNeg) &&& (15 : Int32))]) (m2 := m) (by decide +kernel) rfl trivial ?_
          refine jS.br (i := .if_icmp .ne 62) (P := ¬ ((jI m (jP m y0 0) y5.toNatClampNeg) &&& (15 : Int32)) = (3 : Int32)) (rest := []) rfl (by decide +kernel) (tgt := 161) (by decide) (fun c28 => ?_) (fun c28 => ?_)
          · replace H := jif_f c28 H
            refine jS.adv O [(.iload 4, 0, 0, 0, 0, 0, 0), (.iconst 2, 0, 0, 0, 0, (2 : Int32), 0)] (pc' := 164) (ls' := [(7, .inl (jushr (jI m (jP m y0 0) y5.toNatClampNeg) (4 : Int32))), (6, .inl ((jI m (jP m y0 0) y5.toNatClampNeg) &&& (15 : Int32))), (0, .inr (.inr y0)), (1, .inr (.inr y1)), (2, .inl y2), (3, .inl y3), (4, .inl y4), (5, .inl y5)]) (st' := [.inl (2 : Int32), .inl y4]) (m2 := m) (by decide +kernel) rfl trivial ?_
            refine jS.br (i := .if_icmp .ge 5) (P := (2 : Int32) ≤ y4) (rest := []) rfl (by decide +kernel) (tgt := 169) (by decide) (fun c29 => ?_) (fun c29 => ?_)
            · replace H := jif_t c29 H
              obtain ⟨w30, H⟩ := jgd_ok H
              obtain ⟨w31, H⟩ := jgd_ok H
              obtain ⟨w32, H⟩ := jgd_ok H
              refine jS.adv O [(.iinc 4 (-1), 0, 0, 0, 0, (-1 : Int32), 0), (.aload_n 0, 0, 0, 0, 0, 0, 0), (.getfield 9, 0, 7, 1, 572, 0, 0), (.iload 4, 0, 0, 0, 0, 0, 0), (.iconst 1, 0, 0, 0, 0, (1 : Int32), 0), (.isub, 0, 0, 0, 0, 0, 0), (.iload 6, 0, 0, 0, 0, 0, 0), (.aload_n 0, 0, 0, 0, 0, 0, 0), (.getfield 9, 0, 7, 1, 572, 0, 0), (.iload 4, 0, 0, 0, 0, 0, 0), (.iconst 1, 0, 0, 0, 0, (1 : Int32), 0), (.isub, 0, 0, 0, 0, 0, 0), (.iaload, 0, 1, 0, 0, 0, 0), (.aload_n 0, 0, 0, 0, 0, 0, 0), (.getfield 9, 0, 7, 1, 572, 0, 0), (.iload 4, 0, 0, 0, 0, 0, 0), (.iaload, 0, 1, 0, 0, 0, 0)] (pc' := 198) (ls' := [(4, .inl (y4 + (-1 : Int32))), (7, .inl (jushr (jI m (jP m y0 0) y5.toNatClampNeg) (4 : Int32))), (6, .inl ((jI m (jP m y0 0) y5.toNatClampNeg) &&& (15 : Int32))), (0, .inr (.inr y0)), (1, .inr (.inr y1)), (2, .inl y2), (3, .inl y3), (5, .inl y5)]) (st' := [.inl (jI m (jP m y0 1) (y4 + (-1 : Int32)).toNatClampNeg), .inl (jI m (jP m y0 1) ((y4 + (-1 : Int32)) - (1 : Int32)).toNatClampNeg), .inl ((jI m (jP m y0 0) y5.toNatClampNeg) &&& (15 : Int32)), .inl ((y4 + (-1 : Int32)) - (1 : Int32)), .inr (.inr (jP m y0 1))]) (m2 := m) (by decide +kernel) rfl ⟨w1, w1, ⟨w30, jib_ok w31⟩, w1, ⟨w30, jib_ok w32⟩, trivial⟩ ?_
              obtain ⟨t34, w33, H⟩ := jb_ok H
              refine jS.step (c' := (201, [(4, .inl (y4 + (-1 : Int32))), (7, .inl (jushr (jI m (jP m y0 0) y5.toNatClampNeg) (4 : Int32))), (6, .inl ((jI m (jP m y0 0) y5.toNatClampNeg) &&& (15 : Int32))), (0, .inr (.inr y0)), (1, .inr (.inr y1)), (2, .inl y2), (3, .inl y3), (5, .inl y5)], [.inl t34, .inl ((y4 + (-1 : Int32)) - (1 : Int32)), .inr (.inr (jP m y0 1))], m)) (jSt.callS (As := [.inl ((jI m (jP m y0 0) y5.toNatClampNeg) &&& (15 : Int32)), .inl (jI m (jP m y0 1) ((y4 + (-1 : Int32)) - (1 : Int32)).toNatClampNeg), .inl (jI m (jP m y0 1) (y4 + (-1 : Int32)).toNatClampNeg)]) (rest := [.inl ((y4 + (-1 : Int32)) - (1 : Int32)), .inr (.inr (jP m y0 1))]) O (ec_X7_joined (d := 3) O (Nat.le_refl _) w33) (by omega) jmw_X7_joined jmv_X7_joined jmn_X7_joined (idx := 36) (jW_of 741 (by decide +kernel) rfl) (Nat.le_of_ble_eq_true rfl) (by decide +kernel)) ?_
              obtain ⟨w35, H⟩ := jgd_ok H
              refine jS.adv O [(.iastore, 0, 0, 0, 0, 0, 0), (.iinc 5 1, 0, 0, 0, 0, (1 : Int32), 0), (.goto (-199), 0, 6, 0, 0, 0, 0)] (pc' := 6) (ls' := [(5, .inl (y5 + (1 : Int32))), (4, .inl (y4 + (-1 : Int32))), (7, .inl (jushr (jI m (jP m y0 0) y5.toNatClampNeg) (4 : Int32))), (6, .inl ((jI m (jP m y0 0) y5.toNatClampNeg) &&& (15 : Int32))), (0, .inr (.inr y0)), (1, .inr (.inr y1)), (2, .inl y2), (3, .inl y3)]) (st' := []) (m2 := (jsI m (jP m y0 1) ((y4 + (-1 : Int32)) - (1 : Int32)).toNatClampNeg t34)) (by decide +kernel) rfl ⟨⟨w30, jib_ok w35⟩, trivial⟩ ?_
              refine jS.loc' [4, 5, 6, 7, 1, 0] (ls' := [(0, .inr (.inr y0)), (1, .inr (.inr y1)), (2, .inl y2), (3, .inl y3), (4, .inl (y4 + (-1 : Int32))), (5, .inl (y5 + (1 : Int32)))]) rfl ?_
              exact hB _ _ _ _ _ _ _ _ H h1 h2
            · replace H := jif_f c29 H
              refine jS.adv O [(.iconst 0, 0, 0, 0, 0, (0 : Int32), 0)] (pc' := 168) (ls' := [(7, .inl (jushr (jI m (jP m y0 0) y5.toNatClampNeg) (4 : Int32))), (6, .inl ((jI m (jP m y0 0) y5.toNatClampNeg) &&& (15 : Int32))), (0, .inr (.inr y0)), (1, .inr (.inr y1)), (2, .inl y2), (3, .inl y3), (4, .inl y4), (5, .inl y5)]) (st' := [.inl (0 : Int32)]) (m2 := m) (by decide +kernel) rfl trivial ?_
              replace H := Option.some.inj H
              subst H
              obtain ⟨q1, q2⟩ := h1 _ rfl
              subst q1; subst q2
              exact jS.iret rfl (by decide +kernel)
          · replace H := jif_t (Classical.not_not.mp c28) H
            refine jS.loc' [2, 3, 4, 5, 6, 7, 1] (ls' := [(0, .inr (.inr y0)), (1, .inr (.inr y1)), (2, .inl y2), (3, .inl y3), (4, .inl y4), (5, .inl y5), (6, .inl ((jI m (jP m y0 0) y5.toNatClampNeg) &&& (15 : Int32)))]) rfl ?_
            exact ec_X7_valueFor_j102_l6 O hd hB H h1 h2
      · replace H := jif_t (Classical.not_not.mp c14) H
        refine jS.loc' [2, 3, 4, 5, 6, 7, 1, 0] (ls' := [(0, .inr (.inr y0)), (1, .inr (.inr y1)), (2, .inl y2), (3, .inl y3), (4, .inl y4), (5, .inl y5), (6, .inl ((jI m (jP m y0 0) y5.toNatClampNeg) &&& (15 : Int32))), (7, .inl (jushr (jI m (jP m y0 0) y5.toNatClampNeg) (4 : Int32)))]) rfl ?_
        exact ec_X7_valueFor_j50_l6 O hd hB H h1 h2
def c_X7_valueFor_l6 (F : Nat) : Nat → jMe → Nat → Nat → Int32 → Int32 → Int32 → Int32 → Option ((Int32 × jMe) ⊕ (jMe × Nat × Int32))
  | 0, _, _, _, _, _, _, _ => none
  | n + 1, m, y0, y1, y2, y3, y4, y5 => c_X7_valueFor_l6_b F (fun m y0 y1 y2 y3 y4 y5 => c_X7_valueFor_l6 F n m y0 y1 y2 y3 y4 y5) m y0 y1 y2 y3 y4 y5
theorem ec_X7_valueFor_l6 {X : jX} {l : Launch} {d : Nat} (O : jOk X) (hd : 4 ≤ d) {F : Nat} {m0 m' : jMe} {v : Option jAV} : ∀ (n : Nat) {m : jMe} {y0 : Nat} {y1 : Nat} {y2 : Int32} {y3 : Int32} {y4 : Int32} {y5 : Int32} {r : (Int32 × jMe) ⊕ (jMe × Nat × Int32)} (H : c_X7_valueFor_l6 F n m y0 y1 y2 y3 y4 y5 = some r) (h1 : ∀ q, r = .inl q → v = (some (.inl q.1)) ∧ m' = q.2) (h2 : ∀ e, r = .inr e → jS X l d jm_X7_valueFor m0 v m' (208, [(0, .inr (.inr e.2.1)), (4, .inl e.2.2)], [], e.1)), jS X l d jm_X7_valueFor m0 v m' (6, [(0, .inr (.inr y0)), (1, .inr (.inr y1)), (2, .inl y2), (3, .inl y3), (4, .inl y4), (5, .inl y5)], [], m) := by
  intro n
  induction n with
  | zero =>
    intro m y0 y1 y2 y3 y4 y5 r H h1 h2
    cases (show none = some r from H)
  | succ n ih =>
    intro m y0 y1 y2 y3 y4 y5 r H h1 h2
    exact ec_X7_valueFor_l6_b O hd (B := (fun m y0 y1 y2 y3 y4 y5 => c_X7_valueFor_l6 F n m y0 y1 y2 y3 y4 y5)) (fun m y0 y1 y2 y3 y4 y5 r H h1 h2 => ih H h1 h2) H h1 h2
def c_X7_valueFor (F : Nat) (m : jMe) (x0 : Nat) (x1 : Nat) (x2 : Int32) (x3 : Int32) : Option (Int32 × jMe) :=
  jb2 (c_X7_valueFor_l6 F F m x0 x1 x2 x3 (0 : Int32) (0 : Int32)) (fun q => some q) fun e37 => (if (1 : Int32) ≤ e37.2.2 then jgd (jK e37.1 e37.2.1 = 39) <| jgd (jK e37.1 (jP e37.1 e37.2.1 1) = 1) <| jgd (jin (e37.2.2 - (1 : Int32)) (jZ e37.1 (jP e37.1 e37.2.1 1)) = true) <| some ((jI e37.1 (jP e37.1 e37.2.1 1) (e37.2.2 - (1 : Int32)).toNatClampNeg), e37.1) else some ((0 : Int32), e37.1))
theorem ec_X7_valueFor {X : jX} {l : Launch} {d : Nat} (O : jOk X) (hd : 4 ≤ d) {F : Nat} {m : jMe} {x0 : Nat} {x1 : Nat} {x2 : Int32} {x3 : Int32} {r : Int32 × jMe} (H : c_X7_valueFor F m x0 x1 x2 x3 = some r) : jH X l d jm_X7_valueFor [.inr (.inr x0), .inr (.inr x1), .inl x2, .inl x3] m (some (.inl r.1)) r.2 := by
  refine jH.of jpl_RX7 rfl (Nat.le_of_ble_eq_true rfl) ?_
  show jS X l d jm_X7_valueFor m _ _ (0, [(0, .inr (.inr x0)), (1, .inr (.inr x1)), (2, .inl x2), (3, .inl x3)], [], m)
  unfold c_X7_valueFor at H
  refine jS.adv O [(.iconst 0, 0, 0, 0, 0, (0 : Int32), 0), (.istore 4, 0, 0, 0, 0, 0, 0), (.iconst 0, 0, 0, 0, 0, (0 : Int32), 0), (.istore 5, 0, 0, 0, 0, 0, 0)] (pc' := 6) (ls' := [(5, .inl (0 : Int32)), (4, .inl (0 : Int32)), (0, .inr (.inr x0)), (1, .inr (.inr x1)), (2, .inl x2), (3, .inl x3)]) (st' := []) (m2 := m) (by decide +kernel) rfl trivial ?_
  refine jS.loc' [2, 3, 4, 5, 1, 0] (ls' := [(0, .inr (.inr x0)), (1, .inr (.inr x1)), (2, .inl x2), (3, .inl x3), (4, .inl (0 : Int32)), (5, .inl (0 : Int32))]) rfl ?_
  rcases jb2_ok H with ⟨q36, w38, H⟩ | ⟨e37, w38, H⟩
  · refine ec_X7_valueFor_l6 O hd F w38 (fun q2 hq2 => ?_) (fun e2 he2 => by cases he2)
    cases hq2
    cases H
    exact ⟨rfl, rfl⟩
  · refine ec_X7_valueFor_l6 O hd F w38 (fun q2 hq2 => by cases hq2) (fun e2 he2 => ?_)
    cases he2
    refine jS.adv O [(.iload 4, 0, 0, 0, 0, 0, 0), (.iconst 1, 0, 0, 0, 0, (1 : Int32), 0)] (pc' := 211) (ls' := [(0, .inr (.inr e37.2.1)), (4, .inl e37.2.2)]) (st' := [.inl (1 : Int32), .inl e37.2.2]) (m2 := e37.1) (by decide +kernel) rfl trivial ?_
    refine jS.br (i := .if_icmp .ge 7) (P := (1 : Int32) ≤ e37.2.2) (rest := []) rfl (by decide +kernel) (tgt := 218) (by decide) (fun c39 => ?_) (fun c39 => ?_)
    · replace H := jif_t c39 H
      obtain ⟨w40, H⟩ := jgd_ok H
      obtain ⟨w41, H⟩ := jgd_ok H
      obtain ⟨w42, H⟩ := jgd_ok H
      refine jS.adv O [(.aload_n 0, 0, 0, 0, 0, 0, 0), (.getfield 9, 0, 7, 1, 572, 0, 0), (.iload 4, 0, 0, 0, 0, 0, 0), (.iconst 1, 0, 0, 0, 0, (1 : Int32), 0), (.isub, 0, 0, 0, 0, 0, 0), (.iaload, 0, 1, 0, 0, 0, 0)] (pc' := 227) (ls' := [(0, .inr (.inr e37.2.1)), (4, .inl e37.2.2)]) (st' := [.inl (jI e37.1 (jP e37.1 e37.2.1 1) (e37.2.2 - (1 : Int32)).toNatClampNeg)]) (m2 := e37.1) (by decide +kernel) rfl ⟨w40, ⟨w41, jib_ok w42⟩, trivial⟩ ?_
      replace H := Option.some.inj H
      subst H
      exact jS.iret rfl (by decide +kernel)
    · replace H := jif_f c39 H
      refine jS.adv O [(.iconst 0, 0, 0, 0, 0, (0 : Int32), 0), (.goto 12, 0, 227, 0, 0, 0, 0)] (pc' := 227) (ls' := [(0, .inr (.inr e37.2.1)), (4, .inl e37.2.2)]) (st' := [.inl (0 : Int32)]) (m2 := e37.1) (by decide +kernel) rfl trivial ?_
      replace H := Option.some.inj H
      subst H
      exact jS.iret rfl (by decide +kernel)
def c_X4_passing_l5_b (F : Nat) (B : jMe → Nat → Nat → Int32 → Int32 → Int32 → Option (jMe × Int32)) (m : jMe) (y0 : Nat) (y1 : Nat) (y2 : Int32) (y3 : Int32) (y4 : Int32) : Option (jMe × Int32) :=
  jgd (jK m y0 = 36) <| (if (jI m y0 5) ≤ y4 then some (m, y3) else jb (c_X4_isLive F m y0 y4) fun t4 => (if t4 = 0 then B m y0 y1 y2 y3 (y4 + (1 : Int32)) else jgd (jK m y1 = 39) <| jb (c_X7_valueFor F m y1 y0 y2 y4) fun t8 => (if t8.1 = 0 then B t8.2 y0 y1 y2 y3 (y4 + (1 : Int32)) else B t8.2 y0 y1 y2 (y3 ||| (jshl (1 : Int32) y4)) (y4 + (1 : Int32)))))
theorem ec_X4_passing_l5_b {X : jX} {l : Launch} {d : Nat} (O : jOk X) (hd : 5 ≤ d) {F : Nat} {m0 m' : jMe} {v : Option jAV} {B : jMe → Nat → Nat → Int32 → Int32 → Int32 → Option (jMe × Int32)} (hB : ∀ (m : jMe) (y0 : Nat) (y1 : Nat) (y2 : Int32) (y3 : Int32) (y4 : Int32) (r : jMe × Int32), B m y0 y1 y2 y3 y4 = some r → (jS X l d jm_X4_passing m0 v m' (47, [(3, .inl r.2)], [], r.1)) → jS X l d jm_X4_passing m0 v m' (5, [(0, .inr (.inr y0)), (1, .inr (.inr y1)), (2, .inl y2), (3, .inl y3), (4, .inl y4)], [], m)) {m : jMe} {y0 : Nat} {y1 : Nat} {y2 : Int32} {y3 : Int32} {y4 : Int32} {r : jMe × Int32} (H : c_X4_passing_l5_b F B m y0 y1 y2 y3 y4 = some r) (h2 : jS X l d jm_X4_passing m0 v m' (47, [(3, .inl r.2)], [], r.1)) : jS X l d jm_X4_passing m0 v m' (5, [(0, .inr (.inr y0)), (1, .inr (.inr y1)), (2, .inl y2), (3, .inl y3), (4, .inl y4)], [], m) := by
  unfold c_X4_passing_l5_b at H
  obtain ⟨w1, H⟩ := jgd_ok H
  refine jS.adv O [(.iload 4, 0, 0, 0, 0, 0, 0), (.aload_n 0, 0, 0, 0, 0, 0, 0), (.getfield 28, 0, 4, 5, 507, 0, 0)] (pc' := 11) (ls' := [(0, .inr (.inr y0)), (1, .inr (.inr y1)), (2, .inl y2), (3, .inl y3), (4, .inl y4)]) (st' := [.inl (jI m y0 5), .inl y4]) (m2 := m) (by decide +kernel) rfl ⟨w1, trivial⟩ ?_
  refine jS.br (i := .if_icmp .ge 36) (P := (jI m y0 5) ≤ y4) (rest := []) rfl (by decide +kernel) (tgt := 47) (by decide) (fun c2 => ?_) (fun c2 => ?_)
  · replace H := jif_t c2 H
    replace H := Option.some.inj H
    subst H
    refine jS.loc' [3] (ls' := [(3, .inl y3)]) rfl ?_
    exact h2
  · replace H := jif_f c2 H
    refine jS.adv O [(.aload_n 0, 0, 0, 0, 0, 0, 0), (.iload 4, 0, 0, 0, 0, 0, 0)] (pc' := 17) (ls' := [(0, .inr (.inr y0)), (1, .inr (.inr y1)), (2, .inl y2), (3, .inl y3), (4, .inl y4)]) (st' := [.inl y4, .inr (.inr y0)]) (m2 := m) (by decide +kernel) rfl trivial ?_
    obtain ⟨t4, w3, H⟩ := jb_ok H
    refine jS.step (c' := (20, [(0, .inr (.inr y0)), (1, .inr (.inr y1)), (2, .inl y2), (3, .inl y3), (4, .inl y4)], [.inl t4], m)) (jSt.callV (c := 4) (As := [.inl y4]) (rest := []) O (ec_X4_isLive (d := 3) O (Nat.le_refl _) w3) w1 (by decide) rfl (by omega) jmw_X4_isLive jmv_X4_isLive jmn_X4_isLive (idx := 48) (jW_of 665 (by decide +kernel) rfl) (Nat.le_of_ble_eq_true rfl) (by decide +kernel)) ?_
    refine jS.br (i := .ifCond .eq 21) (P := t4 = 0) (rest := []) rfl (by decide +kernel) (tgt := 41) (by decide) (fun c5 => ?_) (fun c5 => ?_)
    · replace H := jif_t c5 H
      refine jS.adv O [(.iinc 4 1, 0, 0, 0, 0, (1 : Int32), 0), (.goto (-39), 0, 5, 0, 0, 0, 0)] (pc' := 5) (ls' := [(4, .inl (y4 + (1 : Int32))), (0, .inr (.inr y0)), (1, .inr (.inr y1)), (2, .inl y2), (3, .inl y3)]) (st' := []) (m2 := m) (by decide +kernel) rfl trivial ?_
      refine jS.loc' [1, 2, 3, 4, 0] (ls' := [(0, .inr (.inr y0)), (1, .inr (.inr y1)), (2, .inl y2), (3, .inl y3), (4, .inl (y4 + (1 : Int32)))]) rfl ?_
      exact hB _ _ _ _ _ _ _ H h2
    · replace H := jif_f c5 H
      obtain ⟨w6, H⟩ := jgd_ok H
      refine jS.adv O [(.aload_n 1, 0, 0, 0, 0, 0, 0), (.aload_n 0, 0, 0, 0, 0, 0, 0), (.iload_n 2, 0, 0, 0, 0, 0, 0), (.iload 4, 0, 0, 0, 0, 0, 0)] (pc' := 28) (ls' := [(0, .inr (.inr y0)), (1, .inr (.inr y1)), (2, .inl y2), (3, .inl y3), (4, .inl y4)]) (st' := [.inl y4, .inl y2, .inr (.inr y0), .inr (.inr y1)]) (m2 := m) (by decide +kernel) rfl trivial ?_
      obtain ⟨t8, w7, H⟩ := jb_ok H
      refine jS.step (c' := (31, [(0, .inr (.inr y0)), (1, .inr (.inr y1)), (2, .inl y2), (3, .inl y3), (4, .inl y4)], [.inl t8.1], t8.2)) (jSt.callV (c := 7) (As := [.inr (.inr y0), .inl y2, .inl y4]) (rest := []) O (ec_X7_valueFor (d := 4) O (Nat.le_refl _) w7) w6 (by decide) rfl (by omega) jmw_X7_valueFor jmv_X7_valueFor jmn_X7_valueFor (idx := 73) (jW_of 730 (by decide +kernel) rfl) (Nat.le_of_ble_eq_true rfl) (by decide +kernel)) ?_
      refine jS.br (i := .ifCond .eq 10) (P := t8.1 = 0) (rest := []) rfl (by decide +kernel) (tgt := 41) (by decide) (fun c9 => ?_) (fun c9 => ?_)
      · replace H := jif_t c9 H
        refine jS.adv O [(.iinc 4 1, 0, 0, 0, 0, (1 : Int32), 0), (.goto (-39), 0, 5, 0, 0, 0, 0)] (pc' := 5) (ls' := [(4, .inl (y4 + (1 : Int32))), (0, .inr (.inr y0)), (1, .inr (.inr y1)), (2, .inl y2), (3, .inl y3)]) (st' := []) (m2 := t8.2) (by decide +kernel) rfl trivial ?_
        refine jS.loc' [1, 2, 3, 4, 0] (ls' := [(0, .inr (.inr y0)), (1, .inr (.inr y1)), (2, .inl y2), (3, .inl y3), (4, .inl (y4 + (1 : Int32)))]) rfl ?_
        exact hB _ _ _ _ _ _ _ H h2
      · replace H := jif_f c9 H
        refine jS.adv O [(.iload_n 3, 0, 0, 0, 0, 0, 0), (.iconst 1, 0, 0, 0, 0, (1 : Int32), 0), (.iload 4, 0, 0, 0, 0, 0, 0), (.ishl, 0, 0, 0, 0, 0, 0), (.ior, 0, 0, 0, 0, 0, 0), (.istore_n 3, 0, 0, 0, 0, 0, 0), (.iinc 4 1, 0, 0, 0, 0, (1 : Int32), 0), (.goto (-39), 0, 5, 0, 0, 0, 0)] (pc' := 5) (ls' := [(4, .inl (y4 + (1 : Int32))), (3, .inl (y3 ||| (jshl (1 : Int32) y4))), (0, .inr (.inr y0)), (1, .inr (.inr y1)), (2, .inl y2)]) (st' := []) (m2 := t8.2) (by decide +kernel) rfl trivial ?_
        refine jS.loc' [2, 3, 4, 1, 0] (ls' := [(0, .inr (.inr y0)), (1, .inr (.inr y1)), (2, .inl y2), (3, .inl (y3 ||| (jshl (1 : Int32) y4))), (4, .inl (y4 + (1 : Int32)))]) rfl ?_
        exact hB _ _ _ _ _ _ _ H h2
def c_X4_passing_l5 (F : Nat) : Nat → jMe → Nat → Nat → Int32 → Int32 → Int32 → Option (jMe × Int32)
  | 0, _, _, _, _, _, _ => none
  | n + 1, m, y0, y1, y2, y3, y4 => c_X4_passing_l5_b F (fun m y0 y1 y2 y3 y4 => c_X4_passing_l5 F n m y0 y1 y2 y3 y4) m y0 y1 y2 y3 y4
theorem ec_X4_passing_l5 {X : jX} {l : Launch} {d : Nat} (O : jOk X) (hd : 5 ≤ d) {F : Nat} {m0 m' : jMe} {v : Option jAV} : ∀ (n : Nat) {m : jMe} {y0 : Nat} {y1 : Nat} {y2 : Int32} {y3 : Int32} {y4 : Int32} {r : jMe × Int32} (H : c_X4_passing_l5 F n m y0 y1 y2 y3 y4 = some r) (h2 : jS X l d jm_X4_passing m0 v m' (47, [(3, .inl r.2)], [], r.1)), jS X l d jm_X4_passing m0 v m' (5, [(0, .inr (.inr y0)), (1, .inr (.inr y1)), (2, .inl y2), (3, .inl y3), (4, .inl y4)], [], m) := by
  intro n
  induction n with
  | zero =>
    intro m y0 y1 y2 y3 y4 r H h2
    cases (show none = some r from H)
  | succ n ih =>
    intro m y0 y1 y2 y3 y4 r H h2
    exact ec_X4_passing_l5_b O hd (B := (fun m y0 y1 y2 y3 y4 => c_X4_passing_l5 F n m y0 y1 y2 y3 y4)) (fun m y0 y1 y2 y3 y4 r H h2 => ih H h2) H h2
def c_X4_passing (F : Nat) (m : jMe) (x0 : Nat) (x1 : Nat) (x2 : Int32) : Option (Int32 × jMe) :=
  jb (c_X4_passing_l5 F F m x0 x1 x2 (0 : Int32) (0 : Int32)) fun e11 => some (e11.2, e11.1)
theorem ec_X4_passing {X : jX} {l : Launch} {d : Nat} (O : jOk X) (hd : 5 ≤ d) {F : Nat} {m : jMe} {x0 : Nat} {x1 : Nat} {x2 : Int32} {r : Int32 × jMe} (H : c_X4_passing F m x0 x1 x2 = some r) : jH X l d jm_X4_passing [.inr (.inr x0), .inr (.inr x1), .inl x2] m (some (.inl r.1)) r.2 := by
  refine jH.of jpl_RX4 rfl (Nat.le_of_ble_eq_true rfl) ?_
  show jS X l d jm_X4_passing m _ _ (0, [(0, .inr (.inr x0)), (1, .inr (.inr x1)), (2, .inl x2)], [], m)
  unfold c_X4_passing at H
  refine jS.adv O [(.iconst 0, 0, 0, 0, 0, (0 : Int32), 0), (.istore_n 3, 0, 0, 0, 0, 0, 0), (.iconst 0, 0, 0, 0, 0, (0 : Int32), 0), (.istore 4, 0, 0, 0, 0, 0, 0)] (pc' := 5) (ls' := [(4, .inl (0 : Int32)), (3, .inl (0 : Int32)), (0, .inr (.inr x0)), (1, .inr (.inr x1)), (2, .inl x2)]) (st' := []) (m2 := m) (by decide +kernel) rfl trivial ?_
  refine jS.loc' [2, 3, 4, 1, 0] (ls' := [(0, .inr (.inr x0)), (1, .inr (.inr x1)), (2, .inl x2), (3, .inl (0 : Int32)), (4, .inl (0 : Int32))]) rfl ?_
  obtain ⟨e11, w12, H⟩ := jb_ok H
  refine ec_X4_passing_l5 O hd F w12 ?_
  refine jS.adv O [(.iload_n 3, 0, 0, 0, 0, 0, 0)] (pc' := 48) (ls' := [(3, .inl e11.2)]) (st' := [.inl e11.2]) (m2 := e11.1) (by decide +kernel) rfl trivial ?_
  replace H := Option.some.inj H
  subst H
  exact jS.iret rfl (by decide +kernel)
def c_X4_worthOf (F : Nat) (m : jMe) (x0 : Nat) (x1 : Int32) : Option (Int64) :=
  jgd (jK m x0 = 36) <| (if (jI m x0 2) = (4 : Int32) then jgd (jK m (jP m x0 1) = 1) <| jgd (jin x1 (jZ m (jP m x0 1)) = true) <| some (Int32.toInt64 (if (9 : Int32) < (jI m (jP m x0 1) x1.toNatClampNeg) then (9 : Int32) else (jI m (jP m x0 1) x1.toNatClampNeg))) else if (jI m x0 2) = (5 : Int32) then jgd (jK m (jP m x0 1) = 1) <| jgd (jin x1 (jZ m (jP m x0 1)) = true) <| some ((2 : Int64) * (Int32.toInt64 (jI m (jP m x0 1) x1.toNatClampNeg))) else jgd (jK m (jP m x0 1) = 1) <| jgd (jin x1 (jZ m (jP m x0 1)) = true) <| some (Int32.toInt64 (jI m (jP m x0 1) x1.toNatClampNeg)))
theorem ec_X4_worthOf {X : jX} {l : Launch} {d : Nat} (O : jOk X) (hd : 2 ≤ d) {F : Nat} {m : jMe} {x0 : Nat} {x1 : Int32} {r : Int64} (H : c_X4_worthOf F m x0 x1 = some r) : jH X l d jm_X4_worthOf [.inr (.inr x0), .inl x1] m (some (.inr (.inl r))) m := by
  refine jH.of jpl_RX4 rfl (Nat.le_of_ble_eq_true rfl) ?_
  show jS X l d jm_X4_worthOf m _ _ (0, [(0, .inr (.inr x0)), (1, .inl x1)], [], m)
  unfold c_X4_worthOf at H
  obtain ⟨w1, H⟩ := jgd_ok H
  refine jS.adv O [(.aload_n 0, 0, 0, 0, 0, 0, 0), (.getfield 18, 0, 4, 2, 499, 0, 0)] (pc' := 4) (ls' := [(0, .inr (.inr x0)), (1, .inl x1)]) (st' := [.inl (jI m x0 2)]) (m2 := m) (by decide +kernel) rfl ⟨w1, trivial⟩ ?_
  by_cases c2 : (jI m x0 2) = (4 : Int32)
  · replace H := jif_t c2 H
    refine jS.lsw (dflt := 53) (ps := #[(4, 28), (5, 41)]) (off := 28) (len := 28) (tgt := 32) (by decide +kernel) (by decide) (by rw [c2]; rfl) (by decide) ?_
    obtain ⟨w3, H⟩ := jgd_ok H
    obtain ⟨w4, H⟩ := jgd_ok H
    refine jS.adv O [(.aload_n 0, 0, 0, 0, 0, 0, 0), (.getfield 15, 0, 4, 1, 495, 0, 0), (.iload_n 1, 0, 0, 0, 0, 0, 0), (.iaload, 0, 1, 0, 0, 0, 0), (.bipush 9, 0, 0, 0, 0, (9 : Int32), 0)] (pc' := 40) (ls' := [(0, .inr (.inr x0)), (1, .inl x1)]) (st' := [.inl (9 : Int32), .inl (jI m (jP m x0 1) x1.toNatClampNeg)]) (m2 := m) (by decide +kernel) rfl ⟨w1, ⟨w3, jib_ok w4⟩, trivial⟩ ?_
    refine jS.step (c' := (43, [(0, .inr (.inr x0)), (1, .inl x1)], [.inl (if (9 : Int32) < (jI m (jP m x0 1) x1.toNatClampNeg) then (9 : Int32) else (jI m (jP m x0 1) x1.toNatClampNeg))], m)) (jSt.mmin (idx := 66) (by omega) (jW_of 755 (by decide +kernel) rfl) (jW_of 566 (by decide +kernel) rfl) (jW_of 251 (by decide +kernel) rfl) (jW_of 567 (by decide +kernel) rfl) (Nat.le_of_ble_eq_true rfl) (by decide +kernel)) ?_
    refine jS.adv O [(.i2l, 0, 0, 0, 0, 0, 0)] (pc' := 44) (ls' := [(0, .inr (.inr x0)), (1, .inl x1)]) (st' := [.inr (.inl (Int32.toInt64 (if (9 : Int32) < (jI m (jP m x0 1) x1.toNatClampNeg) then (9 : Int32) else (jI m (jP m x0 1) x1.toNatClampNeg))))]) (m2 := m) (by decide +kernel) rfl trivial ?_
    replace H := Option.some.inj H
    subst H
    exact jS.lret rfl (by decide +kernel)
  replace H := jif_f c2 H
  by_cases c5 : (jI m x0 2) = (5 : Int32)
  · replace H := jif_t c5 H
    refine jS.lsw (dflt := 53) (ps := #[(4, 28), (5, 41)]) (off := 41) (len := 28) (tgt := 45) (by decide +kernel) (by decide) (by rw [c5]; rfl) (by decide) ?_
    obtain ⟨w6, H⟩ := jgd_ok H
    obtain ⟨w7, H⟩ := jgd_ok H
    refine jS.adv O [(.ldc2_w 71, 0, 756, 0, 0, 0, (2 : Int64)), (.aload_n 0, 0, 0, 0, 0, 0, 0), (.getfield 15, 0, 4, 1, 495, 0, 0), (.iload_n 1, 0, 0, 0, 0, 0, 0), (.iaload, 0, 1, 0, 0, 0, 0), (.i2l, 0, 0, 0, 0, 0, 0), (.lmul, 0, 0, 0, 0, 0, 0)] (pc' := 56) (ls' := [(0, .inr (.inr x0)), (1, .inl x1)]) (st' := [.inr (.inl ((2 : Int64) * (Int32.toInt64 (jI m (jP m x0 1) x1.toNatClampNeg))))]) (m2 := m) (by decide +kernel) rfl ⟨w1, ⟨w6, jib_ok w7⟩, trivial⟩ ?_
    replace H := Option.some.inj H
    subst H
    exact jS.lret rfl (by decide +kernel)
  replace H := jif_f c5 H
  refine jS.lsw (dflt := 53) (ps := #[(4, 28), (5, 41)]) (off := 53) (len := 28) (tgt := 57) (by decide +kernel) (by decide) (by simp [Op.lookupswitch.offset, jsw_ne c2 (k := 4) rfl, jsw_ne c5 (k := 5) rfl]) (by decide) ?_
  obtain ⟨w8, H⟩ := jgd_ok H
  obtain ⟨w9, H⟩ := jgd_ok H
  refine jS.adv O [(.aload_n 0, 0, 0, 0, 0, 0, 0), (.getfield 15, 0, 4, 1, 495, 0, 0), (.iload_n 1, 0, 0, 0, 0, 0, 0), (.iaload, 0, 1, 0, 0, 0, 0), (.i2l, 0, 0, 0, 0, 0, 0)] (pc' := 64) (ls' := [(0, .inr (.inr x0)), (1, .inl x1)]) (st' := [.inr (.inl (Int32.toInt64 (jI m (jP m x0 1) x1.toNatClampNeg)))]) (m2 := m) (by decide +kernel) rfl ⟨w1, ⟨w8, jib_ok w9⟩, trivial⟩ ?_
  replace H := Option.some.inj H
  subst H
  exact jS.lret rfl (by decide +kernel)
def c_X4_matches (F : Nat) (m : jMe) (x0 : Nat) (x1 : Int32) (x2 : Int32) (x3 : Int32) : Option (Int32) :=
  jgd (jK m x0 = 36) <| jgd (jK m (jP m x0 0) = 1) <| jgd (jin x1 (jZ m (jP m x0 0)) = true) <| (if ((((jI m (jP m x0 0) x1.toNatClampNeg) ^^^ x2) &&& (jI m x0 4)) &&& x3) = 0 then some (1 : Int32) else some (0 : Int32))
theorem ec_X4_matches {X : jX} {l : Launch} {d : Nat} (O : jOk X) (hd : 2 ≤ d) {F : Nat} {m : jMe} {x0 : Nat} {x1 : Int32} {x2 : Int32} {x3 : Int32} {r : Int32} (H : c_X4_matches F m x0 x1 x2 x3 = some r) : jH X l d jm_X4_matches [.inr (.inr x0), .inl x1, .inl x2, .inl x3] m (some (.inl r)) m := by
  refine jH.of jpl_RX4 rfl (Nat.le_of_ble_eq_true rfl) ?_
  show jS X l d jm_X4_matches m _ _ (0, [(0, .inr (.inr x0)), (1, .inl x1), (2, .inl x2), (3, .inl x3)], [], m)
  unfold c_X4_matches at H
  obtain ⟨w1, H⟩ := jgd_ok H
  obtain ⟨w2, H⟩ := jgd_ok H
  obtain ⟨w3, H⟩ := jgd_ok H
  refine jS.adv O [(.aload_n 0, 0, 0, 0, 0, 0, 0), (.getfield 9, 0, 4, 0, 491, 0, 0), (.iload_n 1, 0, 0, 0, 0, 0, 0), (.iaload, 0, 1, 0, 0, 0, 0), (.iload_n 2, 0, 0, 0, 0, 0, 0), (.ixor, 0, 0, 0, 0, 0, 0), (.aload_n 0, 0, 0, 0, 0, 0, 0), (.getfield 25, 0, 4, 4, 505, 0, 0), (.iand, 0, 0, 0, 0, 0, 0), (.iload_n 3, 0, 0, 0, 0, 0, 0), (.iand, 0, 0, 0, 0, 0, 0)] (pc' := 15) (ls' := [(0, .inr (.inr x0)), (1, .inl x1), (2, .inl x2), (3, .inl x3)]) (st' := [.inl ((((jI m (jP m x0 0) x1.toNatClampNeg) ^^^ x2) &&& (jI m x0 4)) &&& x3)]) (m2 := m) (by decide +kernel) rfl ⟨w1, ⟨w2, jib_ok w3⟩, w1, trivial⟩ ?_
  refine jS.br (i := .ifCond .ne 7) (P := ¬ ((((jI m (jP m x0 0) x1.toNatClampNeg) ^^^ x2) &&& (jI m x0 4)) &&& x3) = 0) (rest := []) rfl (by decide +kernel) (tgt := 22) (by decide) (fun c4 => ?_) (fun c4 => ?_)
  · replace H := jif_f c4 H
    refine jS.adv O [(.iconst 0, 0, 0, 0, 0, (0 : Int32), 0)] (pc' := 23) (ls' := [(0, .inr (.inr x0)), (1, .inl x1), (2, .inl x2), (3, .inl x3)]) (st' := [.inl (0 : Int32)]) (m2 := m) (by decide +kernel) rfl trivial ?_
    replace H := Option.some.inj H
    subst H
    exact jS.zret rfl (Or.inl rfl) (by decide +kernel)
  · replace H := jif_t (Classical.not_not.mp c4) H
    refine jS.adv O [(.iconst 1, 0, 0, 0, 0, (1 : Int32), 0), (.goto 4, 0, 23, 0, 0, 0, 0)] (pc' := 23) (ls' := [(0, .inr (.inr x0)), (1, .inl x1), (2, .inl x2), (3, .inl x3)]) (st' := [.inl (1 : Int32)]) (m2 := m) (by decide +kernel) rfl trivial ?_
    replace H := Option.some.inj H
    subst H
    exact jS.zret rfl (Or.inr rfl) (by decide +kernel)
def c_X4_init (F : Nat) (m : jMe) (x0 : Nat) : Option (jMe) :=
  jgd (¬ x0 = 0) <| jgd (¬ (8 : Int32) < 0 ∧ (8 : Int32).toNatClampNeg ≤ 10000) <| jlet (jnew m 1 (8 : Int32).toNatClampNeg (8 : Int32).toNatClampNeg) fun m3 => jgd (jK m3 x0 = 36) <| jgd (¬ (8 : Int32) < 0 ∧ (8 : Int32).toNatClampNeg ≤ 10000) <| jlet (jnew (jsP m3 x0 0 (32 + jN m)) 1 (8 : Int32).toNatClampNeg (8 : Int32).toNatClampNeg) fun m6 => jgd (jK m6 x0 = 36) <| jlet (jsI (jsI (jsI (jsI (jsI (jsP m6 x0 1 (32 + jN (jsP m3 x0 0 (32 + jN m)))) x0 2 (0 : Int32)) x0 3 (0 : Int32)) x0 4 (0 : Int32)) x0 5 (0 : Int32)) x0 6 (0 : Int32)) fun m8 => some m8
theorem ec_X4_init {X : jX} {l : Launch} {d : Nat} (O : jOk X) (hd : 2 ≤ d) {F : Nat} {m : jMe} {x0 : Nat} {r : jMe} (H : c_X4_init F m x0 = some r) : jH X l d jm_X4_init [.inr (.inr x0)] m none r := by
  refine jH.of jpl_RX4 rfl (Nat.le_of_ble_eq_true rfl) ?_
  show jS X l d jm_X4_init m _ _ (0, [(0, .inr (.inr x0))], [], m)
  unfold c_X4_init at H
  obtain ⟨w1, H⟩ := jgd_ok H
  refine jS.adv O [(.aload_n 0, 0, 0, 0, 0, 0, 0)] (pc' := 1) (ls' := [(0, .inr (.inr x0))]) (st' := [.inr (.inr x0)]) (m2 := m) (by decide +kernel) rfl trivial ?_
  refine jS.step (c' := (4, [(0, .inr (.inr x0))], [], m)) (jSt.obj (idx := 3) (by omega) w1 (jW_of 490 (by decide +kernel) rfl) (jW_of 267 (by decide +kernel) rfl) (jW_of 268 (by decide +kernel) rfl) (Nat.le_of_ble_eq_true rfl) (by decide +kernel)) ?_
  obtain ⟨w2, H⟩ := jgd_ok H
  obtain ⟨m3, em3, H⟩ := jlet_ok H
  refine jS.adv O [(.aload_n 0, 0, 0, 0, 0, 0, 0), (.bipush 8, 0, 0, 0, 0, (8 : Int32), 0), (.newarray .int, 0, 1, 313, 0, 0, 0)] (pc' := 9) (ls' := [(0, .inr (.inr x0))]) (st' := [.inr (.inr (32 + jN m)), .inr (.inr x0)]) (m2 := (jnew m 1 (8 : Int32).toNatClampNeg (8 : Int32).toNatClampNeg)) (by decide +kernel) rfl ⟨w2, trivial⟩ ?_
  refine jS.cast (c' := (9, [(0, .inr (.inr x0))], [.inr (.inr (32 + jN m)), .inr (.inr x0)], m3)) (by rw [em3]) ?_
  obtain ⟨w4, H⟩ := jgd_ok H
  obtain ⟨w5, H⟩ := jgd_ok H
  obtain ⟨m6, em6, H⟩ := jlet_ok H
  refine jS.adv O [(.putfield 9, 0, 4, 0, 491, 0, 0), (.aload_n 0, 0, 0, 0, 0, 0, 0), (.bipush 8, 0, 0, 0, 0, (8 : Int32), 0), (.newarray .int, 0, 1, 313, 0, 0, 0)] (pc' := 17) (ls' := [(0, .inr (.inr x0))]) (st' := [.inr (.inr (32 + jN (jsP m3 x0 0 (32 + jN m)))), .inr (.inr x0)]) (m2 := (jnew (jsP m3 x0 0 (32 + jN m)) 1 (8 : Int32).toNatClampNeg (8 : Int32).toNatClampNeg)) (by decide +kernel) rfl ⟨w4, w5, trivial⟩ ?_
  refine jS.cast (c' := (17, [(0, .inr (.inr x0))], [.inr (.inr (32 + jN (jsP m3 x0 0 (32 + jN m)))), .inr (.inr x0)], m6)) (by rw [em6]) ?_
  obtain ⟨w7, H⟩ := jgd_ok H
  obtain ⟨m8, em8, H⟩ := jlet_ok H
  refine jS.adv O [(.putfield 15, 0, 4, 1, 495, 0, 0), (.aload_n 0, 0, 0, 0, 0, 0, 0), (.iconst 0, 0, 0, 0, 0, (0 : Int32), 0), (.putfield 18, 0, 4, 2, 499, 0, 0), (.aload_n 0, 0, 0, 0, 0, 0, 0), (.iconst 0, 0, 0, 0, 0, (0 : Int32), 0), (.putfield 22, 0, 4, 3, 501, 0, 0), (.aload_n 0, 0, 0, 0, 0, 0, 0), (.iconst 0, 0, 0, 0, 0, (0 : Int32), 0), (.putfield 25, 0, 4, 4, 505, 0, 0), (.aload_n 0, 0, 0, 0, 0, 0, 0), (.iconst 0, 0, 0, 0, 0, (0 : Int32), 0), (.putfield 28, 0, 4, 5, 507, 0, 0), (.aload_n 0, 0, 0, 0, 0, 0, 0), (.iconst 0, 0, 0, 0, 0, (0 : Int32), 0), (.putfield 31, 0, 4, 6, 511, 0, 0)] (pc' := 45) (ls' := [(0, .inr (.inr x0))]) (st' := []) (m2 := (jsI (jsI (jsI (jsI (jsI (jsP m6 x0 1 (32 + jN (jsP m3 x0 0 (32 + jN m)))) x0 2 (0 : Int32)) x0 3 (0 : Int32)) x0 4 (0 : Int32)) x0 5 (0 : Int32)) x0 6 (0 : Int32))) (by decide +kernel) rfl ⟨w7, w7, w7, w7, w7, w7, trivial⟩ ?_
  refine jS.cast (c' := (45, [(0, .inr (.inr x0))], [], m8)) (by rw [em8]) ?_
  replace H := Option.some.inj H
  subst H
  exact jS.vret rfl (by decide +kernel)
def c_X4_begin_j59_l27 (F : Nat) (B : jMe → Nat → Int32 → Option (jMe)) (m : jMe) (y0 : Nat) (y3 : Int32) (s0 : Int32) (s1 : Int32) (s2 : Nat) : Option (jMe) :=
  jgd (jK m s2 = 36) <| B (jsI m s2 4 (s1 ||| s0)) y0 (y3 + (1 : Int32))
theorem ec_X4_begin_j59_l27 {X : jX} {l : Launch} {d : Nat} (O : jOk X) (hd : 3 ≤ d) {F : Nat} {m0 m' : jMe} {v : Option jAV} {B : jMe → Nat → Int32 → Option (jMe)} (hB : ∀ (m : jMe) (y0 : Nat) (y3 : Int32) (r : jMe), B m y0 y3 = some r → (jS X l d jm_X4_begin m0 v m' (69, [], [], r)) → jS X l d jm_X4_begin m0 v m' (27, [(0, .inr (.inr y0)), (3, .inl y3)], [], m)) {m : jMe} {y0 : Nat} {y3 : Int32} {s0 : Int32} {s1 : Int32} {s2 : Nat} {r : jMe} (H : c_X4_begin_j59_l27 F B m y0 y3 s0 s1 s2 = some r) (h2 : jS X l d jm_X4_begin m0 v m' (69, [], [], r)) : jS X l d jm_X4_begin m0 v m' (59, [(0, .inr (.inr y0)), (3, .inl y3)], [.inl s0, .inl s1, .inr (.inr s2)], m) := by
  unfold c_X4_begin_j59_l27 at H
  obtain ⟨w7, H⟩ := jgd_ok H
  refine jS.adv O [(.ior, 0, 0, 0, 0, 0, 0), (.putfield 25, 0, 4, 4, 505, 0, 0), (.iinc 3 1, 0, 0, 0, 0, (1 : Int32), 0), (.goto (-39), 0, 27, 0, 0, 0, 0)] (pc' := 27) (ls' := [(3, .inl (y3 + (1 : Int32))), (0, .inr (.inr y0))]) (st' := []) (m2 := (jsI m s2 4 (s1 ||| s0))) (by decide +kernel) rfl ⟨w7, trivial⟩ ?_
  refine jS.loc' [1, 0] (ls' := [(0, .inr (.inr y0)), (3, .inl (y3 + (1 : Int32)))]) rfl ?_
  exact hB _ _ _ _ H h2
def c_X4_begin_l27_b (F : Nat) (B : jMe → Nat → Int32 → Option (jMe)) (m : jMe) (y0 : Nat) (y3 : Int32) : Option (jMe) :=
  (if (6 : Int32) ≤ y3 then some (m) else jgd (jK m y0 = 36) <| jb (c_X9_isIn F m (jI m y0 3) y3) fun t5 => (if t5 = 0 then c_X4_begin_j59_l27 F B m y0 y3 (0 : Int32) (jI m y0 4) y0 else c_X4_begin_j59_l27 F B m y0 y3 (jshl (15 : Int32) ((4 : Int32) * y3)) (jI m y0 4) y0))
theorem ec_X4_begin_l27_b {X : jX} {l : Launch} {d : Nat} (O : jOk X) (hd : 3 ≤ d) {F : Nat} {m0 m' : jMe} {v : Option jAV} {B : jMe → Nat → Int32 → Option (jMe)} (hB : ∀ (m : jMe) (y0 : Nat) (y3 : Int32) (r : jMe), B m y0 y3 = some r → (jS X l d jm_X4_begin m0 v m' (69, [], [], r)) → jS X l d jm_X4_begin m0 v m' (27, [(0, .inr (.inr y0)), (3, .inl y3)], [], m)) {m : jMe} {y0 : Nat} {y3 : Int32} {r : jMe} (H : c_X4_begin_l27_b F B m y0 y3 = some r) (h2 : jS X l d jm_X4_begin m0 v m' (69, [], [], r)) : jS X l d jm_X4_begin m0 v m' (27, [(0, .inr (.inr y0)), (3, .inl y3)], [], m) := by
  unfold c_X4_begin_l27_b at H
  refine jS.adv O [(.iload_n 3, 0, 0, 0, 0, 0, 0), (.bipush 6, 0, 0, 0, 0, (6 : Int32), 0)] (pc' := 30) (ls' := [(0, .inr (.inr y0)), (3, .inl y3)]) (st' := [.inl (6 : Int32), .inl y3]) (m2 := m) (by decide +kernel) rfl trivial ?_
  refine jS.br (i := .if_icmp .ge 39) (P := (6 : Int32) ≤ y3) (rest := []) rfl (by decide +kernel) (tgt := 69) (by decide) (fun c2 => ?_) (fun c2 => ?_)
  · replace H := jif_t c2 H
    replace H := Option.some.inj H
    subst H
    refine jS.loc' [] (ls' := []) rfl ?_
    exact h2
  · replace H := jif_f c2 H
    obtain ⟨w3, H⟩ := jgd_ok H
    refine jS.adv O [(.aload_n 0, 0, 0, 0, 0, 0, 0), (.dup, 0, 0, 0, 0, 0, 0), (.getfield 25, 0, 4, 4, 505, 0, 0), (.aload_n 0, 0, 0, 0, 0, 0, 0), (.getfield 22, 0, 4, 3, 501, 0, 0), (.iload_n 3, 0, 0, 0, 0, 0, 0)] (pc' := 43) (ls' := [(0, .inr (.inr y0)), (3, .inl y3)]) (st' := [.inl y3, .inl (jI m y0 3), .inl (jI m y0 4), .inr (.inr y0)]) (m2 := m) (by decide +kernel) rfl ⟨w3, w3, trivial⟩ ?_
    obtain ⟨t5, w4, H⟩ := jb_ok H
    refine jS.step (c' := (46, [(0, .inr (.inr y0)), (3, .inl y3)], [.inl t5, .inl (jI m y0 4), .inr (.inr y0)], m)) (jSt.callSN (As := [.inl (jI m y0 3), .inl y3]) (rest := [.inl (jI m y0 4), .inr (.inr y0)]) O (ec_X9_isIn (d := 2) O (Nat.le_refl _) w4) (by omega) jmw_X9_isIn jmv_X9_isIn jmn_X9_isIn (host := "JoinDraws") (idx := 34) jln_JoinDraws_Relation_34 (Nat.le_of_ble_eq_true rfl) (by decide +kernel)) ?_
    refine jS.br (i := .ifCond .eq 12) (P := t5 = 0) (rest := [.inl (jI m y0 4), .inr (.inr y0)]) rfl (by decide +kernel) (tgt := 58) (by decide) (fun c6 => ?_) (fun c6 => ?_)
    · replace H := jif_t c6 H
      refine jS.adv O [(.iconst 0, 0, 0, 0, 0, (0 : Int32), 0)] (pc' := 59) (ls' := [(0, .inr (.inr y0)), (3, .inl y3)]) (st' := [.inl (0 : Int32), .inl (jI m y0 4), .inr (.inr y0)]) (m2 := m) (by decide +kernel) rfl trivial ?_
      refine jS.loc' [0, 1] (ls' := [(0, .inr (.inr y0)), (3, .inl y3)]) rfl ?_
      exact ec_X4_begin_j59_l27 O hd hB H h2
    · replace H := jif_f c6 H
      refine jS.adv O [(.bipush 15, 0, 0, 0, 0, (15 : Int32), 0), (.iconst 4, 0, 0, 0, 0, (4 : Int32), 0), (.iload_n 3, 0, 0, 0, 0, 0, 0), (.imul, 0, 0, 0, 0, 0, 0), (.ishl, 0, 0, 0, 0, 0, 0), (.goto 4, 0, 59, 0, 0, 0, 0)] (pc' := 59) (ls' := [(0, .inr (.inr y0)), (3, .inl y3)]) (st' := [.inl (jshl (15 : Int32) ((4 : Int32) * y3)), .inl (jI m y0 4), .inr (.inr y0)]) (m2 := m) (by decide +kernel) rfl trivial ?_
      refine jS.loc' [0, 1] (ls' := [(0, .inr (.inr y0)), (3, .inl y3)]) rfl ?_
      exact ec_X4_begin_j59_l27 O hd hB H h2
def c_X4_begin_l27 (F : Nat) : Nat → jMe → Nat → Int32 → Option (jMe)
  | 0, _, _, _ => none
  | n + 1, m, y0, y3 => c_X4_begin_l27_b F (fun m y0 y3 => c_X4_begin_l27 F n m y0 y3) m y0 y3
theorem ec_X4_begin_l27 {X : jX} {l : Launch} {d : Nat} (O : jOk X) (hd : 3 ≤ d) {F : Nat} {m0 m' : jMe} {v : Option jAV} : ∀ (n : Nat) {m : jMe} {y0 : Nat} {y3 : Int32} {r : jMe} (H : c_X4_begin_l27 F n m y0 y3 = some r) (h2 : jS X l d jm_X4_begin m0 v m' (69, [], [], r)), jS X l d jm_X4_begin m0 v m' (27, [(0, .inr (.inr y0)), (3, .inl y3)], [], m) := by
  intro n
  induction n with
  | zero =>
    intro m y0 y3 r H h2
    cases (show none = some r from H)
  | succ n ih =>
    intro m y0 y3 r H h2
    exact ec_X4_begin_l27_b O hd (B := (fun m y0 y3 => c_X4_begin_l27 F n m y0 y3)) (fun m y0 y3 r H h2 => ih H h2) H h2
def c_X4_begin (F : Nat) (m : jMe) (x0 : Nat) (x1 : Int32) (x2 : Int32) : Option (jMe) :=
  jgd (jK m x0 = 36) <| jb (c_X4_begin_l27 F F (jsI (jsI (jsI (jsI (jsI m x0 2 x1) x0 3 x2) x0 5 (0 : Int32)) x0 6 (0 : Int32)) x0 4 (0 : Int32)) x0 (0 : Int32)) fun e9 => some e9
theorem ec_X4_begin {X : jX} {l : Launch} {d : Nat} (O : jOk X) (hd : 3 ≤ d) {F : Nat} {m : jMe} {x0 : Nat} {x1 : Int32} {x2 : Int32} {r : jMe} (H : c_X4_begin F m x0 x1 x2 = some r) : jH X l d jm_X4_begin [.inr (.inr x0), .inl x1, .inl x2] m none r := by
  refine jH.of jpl_RX4 rfl (Nat.le_of_ble_eq_true rfl) ?_
  show jS X l d jm_X4_begin m _ _ (0, [(0, .inr (.inr x0)), (1, .inl x1), (2, .inl x2)], [], m)
  unfold c_X4_begin at H
  obtain ⟨w1, H⟩ := jgd_ok H
  refine jS.adv O [(.aload_n 0, 0, 0, 0, 0, 0, 0), (.iload_n 1, 0, 0, 0, 0, 0, 0), (.putfield 18, 0, 4, 2, 499, 0, 0), (.aload_n 0, 0, 0, 0, 0, 0, 0), (.iload_n 2, 0, 0, 0, 0, 0, 0), (.putfield 22, 0, 4, 3, 501, 0, 0), (.aload_n 0, 0, 0, 0, 0, 0, 0), (.iconst 0, 0, 0, 0, 0, (0 : Int32), 0), (.putfield 28, 0, 4, 5, 507, 0, 0), (.aload_n 0, 0, 0, 0, 0, 0, 0), (.iconst 0, 0, 0, 0, 0, (0 : Int32), 0), (.putfield 31, 0, 4, 6, 511, 0, 0), (.aload_n 0, 0, 0, 0, 0, 0, 0), (.iconst 0, 0, 0, 0, 0, (0 : Int32), 0), (.putfield 25, 0, 4, 4, 505, 0, 0), (.iconst 0, 0, 0, 0, 0, (0 : Int32), 0), (.istore_n 3, 0, 0, 0, 0, 0, 0)] (pc' := 27) (ls' := [(3, .inl (0 : Int32)), (0, .inr (.inr x0)), (1, .inl x1), (2, .inl x2)]) (st' := []) (m2 := (jsI (jsI (jsI (jsI (jsI m x0 2 x1) x0 3 x2) x0 5 (0 : Int32)) x0 6 (0 : Int32)) x0 4 (0 : Int32))) (by decide +kernel) rfl ⟨w1, w1, w1, w1, w1, trivial⟩ ?_
  refine jS.loc' [1, 0] (ls' := [(0, .inr (.inr x0)), (3, .inl (0 : Int32))]) rfl ?_
  obtain ⟨e9, w10, H⟩ := jb_ok H
  refine ec_X4_begin_l27 O hd F w10 ?_
  replace H := Option.some.inj H
  subst H
  exact jS.vret rfl (by decide +kernel)
def c_X4_isA (F : Nat) (m : jMe) (x0 : Nat) (x1 : Int32) : Option (Int32) :=
  jgd (jK m x0 = 36) <| jgd (jK m 1 = 9) <| (if (Int32.ofNat (jZ m 1)) ≤ (jI m x0 2) then some (0 : Int32) else jgd (jin (jI m x0 2) (jZ m 1) = true) <| jb (c_X9_isIn F m (jI m 1 (jI m x0 2).toNatClampNeg) x1) fun t6 => (if t6 = 0 then some (0 : Int32) else some (1 : Int32)))
theorem ec_X4_isA {X : jX} {l : Launch} {d : Nat} (O : jOk X) (hd : 3 ≤ d) {F : Nat} {m : jMe} {x0 : Nat} {x1 : Int32} {r : Int32} (H : c_X4_isA F m x0 x1 = some r) : jH X l d jm_X4_isA [.inr (.inr x0), .inl x1] m (some (.inl r)) m := by
  refine jH.of jpl_RX4 rfl (Nat.le_of_ble_eq_true rfl) ?_
  show jS X l d jm_X4_isA m _ _ (0, [(0, .inr (.inr x0)), (1, .inl x1)], [], m)
  unfold c_X4_isA at H
  obtain ⟨w1, H⟩ := jgd_ok H
  obtain ⟨w2, H⟩ := jgd_ok H
  refine jS.adv O [(.aload_n 0, 0, 0, 0, 0, 0, 0), (.getfield 18, 0, 4, 2, 499, 0, 0), (.getstatic 38, 0, 685, 0, 0, 0, 0)] (pc' := 7) (ls' := [(0, .inr (.inr x0)), (1, .inl x1)]) (st' := [.inr (.inr 1), .inl (jI m x0 2)]) (m2 := m) (by decide +kernel) rfl ⟨w1, trivial⟩ ?_
  refine jS.step (c' := (8, [(0, .inr (.inr x0)), (1, .inl x1)], [.inl (Int32.ofNat (jZ m 1)), .inl (jI m x0 2)], m)) (jSt.ilen O w2 (by decide +kernel)) ?_
  refine jS.br (i := .if_icmp .ge 22) (P := (Int32.ofNat (jZ m 1)) ≤ (jI m x0 2)) (rest := []) rfl (by decide +kernel) (tgt := 30) (by decide) (fun c3 => ?_) (fun c3 => ?_)
  · replace H := jif_t c3 H
    refine jS.adv O [(.iconst 0, 0, 0, 0, 0, (0 : Int32), 0)] (pc' := 31) (ls' := [(0, .inr (.inr x0)), (1, .inl x1)]) (st' := [.inl (0 : Int32)]) (m2 := m) (by decide +kernel) rfl trivial ?_
    replace H := Option.some.inj H
    subst H
    exact jS.zret rfl (Or.inl rfl) (by decide +kernel)
  · replace H := jif_f c3 H
    obtain ⟨w4, H⟩ := jgd_ok H
    refine jS.adv O [(.getstatic 38, 0, 685, 0, 0, 0, 0), (.aload_n 0, 0, 0, 0, 0, 0, 0), (.getfield 18, 0, 4, 2, 499, 0, 0), (.iaload, 0, 9, 0, 0, 0, 0), (.iload_n 1, 0, 0, 0, 0, 0, 0)] (pc' := 20) (ls' := [(0, .inr (.inr x0)), (1, .inl x1)]) (st' := [.inl x1, .inl (jI m 1 (jI m x0 2).toNatClampNeg)]) (m2 := m) (by decide +kernel) rfl ⟨w1, ⟨w2, jib_ok w4⟩, trivial⟩ ?_
    obtain ⟨t6, w5, H⟩ := jb_ok H
    refine jS.step (c' := (23, [(0, .inr (.inr x0)), (1, .inl x1)], [.inl t6], m)) (jSt.callSN (As := [.inl (jI m 1 (jI m x0 2).toNatClampNeg), .inl x1]) (rest := []) O (ec_X9_isIn (d := 2) O (Nat.le_refl _) w5) (by omega) jmw_X9_isIn jmv_X9_isIn jmn_X9_isIn (host := "JoinDraws") (idx := 34) jln_JoinDraws_Relation_34 (Nat.le_of_ble_eq_true rfl) (by decide +kernel)) ?_
    refine jS.br (i := .ifCond .eq 7) (P := t6 = 0) (rest := []) rfl (by decide +kernel) (tgt := 30) (by decide) (fun c7 => ?_) (fun c7 => ?_)
    · replace H := jif_t c7 H
      refine jS.adv O [(.iconst 0, 0, 0, 0, 0, (0 : Int32), 0)] (pc' := 31) (ls' := [(0, .inr (.inr x0)), (1, .inl x1)]) (st' := [.inl (0 : Int32)]) (m2 := m) (by decide +kernel) rfl trivial ?_
      replace H := Option.some.inj H
      subst H
      exact jS.zret rfl (Or.inl rfl) (by decide +kernel)
    · replace H := jif_f c7 H
      refine jS.adv O [(.iconst 1, 0, 0, 0, 0, (1 : Int32), 0), (.goto 4, 0, 31, 0, 0, 0, 0)] (pc' := 31) (ls' := [(0, .inr (.inr x0)), (1, .inl x1)]) (st' := [.inl (1 : Int32)]) (m2 := m) (by decide +kernel) rfl trivial ?_
      replace H := Option.some.inj H
      subst H
      exact jS.zret rfl (Or.inr rfl) (by decide +kernel)
def c_X4_setLive_j26 (F : Nat) (m : jMe) (s0 : Int32) (s1 : Nat) : Option (jMe) :=
  jgd (jK m s1 = 36) <| some (jsI m s1 6 s0)
theorem ec_X4_setLive_j26 {X : jX} {l : Launch} {d : Nat} (O : jOk X) (hd : 2 ≤ d) {F : Nat} {m0 m : jMe} {s0 : Int32} {s1 : Nat} {r : jMe} (H : c_X4_setLive_j26 F m s0 s1 = some r) : jS X l d jm_X4_setLive m0 none r (26, [], [.inl s0, .inr (.inr s1)], m) := by
  unfold c_X4_setLive_j26 at H
  obtain ⟨w3, H⟩ := jgd_ok H
  refine jS.adv O [(.putfield 31, 0, 4, 6, 511, 0, 0)] (pc' := 29) (ls' := []) (st' := []) (m2 := (jsI m s1 6 s0)) (by decide +kernel) rfl ⟨w3, trivial⟩ ?_
  replace H := Option.some.inj H
  subst H
  exact jS.vret rfl (by decide +kernel)
def c_X4_setLive (F : Nat) (m : jMe) (x0 : Nat) (x1 : Int32) (x2 : Int32) : Option (jMe) :=
  (if x2 = 0 then jgd (jK m x0 = 36) <| c_X4_setLive_j26 F m ((jI m x0 6) &&& ((jshl (1 : Int32) x1) ^^^ (-1 : Int32))) x0 else jgd (jK m x0 = 36) <| c_X4_setLive_j26 F m ((jI m x0 6) ||| (jshl (1 : Int32) x1)) x0)
theorem ec_X4_setLive {X : jX} {l : Launch} {d : Nat} (O : jOk X) (hd : 2 ≤ d) {F : Nat} {m : jMe} {x0 : Nat} {x1 : Int32} {x2 : Int32} {r : jMe} (H : c_X4_setLive F m x0 x1 x2 = some r) : jH X l d jm_X4_setLive [.inr (.inr x0), .inl x1, .inl x2] m none r := by
  refine jH.of jpl_RX4 rfl (Nat.le_of_ble_eq_true rfl) ?_
  show jS X l d jm_X4_setLive m _ _ (0, [(0, .inr (.inr x0)), (1, .inl x1), (2, .inl x2)], [], m)
  unfold c_X4_setLive at H
  refine jS.adv O [(.aload_n 0, 0, 0, 0, 0, 0, 0), (.iload_n 2, 0, 0, 0, 0, 0, 0)] (pc' := 2) (ls' := [(0, .inr (.inr x0)), (1, .inl x1), (2, .inl x2)]) (st' := [.inl x2, .inr (.inr x0)]) (m2 := m) (by decide +kernel) rfl trivial ?_
  refine jS.br (i := .ifCond .eq 14) (P := x2 = 0) (rest := [.inr (.inr x0)]) rfl (by decide +kernel) (tgt := 16) (by decide) (fun c1 => ?_) (fun c1 => ?_)
  · replace H := jif_t c1 H
    obtain ⟨w2, H⟩ := jgd_ok H
    refine jS.adv O [(.aload_n 0, 0, 0, 0, 0, 0, 0), (.getfield 31, 0, 4, 6, 511, 0, 0), (.iconst 1, 0, 0, 0, 0, (1 : Int32), 0), (.iload_n 1, 0, 0, 0, 0, 0, 0), (.ishl, 0, 0, 0, 0, 0, 0), (.iconst (-1), 0, 0, 0, 0, (-1 : Int32), 0), (.ixor, 0, 0, 0, 0, 0, 0), (.iand, 0, 0, 0, 0, 0, 0)] (pc' := 26) (ls' := [(0, .inr (.inr x0)), (1, .inl x1), (2, .inl x2)]) (st' := [.inl ((jI m x0 6) &&& ((jshl (1 : Int32) x1) ^^^ (-1 : Int32))), .inr (.inr x0)]) (m2 := m) (by decide +kernel) rfl ⟨w2, trivial⟩ ?_
    refine jS.loc' [] (ls' := []) rfl ?_
    exact ec_X4_setLive_j26 O hd H
  · replace H := jif_f c1 H
    obtain ⟨w4, H⟩ := jgd_ok H
    refine jS.adv O [(.aload_n 0, 0, 0, 0, 0, 0, 0), (.getfield 31, 0, 4, 6, 511, 0, 0), (.iconst 1, 0, 0, 0, 0, (1 : Int32), 0), (.iload_n 1, 0, 0, 0, 0, 0, 0), (.ishl, 0, 0, 0, 0, 0, 0), (.ior, 0, 0, 0, 0, 0, 0), (.goto 13, 0, 26, 0, 0, 0, 0)] (pc' := 26) (ls' := [(0, .inr (.inr x0)), (1, .inl x1), (2, .inl x2)]) (st' := [.inl ((jI m x0 6) ||| (jshl (1 : Int32) x1)), .inr (.inr x0)]) (m2 := m) (by decide +kernel) rfl ⟨w4, trivial⟩ ?_
    refine jS.loc' [] (ls' := []) rfl ?_
    exact ec_X4_setLive_j26 O hd H
def c_X4_letsGo (F : Nat) (m : jMe) (x0 : Nat) : Option (Int32) :=
  jgd (jK m x0 = 36) <| jb (c_X4_isA F m x0 (2 : Int32)) fun t3 => (if t3 = 0 then some (1 : Int32) else some (0 : Int32))
theorem ec_X4_letsGo {X : jX} {l : Launch} {d : Nat} (O : jOk X) (hd : 4 ≤ d) {F : Nat} {m : jMe} {x0 : Nat} {r : Int32} (H : c_X4_letsGo F m x0 = some r) : jH X l d jm_X4_letsGo [.inr (.inr x0)] m (some (.inl r)) m := by
  refine jH.of jpl_RX4 rfl (Nat.le_of_ble_eq_true rfl) ?_
  show jS X l d jm_X4_letsGo m _ _ (0, [(0, .inr (.inr x0))], [], m)
  unfold c_X4_letsGo at H
  obtain ⟨w1, H⟩ := jgd_ok H
  refine jS.adv O [(.aload_n 0, 0, 0, 0, 0, 0, 0), (.iconst 2, 0, 0, 0, 0, (2 : Int32), 0)] (pc' := 2) (ls' := [(0, .inr (.inr x0))]) (st' := [.inl (2 : Int32), .inr (.inr x0)]) (m2 := m) (by decide +kernel) rfl trivial ?_
  obtain ⟨t3, w2, H⟩ := jb_ok H
  refine jS.step (c' := (5, [(0, .inr (.inr x0))], [.inl t3], m)) (jSt.callV (c := 4) (As := [.inl (2 : Int32)]) (rest := []) O (ec_X4_isA (d := 3) O (Nat.le_refl _) w2) w1 (by decide) rfl (by omega) jmw_X4_isA jmv_X4_isA jmn_X4_isA (idx := 45) (jW_of 681 (by decide +kernel) rfl) (Nat.le_of_ble_eq_true rfl) (by decide +kernel)) ?_
  refine jS.br (i := .ifCond .ne 7) (P := ¬ t3 = 0) (rest := []) rfl (by decide +kernel) (tgt := 12) (by decide) (fun c4 => ?_) (fun c4 => ?_)
  · replace H := jif_f c4 H
    refine jS.adv O [(.iconst 0, 0, 0, 0, 0, (0 : Int32), 0)] (pc' := 13) (ls' := [(0, .inr (.inr x0))]) (st' := [.inl (0 : Int32)]) (m2 := m) (by decide +kernel) rfl trivial ?_
    replace H := Option.some.inj H
    subst H
    exact jS.zret rfl (Or.inl rfl) (by decide +kernel)
  · replace H := jif_t (Classical.not_not.mp c4) H
    refine jS.adv O [(.iconst 1, 0, 0, 0, 0, (1 : Int32), 0), (.goto 4, 0, 13, 0, 0, 0, 0)] (pc' := 13) (ls' := [(0, .inr (.inr x0))]) (st' := [.inl (1 : Int32)]) (m2 := m) (by decide +kernel) rfl trivial ?_
    replace H := Option.some.inj H
    subst H
    exact jS.zret rfl (Or.inr rfl) (by decide +kernel)
def c_X4_attributeAt_l4_b (F : Nat) (B : Nat → Int32 → Int32 → Int32 → Option (Int32 ⊕ Unit)) (m : jMe) (y0 : Nat) (y1 : Int32) (y2 : Int32) (y3 : Int32) : Option (Int32 ⊕ Unit) :=
  (if (6 : Int32) ≤ y3 then some (.inr ()) else jgd (jK m y0 = 36) <| jb (c_X9_isIn F m (jI m y0 3) y3) fun t4 => (if t4 = 0 then B y0 y1 y2 (y3 + (1 : Int32)) else (if y2 = y1 then some (.inl y3) else B y0 y1 (y2 + (1 : Int32)) (y3 + (1 : Int32)))))
theorem ec_X4_attributeAt_l4_b {X : jX} {l : Launch} {d : Nat} (O : jOk X) (hd : 3 ≤ d) {F : Nat} {m0 m' : jMe} {v : Option jAV} {m : jMe} {B : Nat → Int32 → Int32 → Int32 → Option (Int32 ⊕ Unit)} (hB : ∀ (y0 : Nat) (y1 : Int32) (y2 : Int32) (y3 : Int32) (r : Int32 ⊕ Unit), B y0 y1 y2 y3 = some r → (∀ q, r = .inl q → v = (some (.inl q)) ∧ m' = m) → (∀ e, r = .inr e → jS X l d jm_X4_attributeAt m0 v m' (37, [], [], m)) → jS X l d jm_X4_attributeAt m0 v m' (4, [(0, .inr (.inr y0)), (1, .inl y1), (2, .inl y2), (3, .inl y3)], [], m)) {y0 : Nat} {y1 : Int32} {y2 : Int32} {y3 : Int32} {r : Int32 ⊕ Unit} (H : c_X4_attributeAt_l4_b F B m y0 y1 y2 y3 = some r) (h1 : ∀ q, r = .inl q → v = (some (.inl q)) ∧ m' = m) (h2 : ∀ e, r = .inr e → jS X l d jm_X4_attributeAt m0 v m' (37, [], [], m)) : jS X l d jm_X4_attributeAt m0 v m' (4, [(0, .inr (.inr y0)), (1, .inl y1), (2, .inl y2), (3, .inl y3)], [], m) := by
  unfold c_X4_attributeAt_l4_b at H
  refine jS.adv O [(.iload_n 3, 0, 0, 0, 0, 0, 0), (.bipush 6, 0, 0, 0, 0, (6 : Int32), 0)] (pc' := 7) (ls' := [(0, .inr (.inr y0)), (1, .inl y1), (2, .inl y2), (3, .inl y3)]) (st' := [.inl (6 : Int32), .inl y3]) (m2 := m) (by decide +kernel) rfl trivial ?_
  refine jS.br (i := .if_icmp .ge 30) (P := (6 : Int32) ≤ y3) (rest := []) rfl (by decide +kernel) (tgt := 37) (by decide) (fun c1 => ?_) (fun c1 => ?_)
  · replace H := jif_t c1 H
    replace H := Option.some.inj H
    subst H
    refine jS.loc' [] (ls' := []) rfl ?_
    exact h2 _ rfl
  · replace H := jif_f c1 H
    obtain ⟨w2, H⟩ := jgd_ok H
    refine jS.adv O [(.aload_n 0, 0, 0, 0, 0, 0, 0), (.getfield 22, 0, 4, 3, 501, 0, 0), (.iload_n 3, 0, 0, 0, 0, 0, 0)] (pc' := 15) (ls' := [(0, .inr (.inr y0)), (1, .inl y1), (2, .inl y2), (3, .inl y3)]) (st' := [.inl y3, .inl (jI m y0 3)]) (m2 := m) (by decide +kernel) rfl ⟨w2, trivial⟩ ?_
    obtain ⟨t4, w3, H⟩ := jb_ok H
    refine jS.step (c' := (18, [(0, .inr (.inr y0)), (1, .inl y1), (2, .inl y2), (3, .inl y3)], [.inl t4], m)) (jSt.callSN (As := [.inl (jI m y0 3), .inl y3]) (rest := []) O (ec_X9_isIn (d := 2) O (Nat.le_refl _) w3) (by omega) jmw_X9_isIn jmv_X9_isIn jmn_X9_isIn (host := "JoinDraws") (idx := 34) jln_JoinDraws_Relation_34 (Nat.le_of_ble_eq_true rfl) (by decide +kernel)) ?_
    refine jS.br (i := .ifCond .eq 13) (P := t4 = 0) (rest := []) rfl (by decide +kernel) (tgt := 31) (by decide) (fun c5 => ?_) (fun c5 => ?_)
    · replace H := jif_t c5 H
      refine jS.adv O [(.iinc 3 1, 0, 0, 0, 0, (1 : Int32), 0), (.goto (-30), 0, 4, 0, 0, 0, 0)] (pc' := 4) (ls' := [(3, .inl (y3 + (1 : Int32))), (0, .inr (.inr y0)), (1, .inl y1), (2, .inl y2)]) (st' := []) (m2 := m) (by decide +kernel) rfl trivial ?_
      refine jS.loc' [1, 2, 3, 0] (ls' := [(0, .inr (.inr y0)), (1, .inl y1), (2, .inl y2), (3, .inl (y3 + (1 : Int32)))]) rfl ?_
      exact hB _ _ _ _ _ H h1 h2
    · replace H := jif_f c5 H
      refine jS.adv O [(.iload_n 2, 0, 0, 0, 0, 0, 0), (.iload_n 1, 0, 0, 0, 0, 0, 0)] (pc' := 23) (ls' := [(0, .inr (.inr y0)), (1, .inl y1), (2, .inl y2), (3, .inl y3)]) (st' := [.inl y1, .inl y2]) (m2 := m) (by decide +kernel) rfl trivial ?_
      refine jS.br (i := .if_icmp .ne 5) (P := ¬ y2 = y1) (rest := []) rfl (by decide +kernel) (tgt := 28) (by decide) (fun c6 => ?_) (fun c6 => ?_)
      · replace H := jif_f c6 H
        refine jS.adv O [(.iinc 2 1, 0, 0, 0, 0, (1 : Int32), 0), (.iinc 3 1, 0, 0, 0, 0, (1 : Int32), 0), (.goto (-30), 0, 4, 0, 0, 0, 0)] (pc' := 4) (ls' := [(3, .inl (y3 + (1 : Int32))), (2, .inl (y2 + (1 : Int32))), (0, .inr (.inr y0)), (1, .inl y1)]) (st' := []) (m2 := m) (by decide +kernel) rfl trivial ?_
        refine jS.loc' [2, 3, 1, 0] (ls' := [(0, .inr (.inr y0)), (1, .inl y1), (2, .inl (y2 + (1 : Int32))), (3, .inl (y3 + (1 : Int32)))]) rfl ?_
        exact hB _ _ _ _ _ H h1 h2
      · replace H := jif_t (Classical.not_not.mp c6) H
        refine jS.adv O [(.iload_n 3, 0, 0, 0, 0, 0, 0)] (pc' := 27) (ls' := [(0, .inr (.inr y0)), (1, .inl y1), (2, .inl y2), (3, .inl y3)]) (st' := [.inl y3]) (m2 := m) (by decide +kernel) rfl trivial ?_
        replace H := Option.some.inj H
        subst H
        obtain ⟨q1, q2⟩ := h1 _ rfl
        subst q1; subst q2
        exact jS.iret rfl (by decide +kernel)
def c_X4_attributeAt_l4 (F : Nat) (m : jMe) : Nat → Nat → Int32 → Int32 → Int32 → Option (Int32 ⊕ Unit)
  | 0, _, _, _, _ => none
  | n + 1, y0, y1, y2, y3 => c_X4_attributeAt_l4_b F (fun y0 y1 y2 y3 => c_X4_attributeAt_l4 F m n y0 y1 y2 y3) m y0 y1 y2 y3
theorem ec_X4_attributeAt_l4 {X : jX} {l : Launch} {d : Nat} (O : jOk X) (hd : 3 ≤ d) {F : Nat} {m0 m' : jMe} {v : Option jAV} {m : jMe} : ∀ (n : Nat) {y0 : Nat} {y1 : Int32} {y2 : Int32} {y3 : Int32} {r : Int32 ⊕ Unit} (H : c_X4_attributeAt_l4 F m n y0 y1 y2 y3 = some r) (h1 : ∀ q, r = .inl q → v = (some (.inl q)) ∧ m' = m) (h2 : ∀ e, r = .inr e → jS X l d jm_X4_attributeAt m0 v m' (37, [], [], m)), jS X l d jm_X4_attributeAt m0 v m' (4, [(0, .inr (.inr y0)), (1, .inl y1), (2, .inl y2), (3, .inl y3)], [], m) := by
  intro n
  induction n with
  | zero =>
    intro y0 y1 y2 y3 r H h1 h2
    cases (show none = some r from H)
  | succ n ih =>
    intro y0 y1 y2 y3 r H h1 h2
    exact ec_X4_attributeAt_l4_b O hd (B := (fun y0 y1 y2 y3 => c_X4_attributeAt_l4 F m n y0 y1 y2 y3)) (fun y0 y1 y2 y3 r H h1 h2 => ih H h1 h2) H h1 h2
def c_X4_attributeAt (F : Nat) (m : jMe) (x0 : Nat) (x1 : Int32) : Option (Int32) :=
  jb2 (c_X4_attributeAt_l4 F m F x0 x1 (0 : Int32) (0 : Int32)) (fun q => some q) fun e8 => some (-1 : Int32)
theorem ec_X4_attributeAt {X : jX} {l : Launch} {d : Nat} (O : jOk X) (hd : 3 ≤ d) {F : Nat} {m : jMe} {x0 : Nat} {x1 : Int32} {r : Int32} (H : c_X4_attributeAt F m x0 x1 = some r) : jH X l d jm_X4_attributeAt [.inr (.inr x0), .inl x1] m (some (.inl r)) m := by
  refine jH.of jpl_RX4 rfl (Nat.le_of_ble_eq_true rfl) ?_
  show jS X l d jm_X4_attributeAt m _ _ (0, [(0, .inr (.inr x0)), (1, .inl x1)], [], m)
  unfold c_X4_attributeAt at H
  refine jS.adv O [(.iconst 0, 0, 0, 0, 0, (0 : Int32), 0), (.istore_n 2, 0, 0, 0, 0, 0, 0), (.iconst 0, 0, 0, 0, 0, (0 : Int32), 0), (.istore_n 3, 0, 0, 0, 0, 0, 0)] (pc' := 4) (ls' := [(3, .inl (0 : Int32)), (2, .inl (0 : Int32)), (0, .inr (.inr x0)), (1, .inl x1)]) (st' := []) (m2 := m) (by decide +kernel) rfl trivial ?_
  refine jS.loc' [2, 3, 1, 0] (ls' := [(0, .inr (.inr x0)), (1, .inl x1), (2, .inl (0 : Int32)), (3, .inl (0 : Int32))]) rfl ?_
  rcases jb2_ok H with ⟨q7, w9, H⟩ | ⟨e8, w9, H⟩
  · refine ec_X4_attributeAt_l4 O hd F w9 (fun q2 hq2 => ?_) (fun e2 he2 => by cases he2)
    cases hq2
    cases H
    exact ⟨rfl, rfl⟩
  · refine ec_X4_attributeAt_l4 O hd F w9 (fun q2 hq2 => by cases hq2) (fun e2 he2 => ?_)
    cases he2
    refine jS.adv O [(.iconst (-1), 0, 0, 0, 0, (-1 : Int32), 0)] (pc' := 38) (ls' := []) (st' := [.inl (-1 : Int32)]) (m2 := m) (by decide +kernel) rfl trivial ?_
    replace H := Option.some.inj H
    subst H
    exact jS.iret rfl (by decide +kernel)
def c_X4_refuses_j19 (F : Nat) (m : jMe) (y0 : Nat) (y1 : Int32) (y2 : Int32) (y3 : Int32) : Option (Int32) :=
  jgd (jK m y0 = 36) <| jb (c_X4_isA F m y0 (3 : Int32)) fun t9 => (if t9 = 0 then some (0 : Int32) else jb (c_X4_valueAt F m y0 y1 y3) fun t12 => jb (c_X4_valueAt F m y0 y2 y3) fun t14 => (if t12 = t14 then some (1 : Int32) else some (0 : Int32)))
theorem ec_X4_refuses_j19 {X : jX} {l : Launch} {d : Nat} (O : jOk X) (hd : 4 ≤ d) {F : Nat} {m0 m : jMe} {y0 : Nat} {y1 : Int32} {y2 : Int32} {y3 : Int32} {r : Int32} (H : c_X4_refuses_j19 F m y0 y1 y2 y3 = some r) : jS X l d jm_X4_refuses m0 (some (.inl r)) m (19, [(0, .inr (.inr y0)), (1, .inl y1), (2, .inl y2), (3, .inl y3)], [], m) := by
  unfold c_X4_refuses_j19 at H
  obtain ⟨w7, H⟩ := jgd_ok H
  refine jS.adv O [(.aload_n 0, 0, 0, 0, 0, 0, 0), (.iconst 3, 0, 0, 0, 0, (3 : Int32), 0)] (pc' := 21) (ls' := [(0, .inr (.inr y0)), (1, .inl y1), (2, .inl y2), (3, .inl y3)]) (st' := [.inl (3 : Int32), .inr (.inr y0)]) (m2 := m) (by decide +kernel) rfl trivial ?_
  obtain ⟨t9, w8, H⟩ := jb_ok H
  refine jS.step (c' := (24, [(0, .inr (.inr y0)), (1, .inl y1), (2, .inl y2), (3, .inl y3)], [.inl t9], m)) (jSt.callV (c := 4) (As := [.inl (3 : Int32)]) (rest := []) O (ec_X4_isA (d := 3) O (Nat.le_refl _) w8) w7 (by decide) rfl (by omega) jmw_X4_isA jmv_X4_isA jmn_X4_isA (idx := 45) (jW_of 681 (by decide +kernel) rfl) (Nat.le_of_ble_eq_true rfl) (by decide +kernel)) ?_
  refine jS.br (i := .ifCond .eq 22) (P := t9 = 0) (rest := []) rfl (by decide +kernel) (tgt := 46) (by decide) (fun c10 => ?_) (fun c10 => ?_)
  · replace H := jif_t c10 H
    refine jS.adv O [(.iconst 0, 0, 0, 0, 0, (0 : Int32), 0)] (pc' := 47) (ls' := [(0, .inr (.inr y0)), (1, .inl y1), (2, .inl y2), (3, .inl y3)]) (st' := [.inl (0 : Int32)]) (m2 := m) (by decide +kernel) rfl trivial ?_
    replace H := Option.some.inj H
    subst H
    exact jS.zret rfl (Or.inl rfl) (by decide +kernel)
  · replace H := jif_f c10 H
    refine jS.adv O [(.aload_n 0, 0, 0, 0, 0, 0, 0), (.iload_n 1, 0, 0, 0, 0, 0, 0), (.iload_n 3, 0, 0, 0, 0, 0, 0)] (pc' := 30) (ls' := [(0, .inr (.inr y0)), (1, .inl y1), (2, .inl y2), (3, .inl y3)]) (st' := [.inl y3, .inl y1, .inr (.inr y0)]) (m2 := m) (by decide +kernel) rfl trivial ?_
    obtain ⟨t12, w11, H⟩ := jb_ok H
    refine jS.step (c' := (33, [(0, .inr (.inr y0)), (1, .inl y1), (2, .inl y2), (3, .inl y3)], [.inl t12], m)) (jSt.callV (c := 4) (As := [.inl y1, .inl y3]) (rest := []) O (ec_X4_valueAt (d := 2) O (Nat.le_refl _) w11) w7 (by decide) rfl (by omega) jmw_X4_valueAt jmv_X4_valueAt jmn_X4_valueAt (idx := 58) (jW_of 687 (by decide +kernel) rfl) (Nat.le_of_ble_eq_true rfl) (by decide +kernel)) ?_
    refine jS.adv O [(.aload_n 0, 0, 0, 0, 0, 0, 0), (.iload_n 2, 0, 0, 0, 0, 0, 0), (.iload_n 3, 0, 0, 0, 0, 0, 0)] (pc' := 36) (ls' := [(0, .inr (.inr y0)), (1, .inl y1), (2, .inl y2), (3, .inl y3)]) (st' := [.inl y3, .inl y2, .inr (.inr y0), .inl t12]) (m2 := m) (by decide +kernel) rfl trivial ?_
    obtain ⟨t14, w13, H⟩ := jb_ok H
    refine jS.step (c' := (39, [(0, .inr (.inr y0)), (1, .inl y1), (2, .inl y2), (3, .inl y3)], [.inl t14, .inl t12], m)) (jSt.callV (c := 4) (As := [.inl y2, .inl y3]) (rest := [.inl t12]) O (ec_X4_valueAt (d := 2) O (Nat.le_refl _) w13) w7 (by decide) rfl (by omega) jmw_X4_valueAt jmv_X4_valueAt jmn_X4_valueAt (idx := 58) (jW_of 687 (by decide +kernel) rfl) (Nat.le_of_ble_eq_true rfl) (by decide +kernel)) ?_
    refine jS.br (i := .if_icmp .ne 7) (P := ¬ t12 = t14) (rest := []) rfl (by decide +kernel) (tgt := 46) (by decide) (fun c15 => ?_) (fun c15 => ?_)
    · replace H := jif_f c15 H
      refine jS.adv O [(.iconst 0, 0, 0, 0, 0, (0 : Int32), 0)] (pc' := 47) (ls' := [(0, .inr (.inr y0)), (1, .inl y1), (2, .inl y2), (3, .inl y3)]) (st' := [.inl (0 : Int32)]) (m2 := m) (by decide +kernel) rfl trivial ?_
      replace H := Option.some.inj H
      subst H
      exact jS.zret rfl (Or.inl rfl) (by decide +kernel)
    · replace H := jif_t (Classical.not_not.mp c15) H
      refine jS.adv O [(.iconst 1, 0, 0, 0, 0, (1 : Int32), 0), (.goto 4, 0, 47, 0, 0, 0, 0)] (pc' := 47) (ls' := [(0, .inr (.inr y0)), (1, .inl y1), (2, .inl y2), (3, .inl y3)]) (st' := [.inl (1 : Int32)]) (m2 := m) (by decide +kernel) rfl trivial ?_
      replace H := Option.some.inj H
      subst H
      exact jS.zret rfl (Or.inr rfl) (by decide +kernel)
def c_X4_refuses (F : Nat) (m : jMe) (x0 : Nat) (x1 : Int32) (x2 : Int32) : Option (Int32) :=
  jgd (jK m x0 = 36) <| jb (c_X4_attributeAt F m x0 (0 : Int32)) fun t3 => jb (c_X4_isA F m x0 (1 : Int32)) fun t5 => (if t5 = 0 then c_X4_refuses_j19 F m x0 x1 x2 t3 else (if x1 = x2 then some (1 : Int32) else c_X4_refuses_j19 F m x0 x1 x2 t3))
theorem ec_X4_refuses {X : jX} {l : Launch} {d : Nat} (O : jOk X) (hd : 4 ≤ d) {F : Nat} {m : jMe} {x0 : Nat} {x1 : Int32} {x2 : Int32} {r : Int32} (H : c_X4_refuses F m x0 x1 x2 = some r) : jH X l d jm_X4_refuses [.inr (.inr x0), .inl x1, .inl x2] m (some (.inl r)) m := by
  refine jH.of jpl_RX4 rfl (Nat.le_of_ble_eq_true rfl) ?_
  show jS X l d jm_X4_refuses m _ _ (0, [(0, .inr (.inr x0)), (1, .inl x1), (2, .inl x2)], [], m)
  unfold c_X4_refuses at H
  obtain ⟨w1, H⟩ := jgd_ok H
  refine jS.adv O [(.aload_n 0, 0, 0, 0, 0, 0, 0), (.iconst 0, 0, 0, 0, 0, (0 : Int32), 0)] (pc' := 2) (ls' := [(0, .inr (.inr x0)), (1, .inl x1), (2, .inl x2)]) (st' := [.inl (0 : Int32), .inr (.inr x0)]) (m2 := m) (by decide +kernel) rfl trivial ?_
  obtain ⟨t3, w2, H⟩ := jb_ok H
  refine jS.step (c' := (5, [(0, .inr (.inr x0)), (1, .inl x1), (2, .inl x2)], [.inl t3], m)) (jSt.callV (c := 4) (As := [.inl (0 : Int32)]) (rest := []) O (ec_X4_attributeAt (d := 3) O (Nat.le_refl _) w2) w1 (by decide) rfl (by omega) jmw_X4_attributeAt jmv_X4_attributeAt jmn_X4_attributeAt (idx := 54) (jW_of 677 (by decide +kernel) rfl) (Nat.le_of_ble_eq_true rfl) (by decide +kernel)) ?_
  refine jS.adv O [(.istore_n 3, 0, 0, 0, 0, 0, 0), (.aload_n 0, 0, 0, 0, 0, 0, 0), (.iconst 1, 0, 0, 0, 0, (1 : Int32), 0)] (pc' := 8) (ls' := [(3, .inl t3), (0, .inr (.inr x0)), (1, .inl x1), (2, .inl x2)]) (st' := [.inl (1 : Int32), .inr (.inr x0)]) (m2 := m) (by decide +kernel) rfl trivial ?_
  obtain ⟨t5, w4, H⟩ := jb_ok H
  refine jS.step (c' := (11, [(3, .inl t3), (0, .inr (.inr x0)), (1, .inl x1), (2, .inl x2)], [.inl t5], m)) (jSt.callV (c := 4) (As := [.inl (1 : Int32)]) (rest := []) O (ec_X4_isA (d := 3) O (Nat.le_refl _) w4) w1 (by decide) rfl (by omega) jmw_X4_isA jmv_X4_isA jmn_X4_isA (idx := 45) (jW_of 681 (by decide +kernel) rfl) (Nat.le_of_ble_eq_true rfl) (by decide +kernel)) ?_
  refine jS.br (i := .ifCond .eq 8) (P := t5 = 0) (rest := []) rfl (by decide +kernel) (tgt := 19) (by decide) (fun c6 => ?_) (fun c6 => ?_)
  · replace H := jif_t c6 H
    refine jS.loc' [1, 2, 3, 0] (ls' := [(0, .inr (.inr x0)), (1, .inl x1), (2, .inl x2), (3, .inl t3)]) rfl ?_
    exact ec_X4_refuses_j19 O hd H
  · replace H := jif_f c6 H
    refine jS.adv O [(.iload_n 1, 0, 0, 0, 0, 0, 0), (.iload_n 2, 0, 0, 0, 0, 0, 0)] (pc' := 16) (ls' := [(3, .inl t3), (0, .inr (.inr x0)), (1, .inl x1), (2, .inl x2)]) (st' := [.inl x2, .inl x1]) (m2 := m) (by decide +kernel) rfl trivial ?_
    refine jS.br (i := .if_icmp .eq 26) (P := x1 = x2) (rest := []) rfl (by decide +kernel) (tgt := 42) (by decide) (fun c16 => ?_) (fun c16 => ?_)
    · replace H := jif_t c16 H
      refine jS.adv O [(.iconst 1, 0, 0, 0, 0, (1 : Int32), 0), (.goto 4, 0, 47, 0, 0, 0, 0)] (pc' := 47) (ls' := [(3, .inl t3), (0, .inr (.inr x0)), (1, .inl x1), (2, .inl x2)]) (st' := [.inl (1 : Int32)]) (m2 := m) (by decide +kernel) rfl trivial ?_
      replace H := Option.some.inj H
      subst H
      exact jS.zret rfl (Or.inr rfl) (by decide +kernel)
    · replace H := jif_f c16 H
      refine jS.loc' [1, 2, 3, 0] (ls' := [(0, .inr (.inr x0)), (1, .inl x1), (2, .inl x2), (3, .inl t3)]) rfl ?_
      exact ec_X4_refuses_j19 O hd H
def c_X4_takes_l2_b (F : Nat) (B : Nat → Int32 → Int32 → Option (Int32 ⊕ Unit)) (m : jMe) (y0 : Nat) (y1 : Int32) (y2 : Int32) : Option (Int32 ⊕ Unit) :=
  jgd (jK m y0 = 36) <| (if (jI m y0 5) ≤ y2 then some (.inr ()) else jb (c_X4_isLive F m y0 y2) fun t4 => (if t4 = 0 then B y0 y1 (y2 + (1 : Int32)) else jgd (jK m (jP m y0 0) = 1) <| jgd (jin y2 (jZ m (jP m y0 0)) = true) <| jb (c_X4_refuses F m y0 (jI m (jP m y0 0) y2.toNatClampNeg) y1) fun t9 => (if t9 = 0 then B y0 y1 (y2 + (1 : Int32)) else some (.inl (0 : Int32)))))
theorem ec_X4_takes_l2_b {X : jX} {l : Launch} {d : Nat} (O : jOk X) (hd : 5 ≤ d) {F : Nat} {m0 m' : jMe} {v : Option jAV} {m : jMe} {B : Nat → Int32 → Int32 → Option (Int32 ⊕ Unit)} (hB : ∀ (y0 : Nat) (y1 : Int32) (y2 : Int32) (r : Int32 ⊕ Unit), B y0 y1 y2 = some r → (∀ q, r = .inl q → v = (some (.inl q)) ∧ m' = m) → (∀ e, r = .inr e → jS X l d jm_X4_takes m0 v m' (40, [], [], m)) → jS X l d jm_X4_takes m0 v m' (2, [(0, .inr (.inr y0)), (1, .inl y1), (2, .inl y2)], [], m)) {y0 : Nat} {y1 : Int32} {y2 : Int32} {r : Int32 ⊕ Unit} (H : c_X4_takes_l2_b F B m y0 y1 y2 = some r) (h1 : ∀ q, r = .inl q → v = (some (.inl q)) ∧ m' = m) (h2 : ∀ e, r = .inr e → jS X l d jm_X4_takes m0 v m' (40, [], [], m)) : jS X l d jm_X4_takes m0 v m' (2, [(0, .inr (.inr y0)), (1, .inl y1), (2, .inl y2)], [], m) := by
  unfold c_X4_takes_l2_b at H
  obtain ⟨w1, H⟩ := jgd_ok H
  refine jS.adv O [(.iload_n 2, 0, 0, 0, 0, 0, 0), (.aload_n 0, 0, 0, 0, 0, 0, 0), (.getfield 28, 0, 4, 5, 507, 0, 0)] (pc' := 7) (ls' := [(0, .inr (.inr y0)), (1, .inl y1), (2, .inl y2)]) (st' := [.inl (jI m y0 5), .inl y2]) (m2 := m) (by decide +kernel) rfl ⟨w1, trivial⟩ ?_
  refine jS.br (i := .if_icmp .ge 33) (P := (jI m y0 5) ≤ y2) (rest := []) rfl (by decide +kernel) (tgt := 40) (by decide) (fun c2 => ?_) (fun c2 => ?_)
  · replace H := jif_t c2 H
    replace H := Option.some.inj H
    subst H
    refine jS.loc' [] (ls' := []) rfl ?_
    exact h2 _ rfl
  · replace H := jif_f c2 H
    refine jS.adv O [(.aload_n 0, 0, 0, 0, 0, 0, 0), (.iload_n 2, 0, 0, 0, 0, 0, 0)] (pc' := 12) (ls' := [(0, .inr (.inr y0)), (1, .inl y1), (2, .inl y2)]) (st' := [.inl y2, .inr (.inr y0)]) (m2 := m) (by decide +kernel) rfl trivial ?_
    obtain ⟨t4, w3, H⟩ := jb_ok H
    refine jS.step (c' := (15, [(0, .inr (.inr y0)), (1, .inl y1), (2, .inl y2)], [.inl t4], m)) (jSt.callV (c := 4) (As := [.inl y2]) (rest := []) O (ec_X4_isLive (d := 3) O (Nat.le_refl _) w3) w1 (by decide) rfl (by omega) jmw_X4_isLive jmv_X4_isLive jmn_X4_isLive (idx := 48) (jW_of 665 (by decide +kernel) rfl) (Nat.le_of_ble_eq_true rfl) (by decide +kernel)) ?_
    refine jS.br (i := .ifCond .eq 19) (P := t4 = 0) (rest := []) rfl (by decide +kernel) (tgt := 34) (by decide) (fun c5 => ?_) (fun c5 => ?_)
    · replace H := jif_t c5 H
      refine jS.adv O [(.iinc 2 1, 0, 0, 0, 0, (1 : Int32), 0), (.goto (-35), 0, 2, 0, 0, 0, 0)] (pc' := 2) (ls' := [(2, .inl (y2 + (1 : Int32))), (0, .inr (.inr y0)), (1, .inl y1)]) (st' := []) (m2 := m) (by decide +kernel) rfl trivial ?_
      refine jS.loc' [1, 2, 0] (ls' := [(0, .inr (.inr y0)), (1, .inl y1), (2, .inl (y2 + (1 : Int32)))]) rfl ?_
      exact hB _ _ _ _ H h1 h2
    · replace H := jif_f c5 H
      obtain ⟨w6, H⟩ := jgd_ok H
      obtain ⟨w7, H⟩ := jgd_ok H
      refine jS.adv O [(.aload_n 0, 0, 0, 0, 0, 0, 0), (.aload_n 0, 0, 0, 0, 0, 0, 0), (.getfield 9, 0, 4, 0, 491, 0, 0), (.iload_n 2, 0, 0, 0, 0, 0, 0), (.iaload, 0, 1, 0, 0, 0, 0), (.iload_n 1, 0, 0, 0, 0, 0, 0)] (pc' := 26) (ls' := [(0, .inr (.inr y0)), (1, .inl y1), (2, .inl y2)]) (st' := [.inl y1, .inl (jI m (jP m y0 0) y2.toNatClampNeg), .inr (.inr y0)]) (m2 := m) (by decide +kernel) rfl ⟨w1, ⟨w6, jib_ok w7⟩, trivial⟩ ?_
      obtain ⟨t9, w8, H⟩ := jb_ok H
      refine jS.step (c' := (29, [(0, .inr (.inr y0)), (1, .inl y1), (2, .inl y2)], [.inl t9], m)) (jSt.callV (c := 4) (As := [.inl (jI m (jP m y0 0) y2.toNatClampNeg), .inl y1]) (rest := []) O (ec_X4_refuses (d := 4) O (Nat.le_refl _) w8) w1 (by decide) rfl (by omega) jmw_X4_refuses jmv_X4_refuses jmn_X4_refuses (idx := 51) (jW_of 673 (by decide +kernel) rfl) (Nat.le_of_ble_eq_true rfl) (by decide +kernel)) ?_
      refine jS.br (i := .ifCond .eq 5) (P := t9 = 0) (rest := []) rfl (by decide +kernel) (tgt := 34) (by decide) (fun c10 => ?_) (fun c10 => ?_)
      · replace H := jif_t c10 H
        refine jS.adv O [(.iinc 2 1, 0, 0, 0, 0, (1 : Int32), 0), (.goto (-35), 0, 2, 0, 0, 0, 0)] (pc' := 2) (ls' := [(2, .inl (y2 + (1 : Int32))), (0, .inr (.inr y0)), (1, .inl y1)]) (st' := []) (m2 := m) (by decide +kernel) rfl trivial ?_
        refine jS.loc' [1, 2, 0] (ls' := [(0, .inr (.inr y0)), (1, .inl y1), (2, .inl (y2 + (1 : Int32)))]) rfl ?_
        exact hB _ _ _ _ H h1 h2
      · replace H := jif_f c10 H
        refine jS.adv O [(.iconst 0, 0, 0, 0, 0, (0 : Int32), 0)] (pc' := 33) (ls' := [(0, .inr (.inr y0)), (1, .inl y1), (2, .inl y2)]) (st' := [.inl (0 : Int32)]) (m2 := m) (by decide +kernel) rfl trivial ?_
        replace H := Option.some.inj H
        subst H
        obtain ⟨q1, q2⟩ := h1 _ rfl
        subst q1; subst q2
        exact jS.zret rfl (Or.inl rfl) (by decide +kernel)
def c_X4_takes_l2 (F : Nat) (m : jMe) : Nat → Nat → Int32 → Int32 → Option (Int32 ⊕ Unit)
  | 0, _, _, _ => none
  | n + 1, y0, y1, y2 => c_X4_takes_l2_b F (fun y0 y1 y2 => c_X4_takes_l2 F m n y0 y1 y2) m y0 y1 y2
theorem ec_X4_takes_l2 {X : jX} {l : Launch} {d : Nat} (O : jOk X) (hd : 5 ≤ d) {F : Nat} {m0 m' : jMe} {v : Option jAV} {m : jMe} : ∀ (n : Nat) {y0 : Nat} {y1 : Int32} {y2 : Int32} {r : Int32 ⊕ Unit} (H : c_X4_takes_l2 F m n y0 y1 y2 = some r) (h1 : ∀ q, r = .inl q → v = (some (.inl q)) ∧ m' = m) (h2 : ∀ e, r = .inr e → jS X l d jm_X4_takes m0 v m' (40, [], [], m)), jS X l d jm_X4_takes m0 v m' (2, [(0, .inr (.inr y0)), (1, .inl y1), (2, .inl y2)], [], m) := by
  intro n
  induction n with
  | zero =>
    intro y0 y1 y2 r H h1 h2
    cases (show none = some r from H)
  | succ n ih =>
    intro y0 y1 y2 r H h1 h2
    exact ec_X4_takes_l2_b O hd (B := (fun y0 y1 y2 => c_X4_takes_l2 F m n y0 y1 y2)) (fun y0 y1 y2 r H h1 h2 => ih H h1 h2) H h1 h2
def c_X4_takes (F : Nat) (m : jMe) (x0 : Nat) (x1 : Int32) : Option (Int32) :=
  jb2 (c_X4_takes_l2 F m F x0 x1 (0 : Int32)) (fun q => some q) fun e12 => some (1 : Int32)
theorem ec_X4_takes {X : jX} {l : Launch} {d : Nat} (O : jOk X) (hd : 5 ≤ d) {F : Nat} {m : jMe} {x0 : Nat} {x1 : Int32} {r : Int32} (H : c_X4_takes F m x0 x1 = some r) : jH X l d jm_X4_takes [.inr (.inr x0), .inl x1] m (some (.inl r)) m := by
  refine jH.of jpl_RX4 rfl (Nat.le_of_ble_eq_true rfl) ?_
  show jS X l d jm_X4_takes m _ _ (0, [(0, .inr (.inr x0)), (1, .inl x1)], [], m)
  unfold c_X4_takes at H
  refine jS.adv O [(.iconst 0, 0, 0, 0, 0, (0 : Int32), 0), (.istore_n 2, 0, 0, 0, 0, 0, 0)] (pc' := 2) (ls' := [(2, .inl (0 : Int32)), (0, .inr (.inr x0)), (1, .inl x1)]) (st' := []) (m2 := m) (by decide +kernel) rfl trivial ?_
  refine jS.loc' [1, 2, 0] (ls' := [(0, .inr (.inr x0)), (1, .inl x1), (2, .inl (0 : Int32))]) rfl ?_
  rcases jb2_ok H with ⟨q11, w13, H⟩ | ⟨e12, w13, H⟩
  · refine ec_X4_takes_l2 O hd F w13 (fun q2 hq2 => ?_) (fun e2 he2 => by cases he2)
    cases hq2
    cases H
    exact ⟨rfl, rfl⟩
  · refine ec_X4_takes_l2 O hd F w13 (fun q2 hq2 => by cases hq2) (fun e2 he2 => ?_)
    cases he2
    refine jS.adv O [(.iconst 1, 0, 0, 0, 0, (1 : Int32), 0)] (pc' := 41) (ls' := []) (st' := [.inl (1 : Int32)]) (m2 := m) (by decide +kernel) rfl trivial ?_
    replace H := Option.some.inj H
    subst H
    exact jS.zret rfl (Or.inr rfl) (by decide +kernel)
def c_X4_add (F : Nat) (m : jMe) (x0 : Nat) (x1 : Int32) (x2 : Int32) : Option (Int32 × jMe) :=
  jgd (jK m x0 = 36) <| jgd (jK m (jP m x0 0) = 1) <| jgd (jin (jI m x0 5) (jZ m (jP m x0 0)) = true) <| jgd (jK m (jP (jsI m (jP m x0 0) (jI m x0 5).toNatClampNeg x1) x0 1) = 1) <| jgd (jin (jI (jsI m (jP m x0 0) (jI m x0 5).toNatClampNeg x1) x0 5) (jZ m (jP (jsI m (jP m x0 0) (jI m x0 5).toNatClampNeg x1) x0 1)) = true) <| jb (c_X4_setLive F (jsI (jsI m (jP m x0 0) (jI m x0 5).toNatClampNeg x1) (jP (jsI m (jP m x0 0) (jI m x0 5).toNatClampNeg x1) x0 1) (jI (jsI m (jP m x0 0) (jI m x0 5).toNatClampNeg x1) x0 5).toNatClampNeg x2) x0 (jI (jsI (jsI m (jP m x0 0) (jI m x0 5).toNatClampNeg x1) (jP (jsI m (jP m x0 0) (jI m x0 5).toNatClampNeg x1) x0 1) (jI (jsI m (jP m x0 0) (jI m x0 5).toNatClampNeg x1) x0 5).toNatClampNeg x2) x0 5) (1 : Int32)) fun t7 => jgd (jK t7 x0 = 36) <| some (((jI (jsI t7 x0 5 ((jI t7 x0 5) + (1 : Int32))) x0 5) - (1 : Int32)), (jsI t7 x0 5 ((jI t7 x0 5) + (1 : Int32))))
theorem ec_X4_add {X : jX} {l : Launch} {d : Nat} (O : jOk X) (hd : 3 ≤ d) {F : Nat} {m : jMe} {x0 : Nat} {x1 : Int32} {x2 : Int32} {r : Int32 × jMe} (H : c_X4_add F m x0 x1 x2 = some r) : jH X l d jm_X4_add [.inr (.inr x0), .inl x1, .inl x2] m (some (.inl r.1)) r.2 := by
  refine jH.of jpl_RX4 rfl (Nat.le_of_ble_eq_true rfl) ?_
  show jS X l d jm_X4_add m _ _ (0, [(0, .inr (.inr x0)), (1, .inl x1), (2, .inl x2)], [], m)
  unfold c_X4_add at H
  obtain ⟨w1, H⟩ := jgd_ok H
  obtain ⟨w2, H⟩ := jgd_ok H
  obtain ⟨w3, H⟩ := jgd_ok H
  obtain ⟨w4, H⟩ := jgd_ok H
  obtain ⟨w5, H⟩ := jgd_ok H
  refine jS.adv O [(.aload_n 0, 0, 0, 0, 0, 0, 0), (.getfield 9, 0, 4, 0, 491, 0, 0), (.aload_n 0, 0, 0, 0, 0, 0, 0), (.getfield 28, 0, 4, 5, 507, 0, 0), (.iload_n 1, 0, 0, 0, 0, 0, 0), (.iastore, 0, 0, 0, 0, 0, 0), (.aload_n 0, 0, 0, 0, 0, 0, 0), (.getfield 15, 0, 4, 1, 495, 0, 0), (.aload_n 0, 0, 0, 0, 0, 0, 0), (.getfield 28, 0, 4, 5, 507, 0, 0), (.iload_n 2, 0, 0, 0, 0, 0, 0), (.iastore, 0, 0, 0, 0, 0, 0), (.aload_n 0, 0, 0, 0, 0, 0, 0), (.aload_n 0, 0, 0, 0, 0, 0, 0), (.getfield 28, 0, 4, 5, 507, 0, 0), (.iconst 1, 0, 0, 0, 0, (1 : Int32), 0)] (pc' := 26) (ls' := [(0, .inr (.inr x0)), (1, .inl x1), (2, .inl x2)]) (st' := [.inl (1 : Int32), .inl (jI (jsI (jsI m (jP m x0 0) (jI m x0 5).toNatClampNeg x1) (jP (jsI m (jP m x0 0) (jI m x0 5).toNatClampNeg x1) x0 1) (jI (jsI m (jP m x0 0) (jI m x0 5).toNatClampNeg x1) x0 5).toNatClampNeg x2) x0 5), .inr (.inr x0)]) (m2 := (jsI (jsI m (jP m x0 0) (jI m x0 5).toNatClampNeg x1) (jP (jsI m (jP m x0 0) (jI m x0 5).toNatClampNeg x1) x0 1) (jI (jsI m (jP m x0 0) (jI m x0 5).toNatClampNeg x1) x0 5).toNatClampNeg x2)) (by decide +kernel) rfl ⟨w1, w1, ⟨w2, jib_ok w3⟩, w1, w1, ⟨w4, jib_ok w5⟩, w1, trivial⟩ ?_
  obtain ⟨t7, w6, H⟩ := jb_ok H
  refine jS.step (c' := (29, [(0, .inr (.inr x0)), (1, .inl x1), (2, .inl x2)], [], t7)) (jSt.callV (c := 4) (As := [.inl (jI (jsI (jsI m (jP m x0 0) (jI m x0 5).toNatClampNeg x1) (jP (jsI m (jP m x0 0) (jI m x0 5).toNatClampNeg x1) x0 1) (jI (jsI m (jP m x0 0) (jI m x0 5).toNatClampNeg x1) x0 5).toNatClampNeg x2) x0 5), .inl (1 : Int32)]) (rest := []) O (ec_X4_setLive (d := 2) O (Nat.le_refl _) w6) w1 (by decide) rfl (by omega) jmw_X4_setLive jmv_X4_setLive jmn_X4_setLive (idx := 62) (jW_of 695 (by decide +kernel) rfl) (Nat.le_of_ble_eq_true rfl) (by decide +kernel)) ?_
  obtain ⟨w8, H⟩ := jgd_ok H
  refine jS.adv O [(.aload_n 0, 0, 0, 0, 0, 0, 0), (.dup, 0, 0, 0, 0, 0, 0), (.getfield 28, 0, 4, 5, 507, 0, 0), (.iconst 1, 0, 0, 0, 0, (1 : Int32), 0), (.iadd, 0, 0, 0, 0, 0, 0), (.putfield 28, 0, 4, 5, 507, 0, 0), (.aload_n 0, 0, 0, 0, 0, 0, 0), (.getfield 28, 0, 4, 5, 507, 0, 0), (.iconst 1, 0, 0, 0, 0, (1 : Int32), 0), (.isub, 0, 0, 0, 0, 0, 0)] (pc' := 45) (ls' := [(0, .inr (.inr x0)), (1, .inl x1), (2, .inl x2)]) (st' := [.inl ((jI (jsI t7 x0 5 ((jI t7 x0 5) + (1 : Int32))) x0 5) - (1 : Int32))]) (m2 := (jsI t7 x0 5 ((jI t7 x0 5) + (1 : Int32)))) (by decide +kernel) rfl ⟨w8, w8, w8, trivial⟩ ?_
  replace H := Option.some.inj H
  subst H
  exact jS.iret rfl (by decide +kernel)
def c_X4_packed_j48_l9 (F : Nat) (B : Nat → Int32 → Int32 → Int32 → Int32 → Int32 → Int32 → Option (Int32 ⊕ Int32)) (m : jMe) (y0 : Nat) (y1 : Int32) (y2 : Int32) (y3 : Int32) (y4 : Int32) (y5 : Int32) (y6 : Int32) (s0 : Int32) : Option (Int32 ⊕ Int32) :=
  (if s0 < 0 then some (.inl (-1 : Int32)) else (if s0 < (10 : Int32) then B y0 y1 y2 y3 (y4 ||| (jshl s0 ((4 : Int32) * y6))) (y5 + (1 : Int32)) (y6 + (1 : Int32)) else some (.inl (-1 : Int32))))
theorem ec_X4_packed_j48_l9 {X : jX} {l : Launch} {d : Nat} (O : jOk X) (hd : 3 ≤ d) {F : Nat} {m0 m' : jMe} {v : Option jAV} {m : jMe} {B : Nat → Int32 → Int32 → Int32 → Int32 → Int32 → Int32 → Option (Int32 ⊕ Int32)} (hB : ∀ (y0 : Nat) (y1 : Int32) (y2 : Int32) (y3 : Int32) (y4 : Int32) (y5 : Int32) (y6 : Int32) (r : Int32 ⊕ Int32), B y0 y1 y2 y3 y4 y5 y6 = some r → (∀ q, r = .inl q → v = (some (.inl q)) ∧ m' = m) → (∀ e, r = .inr e → jS X l d jm_X4_packed m0 v m' (85, [(4, .inl e)], [], m)) → jS X l d jm_X4_packed m0 v m' (9, [(0, .inr (.inr y0)), (1, .inl y1), (2, .inl y2), (3, .inl y3), (4, .inl y4), (5, .inl y5), (6, .inl y6)], [], m)) {y0 : Nat} {y1 : Int32} {y2 : Int32} {y3 : Int32} {y4 : Int32} {y5 : Int32} {y6 : Int32} {s0 : Int32} {r : Int32 ⊕ Int32} (H : c_X4_packed_j48_l9 F B m y0 y1 y2 y3 y4 y5 y6 s0 = some r) (h1 : ∀ q, r = .inl q → v = (some (.inl q)) ∧ m' = m) (h2 : ∀ e, r = .inr e → jS X l d jm_X4_packed m0 v m' (85, [(4, .inl e)], [], m)) : jS X l d jm_X4_packed m0 v m' (48, [(0, .inr (.inr y0)), (1, .inl y1), (2, .inl y2), (3, .inl y3), (4, .inl y4), (5, .inl y5), (6, .inl y6)], [.inl s0], m) := by
  unfold c_X4_packed_j48_l9 at H
  refine jS.adv O [(.istore 7, 0, 0, 0, 0, 0, 0), (.iload 7, 0, 0, 0, 0, 0, 0)] (pc' := 52) (ls' := [(7, .inl s0), (0, .inr (.inr y0)), (1, .inl y1), (2, .inl y2), (3, .inl y3), (4, .inl y4), (5, .inl y5), (6, .inl y6)]) (st' := [.inl s0]) (m2 := m) (by decide +kernel) rfl trivial ?_
  refine jS.br (i := .ifCond .lt 10) (P := s0 < 0) (rest := []) rfl (by decide +kernel) (tgt := 62) (by decide) (fun c8 => ?_) (fun c8 => ?_)
  · replace H := jif_t c8 H
    refine jS.adv O [(.iconst (-1), 0, 0, 0, 0, (-1 : Int32), 0)] (pc' := 63) (ls' := [(7, .inl s0), (0, .inr (.inr y0)), (1, .inl y1), (2, .inl y2), (3, .inl y3), (4, .inl y4), (5, .inl y5), (6, .inl y6)]) (st' := [.inl (-1 : Int32)]) (m2 := m) (by decide +kernel) rfl trivial ?_
    replace H := Option.some.inj H
    subst H
    obtain ⟨q1, q2⟩ := h1 _ rfl
    subst q1; subst q2
    exact jS.iret rfl (by decide +kernel)
  · replace H := jif_f c8 H
    refine jS.adv O [(.iload 7, 0, 0, 0, 0, 0, 0), (.bipush 10, 0, 0, 0, 0, (10 : Int32), 0)] (pc' := 59) (ls' := [(7, .inl s0), (0, .inr (.inr y0)), (1, .inl y1), (2, .inl y2), (3, .inl y3), (4, .inl y4), (5, .inl y5), (6, .inl y6)]) (st' := [.inl (10 : Int32), .inl s0]) (m2 := m) (by decide +kernel) rfl trivial ?_
    refine jS.br (i := .if_icmp .lt 5) (P := s0 < (10 : Int32)) (rest := []) rfl (by decide +kernel) (tgt := 64) (by decide) (fun c9 => ?_) (fun c9 => ?_)
    · replace H := jif_t c9 H
      refine jS.adv O [(.iload 4, 0, 0, 0, 0, 0, 0), (.iload 7, 0, 0, 0, 0, 0, 0), (.iconst 4, 0, 0, 0, 0, (4 : Int32), 0), (.iload 6, 0, 0, 0, 0, 0, 0), (.imul, 0, 0, 0, 0, 0, 0), (.ishl, 0, 0, 0, 0, 0, 0), (.ior, 0, 0, 0, 0, 0, 0), (.istore 4, 0, 0, 0, 0, 0, 0), (.iinc 5 1, 0, 0, 0, 0, (1 : Int32), 0), (.iinc 6 1, 0, 0, 0, 0, (1 : Int32), 0), (.goto (-73), 0, 9, 0, 0, 0, 0)] (pc' := 9) (ls' := [(6, .inl (y6 + (1 : Int32))), (5, .inl (y5 + (1 : Int32))), (4, .inl (y4 ||| (jshl s0 ((4 : Int32) * y6)))), (7, .inl s0), (0, .inr (.inr y0)), (1, .inl y1), (2, .inl y2), (3, .inl y3)]) (st' := []) (m2 := m) (by decide +kernel) rfl trivial ?_
      refine jS.loc' [4, 5, 6, 7, 2, 1, 0] (ls' := [(0, .inr (.inr y0)), (1, .inl y1), (2, .inl y2), (3, .inl y3), (4, .inl (y4 ||| (jshl s0 ((4 : Int32) * y6)))), (5, .inl (y5 + (1 : Int32))), (6, .inl (y6 + (1 : Int32)))]) rfl ?_
      exact hB _ _ _ _ _ _ _ _ H h1 h2
    · replace H := jif_f c9 H
      refine jS.adv O [(.iconst (-1), 0, 0, 0, 0, (-1 : Int32), 0)] (pc' := 63) (ls' := [(7, .inl s0), (0, .inr (.inr y0)), (1, .inl y1), (2, .inl y2), (3, .inl y3), (4, .inl y4), (5, .inl y5), (6, .inl y6)]) (st' := [.inl (-1 : Int32)]) (m2 := m) (by decide +kernel) rfl trivial ?_
      replace H := Option.some.inj H
      subst H
      obtain ⟨q1, q2⟩ := h1 _ rfl
      subst q1; subst q2
      exact jS.iret rfl (by decide +kernel)
def c_X4_packed_l9_b (F : Nat) (B : Nat → Int32 → Int32 → Int32 → Int32 → Int32 → Int32 → Option (Int32 ⊕ Int32)) (m : jMe) (y0 : Nat) (y1 : Int32) (y2 : Int32) (y3 : Int32) (y4 : Int32) (y5 : Int32) (y6 : Int32) : Option (Int32 ⊕ Int32) :=
  (if (6 : Int32) ≤ y6 then some (.inr (y4)) else jgd (jK m y0 = 36) <| jb (c_X9_isIn F m (jI m y0 3) y6) fun t4 => (if t4 = 0 then B y0 y1 y2 y3 y4 y5 (y6 + (1 : Int32)) else (if y5 = 0 then c_X4_packed_j48_l9 F B m y0 y1 y2 y3 y4 y5 y6 y1 else (if y5 = (1 : Int32) then c_X4_packed_j48_l9 F B m y0 y1 y2 y3 y4 y5 y6 y2 else c_X4_packed_j48_l9 F B m y0 y1 y2 y3 y4 y5 y6 y3))))
theorem ec_X4_packed_l9_b {X : jX} {l : Launch} {d : Nat} (O : jOk X) (hd : 3 ≤ d) {F : Nat} {m0 m' : jMe} {v : Option jAV} {m : jMe} {B : Nat → Int32 → Int32 → Int32 → Int32 → Int32 → Int32 → Option (Int32 ⊕ Int32)} (hB : ∀ (y0 : Nat) (y1 : Int32) (y2 : Int32) (y3 : Int32) (y4 : Int32) (y5 : Int32) (y6 : Int32) (r : Int32 ⊕ Int32), B y0 y1 y2 y3 y4 y5 y6 = some r → (∀ q, r = .inl q → v = (some (.inl q)) ∧ m' = m) → (∀ e, r = .inr e → jS X l d jm_X4_packed m0 v m' (85, [(4, .inl e)], [], m)) → jS X l d jm_X4_packed m0 v m' (9, [(0, .inr (.inr y0)), (1, .inl y1), (2, .inl y2), (3, .inl y3), (4, .inl y4), (5, .inl y5), (6, .inl y6)], [], m)) {y0 : Nat} {y1 : Int32} {y2 : Int32} {y3 : Int32} {y4 : Int32} {y5 : Int32} {y6 : Int32} {r : Int32 ⊕ Int32} (H : c_X4_packed_l9_b F B m y0 y1 y2 y3 y4 y5 y6 = some r) (h1 : ∀ q, r = .inl q → v = (some (.inl q)) ∧ m' = m) (h2 : ∀ e, r = .inr e → jS X l d jm_X4_packed m0 v m' (85, [(4, .inl e)], [], m)) : jS X l d jm_X4_packed m0 v m' (9, [(0, .inr (.inr y0)), (1, .inl y1), (2, .inl y2), (3, .inl y3), (4, .inl y4), (5, .inl y5), (6, .inl y6)], [], m) := by
  unfold c_X4_packed_l9_b at H
  refine jS.adv O [(.iload 6, 0, 0, 0, 0, 0, 0), (.bipush 6, 0, 0, 0, 0, (6 : Int32), 0)] (pc' := 13) (ls' := [(0, .inr (.inr y0)), (1, .inl y1), (2, .inl y2), (3, .inl y3), (4, .inl y4), (5, .inl y5), (6, .inl y6)]) (st' := [.inl (6 : Int32), .inl y6]) (m2 := m) (by decide +kernel) rfl trivial ?_
  refine jS.br (i := .if_icmp .ge 72) (P := (6 : Int32) ≤ y6) (rest := []) rfl (by decide +kernel) (tgt := 85) (by decide) (fun c1 => ?_) (fun c1 => ?_)
  · replace H := jif_t c1 H
    replace H := Option.some.inj H
    subst H
    refine jS.loc' [4] (ls' := [(4, .inl y4)]) rfl ?_
    exact h2 _ rfl
  · replace H := jif_f c1 H
    obtain ⟨w2, H⟩ := jgd_ok H
    refine jS.adv O [(.aload_n 0, 0, 0, 0, 0, 0, 0), (.getfield 22, 0, 4, 3, 501, 0, 0), (.iload 6, 0, 0, 0, 0, 0, 0)] (pc' := 22) (ls' := [(0, .inr (.inr y0)), (1, .inl y1), (2, .inl y2), (3, .inl y3), (4, .inl y4), (5, .inl y5), (6, .inl y6)]) (st' := [.inl y6, .inl (jI m y0 3)]) (m2 := m) (by decide +kernel) rfl ⟨w2, trivial⟩ ?_
    obtain ⟨t4, w3, H⟩ := jb_ok H
    refine jS.step (c' := (25, [(0, .inr (.inr y0)), (1, .inl y1), (2, .inl y2), (3, .inl y3), (4, .inl y4), (5, .inl y5), (6, .inl y6)], [.inl t4], m)) (jSt.callSN (As := [.inl (jI m y0 3), .inl y6]) (rest := []) O (ec_X9_isIn (d := 2) O (Nat.le_refl _) w3) (by omega) jmw_X9_isIn jmv_X9_isIn jmn_X9_isIn (host := "JoinDraws") (idx := 34) jln_JoinDraws_Relation_34 (Nat.le_of_ble_eq_true rfl) (by decide +kernel)) ?_
    refine jS.br (i := .ifCond .eq 54) (P := t4 = 0) (rest := []) rfl (by decide +kernel) (tgt := 79) (by decide) (fun c5 => ?_) (fun c5 => ?_)
    · replace H := jif_t c5 H
      refine jS.adv O [(.iinc 6 1, 0, 0, 0, 0, (1 : Int32), 0), (.goto (-73), 0, 9, 0, 0, 0, 0)] (pc' := 9) (ls' := [(6, .inl (y6 + (1 : Int32))), (0, .inr (.inr y0)), (1, .inl y1), (2, .inl y2), (3, .inl y3), (4, .inl y4), (5, .inl y5)]) (st' := []) (m2 := m) (by decide +kernel) rfl trivial ?_
      refine jS.loc' [1, 2, 3, 4, 5, 6, 0] (ls' := [(0, .inr (.inr y0)), (1, .inl y1), (2, .inl y2), (3, .inl y3), (4, .inl y4), (5, .inl y5), (6, .inl (y6 + (1 : Int32)))]) rfl ?_
      exact hB _ _ _ _ _ _ _ _ H h1 h2
    · replace H := jif_f c5 H
      refine jS.adv O [(.iload 5, 0, 0, 0, 0, 0, 0)] (pc' := 30) (ls' := [(0, .inr (.inr y0)), (1, .inl y1), (2, .inl y2), (3, .inl y3), (4, .inl y4), (5, .inl y5), (6, .inl y6)]) (st' := [.inl y5]) (m2 := m) (by decide +kernel) rfl trivial ?_
      refine jS.br (i := .ifCond .ne 7) (P := ¬ y5 = 0) (rest := []) rfl (by decide +kernel) (tgt := 37) (by decide) (fun c6 => ?_) (fun c6 => ?_)
      · replace H := jif_f c6 H
        refine jS.adv O [(.iload 5, 0, 0, 0, 0, 0, 0), (.iconst 1, 0, 0, 0, 0, (1 : Int32), 0)] (pc' := 40) (ls' := [(0, .inr (.inr y0)), (1, .inl y1), (2, .inl y2), (3, .inl y3), (4, .inl y4), (5, .inl y5), (6, .inl y6)]) (st' := [.inl (1 : Int32), .inl y5]) (m2 := m) (by decide +kernel) rfl trivial ?_
        refine jS.br (i := .if_icmp .ne 7) (P := ¬ y5 = (1 : Int32)) (rest := []) rfl (by decide +kernel) (tgt := 47) (by decide) (fun c7 => ?_) (fun c7 => ?_)
        · replace H := jif_f c7 H
          refine jS.adv O [(.iload_n 3, 0, 0, 0, 0, 0, 0)] (pc' := 48) (ls' := [(0, .inr (.inr y0)), (1, .inl y1), (2, .inl y2), (3, .inl y3), (4, .inl y4), (5, .inl y5), (6, .inl y6)]) (st' := [.inl y3]) (m2 := m) (by decide +kernel) rfl trivial ?_
          refine jS.loc' [0, 1, 2, 3, 4, 5, 6] (ls' := [(0, .inr (.inr y0)), (1, .inl y1), (2, .inl y2), (3, .inl y3), (4, .inl y4), (5, .inl y5), (6, .inl y6)]) rfl ?_
          exact ec_X4_packed_j48_l9 O hd hB H h1 h2
        · replace H := jif_t (Classical.not_not.mp c7) H
          refine jS.adv O [(.iload_n 2, 0, 0, 0, 0, 0, 0), (.goto 4, 0, 48, 0, 0, 0, 0)] (pc' := 48) (ls' := [(0, .inr (.inr y0)), (1, .inl y1), (2, .inl y2), (3, .inl y3), (4, .inl y4), (5, .inl y5), (6, .inl y6)]) (st' := [.inl y2]) (m2 := m) (by decide +kernel) rfl trivial ?_
          refine jS.loc' [0, 1, 2, 3, 4, 5, 6] (ls' := [(0, .inr (.inr y0)), (1, .inl y1), (2, .inl y2), (3, .inl y3), (4, .inl y4), (5, .inl y5), (6, .inl y6)]) rfl ?_
          exact ec_X4_packed_j48_l9 O hd hB H h1 h2
      · replace H := jif_t (Classical.not_not.mp c6) H
        refine jS.adv O [(.iload_n 1, 0, 0, 0, 0, 0, 0), (.goto 14, 0, 48, 0, 0, 0, 0)] (pc' := 48) (ls' := [(0, .inr (.inr y0)), (1, .inl y1), (2, .inl y2), (3, .inl y3), (4, .inl y4), (5, .inl y5), (6, .inl y6)]) (st' := [.inl y1]) (m2 := m) (by decide +kernel) rfl trivial ?_
        refine jS.loc' [0, 1, 2, 3, 4, 5, 6] (ls' := [(0, .inr (.inr y0)), (1, .inl y1), (2, .inl y2), (3, .inl y3), (4, .inl y4), (5, .inl y5), (6, .inl y6)]) rfl ?_
        exact ec_X4_packed_j48_l9 O hd hB H h1 h2
def c_X4_packed_l9 (F : Nat) (m : jMe) : Nat → Nat → Int32 → Int32 → Int32 → Int32 → Int32 → Int32 → Option (Int32 ⊕ Int32)
  | 0, _, _, _, _, _, _, _ => none
  | n + 1, y0, y1, y2, y3, y4, y5, y6 => c_X4_packed_l9_b F (fun y0 y1 y2 y3 y4 y5 y6 => c_X4_packed_l9 F m n y0 y1 y2 y3 y4 y5 y6) m y0 y1 y2 y3 y4 y5 y6
theorem ec_X4_packed_l9 {X : jX} {l : Launch} {d : Nat} (O : jOk X) (hd : 3 ≤ d) {F : Nat} {m0 m' : jMe} {v : Option jAV} {m : jMe} : ∀ (n : Nat) {y0 : Nat} {y1 : Int32} {y2 : Int32} {y3 : Int32} {y4 : Int32} {y5 : Int32} {y6 : Int32} {r : Int32 ⊕ Int32} (H : c_X4_packed_l9 F m n y0 y1 y2 y3 y4 y5 y6 = some r) (h1 : ∀ q, r = .inl q → v = (some (.inl q)) ∧ m' = m) (h2 : ∀ e, r = .inr e → jS X l d jm_X4_packed m0 v m' (85, [(4, .inl e)], [], m)), jS X l d jm_X4_packed m0 v m' (9, [(0, .inr (.inr y0)), (1, .inl y1), (2, .inl y2), (3, .inl y3), (4, .inl y4), (5, .inl y5), (6, .inl y6)], [], m) := by
  intro n
  induction n with
  | zero =>
    intro y0 y1 y2 y3 y4 y5 y6 r H h1 h2
    cases (show none = some r from H)
  | succ n ih =>
    intro y0 y1 y2 y3 y4 y5 y6 r H h1 h2
    exact ec_X4_packed_l9_b O hd (B := (fun y0 y1 y2 y3 y4 y5 y6 => c_X4_packed_l9 F m n y0 y1 y2 y3 y4 y5 y6)) (fun y0 y1 y2 y3 y4 y5 y6 r H h1 h2 => ih H h1 h2) H h1 h2
def c_X4_packed (F : Nat) (m : jMe) (x0 : Nat) (x1 : Int32) (x2 : Int32) (x3 : Int32) : Option (Int32) :=
  jb2 (c_X4_packed_l9 F m F x0 x1 x2 x3 (0 : Int32) (0 : Int32) (0 : Int32)) (fun q => some q) fun e11 => some e11
theorem ec_X4_packed {X : jX} {l : Launch} {d : Nat} (O : jOk X) (hd : 3 ≤ d) {F : Nat} {m : jMe} {x0 : Nat} {x1 : Int32} {x2 : Int32} {x3 : Int32} {r : Int32} (H : c_X4_packed F m x0 x1 x2 x3 = some r) : jH X l d jm_X4_packed [.inr (.inr x0), .inl x1, .inl x2, .inl x3] m (some (.inl r)) m := by
  refine jH.of jpl_RX4 rfl (Nat.le_of_ble_eq_true rfl) ?_
  show jS X l d jm_X4_packed m _ _ (0, [(0, .inr (.inr x0)), (1, .inl x1), (2, .inl x2), (3, .inl x3)], [], m)
  unfold c_X4_packed at H
  refine jS.adv O [(.iconst 0, 0, 0, 0, 0, (0 : Int32), 0), (.istore 4, 0, 0, 0, 0, 0, 0), (.iconst 0, 0, 0, 0, 0, (0 : Int32), 0), (.istore 5, 0, 0, 0, 0, 0, 0), (.iconst 0, 0, 0, 0, 0, (0 : Int32), 0), (.istore 6, 0, 0, 0, 0, 0, 0)] (pc' := 9) (ls' := [(6, .inl (0 : Int32)), (5, .inl (0 : Int32)), (4, .inl (0 : Int32)), (0, .inr (.inr x0)), (1, .inl x1), (2, .inl x2), (3, .inl x3)]) (st' := []) (m2 := m) (by decide +kernel) rfl trivial ?_
  refine jS.loc' [3, 4, 5, 6, 2, 1, 0] (ls' := [(0, .inr (.inr x0)), (1, .inl x1), (2, .inl x2), (3, .inl x3), (4, .inl (0 : Int32)), (5, .inl (0 : Int32)), (6, .inl (0 : Int32))]) rfl ?_
  rcases jb2_ok H with ⟨q10, w12, H⟩ | ⟨e11, w12, H⟩
  · refine ec_X4_packed_l9 O hd F w12 (fun q2 hq2 => ?_) (fun e2 he2 => by cases he2)
    cases hq2
    cases H
    exact ⟨rfl, rfl⟩
  · refine ec_X4_packed_l9 O hd F w12 (fun q2 hq2 => by cases hq2) (fun e2 he2 => ?_)
    cases he2
    refine jS.adv O [(.iload 4, 0, 0, 0, 0, 0, 0)] (pc' := 87) (ls' := [(4, .inl e11)]) (st' := [.inl e11]) (m2 := m) (by decide +kernel) rfl trivial ?_
    replace H := Option.some.inj H
    subst H
    exact jS.iret rfl (by decide +kernel)
def c_X7_init (F : Nat) (m : jMe) (x0 : Nat) (x1 : Nat) (x2 : Int32) : Option (jMe) :=
  jgd (¬ x0 = 0) <| jgd (¬ (64 : Int32) < 0 ∧ (64 : Int32).toNatClampNeg ≤ 10000) <| jlet (jnew m 1 (64 : Int32).toNatClampNeg (64 : Int32).toNatClampNeg) fun m3 => jgd (jK m3 x0 = 39) <| jb (c_J7_copyOf_59c91 F (jsP m3 x0 1 (32 + jN m)) x1 (if (0 : Int32) < x2 then x2 else (0 : Int32))) fun t6 => jgd (jK t6.2 x0 = 39) <| some (jsP t6.2 x0 0 t6.1)
theorem ec_X7_init {X : jX} {l : Launch} {d : Nat} (O : jOk X) (hd : 3 ≤ d) {F : Nat} {m : jMe} {x0 : Nat} {x1 : Nat} {x2 : Int32} {r : jMe} (H : c_X7_init F m x0 x1 x2 = some r) : jH X l d jm_X7_init [.inr (.inr x0), .inr (.inr x1), .inl x2] m none r := by
  refine jH.of jpl_RX7 rfl (Nat.le_of_ble_eq_true rfl) ?_
  show jS X l d jm_X7_init m _ _ (0, [(0, .inr (.inr x0)), (1, .inr (.inr x1)), (2, .inl x2)], [], m)
  unfold c_X7_init at H
  obtain ⟨w1, H⟩ := jgd_ok H
  refine jS.adv O [(.aload_n 0, 0, 0, 0, 0, 0, 0)] (pc' := 1) (ls' := [(0, .inr (.inr x0)), (1, .inr (.inr x1)), (2, .inl x2)]) (st' := [.inr (.inr x0)]) (m2 := m) (by decide +kernel) rfl trivial ?_
  refine jS.step (c' := (4, [(0, .inr (.inr x0)), (1, .inr (.inr x1)), (2, .inl x2)], [], m)) (jSt.obj (idx := 1) (by omega) w1 (jW_of 551 (by decide +kernel) rfl) (jW_of 267 (by decide +kernel) rfl) (jW_of 268 (by decide +kernel) rfl) (Nat.le_of_ble_eq_true rfl) (by decide +kernel)) ?_
  obtain ⟨w2, H⟩ := jgd_ok H
  obtain ⟨m3, em3, H⟩ := jlet_ok H
  refine jS.adv O [(.aload_n 0, 0, 0, 0, 0, 0, 0), (.bipush 64, 0, 0, 0, 0, (64 : Int32), 0), (.newarray .int, 0, 1, 313, 0, 0, 0)] (pc' := 9) (ls' := [(0, .inr (.inr x0)), (1, .inr (.inr x1)), (2, .inl x2)]) (st' := [.inr (.inr (32 + jN m)), .inr (.inr x0)]) (m2 := (jnew m 1 (64 : Int32).toNatClampNeg (64 : Int32).toNatClampNeg)) (by decide +kernel) rfl ⟨w2, trivial⟩ ?_
  refine jS.cast (c' := (9, [(0, .inr (.inr x0)), (1, .inr (.inr x1)), (2, .inl x2)], [.inr (.inr (32 + jN m)), .inr (.inr x0)], m3)) (by rw [em3]) ?_
  obtain ⟨w4, H⟩ := jgd_ok H
  refine jS.adv O [(.putfield 9, 0, 7, 1, 572, 0, 0), (.aload_n 0, 0, 0, 0, 0, 0, 0), (.aload_n 1, 0, 0, 0, 0, 0, 0), (.iconst 0, 0, 0, 0, 0, (0 : Int32), 0), (.iload_n 2, 0, 0, 0, 0, 0, 0)] (pc' := 16) (ls' := [(0, .inr (.inr x0)), (1, .inr (.inr x1)), (2, .inl x2)]) (st' := [.inl x2, .inl (0 : Int32), .inr (.inr x1), .inr (.inr x0)]) (m2 := (jsP m3 x0 1 (32 + jN m))) (by decide +kernel) rfl ⟨w4, trivial⟩ ?_
  refine jS.step (c' := (19, [(0, .inr (.inr x0)), (1, .inr (.inr x1)), (2, .inl x2)], [.inl (if (0 : Int32) < x2 then x2 else (0 : Int32)), .inr (.inr x1), .inr (.inr x0)], (jsP m3 x0 1 (32 + jN m)))) (jSt.mmax (idx := 13) (by omega) (jW_of 552 (by decide +kernel) rfl) (jW_of 553 (by decide +kernel) rfl) (jW_of 251 (by decide +kernel) rfl) (jW_of 554 (by decide +kernel) rfl) (Nat.le_of_ble_eq_true rfl) (by decide +kernel)) ?_
  obtain ⟨t6, w5, H⟩ := jb_ok H
  refine jS.step (c' := (22, [(0, .inr (.inr x0)), (1, .inr (.inr x1)), (2, .inl x2)], [.inr (.inr t6.1), .inr (.inr x0)], t6.2)) (jSt.callS (As := [.inr (.inr x1), .inl (if (0 : Int32) < x2 then x2 else (0 : Int32))]) (rest := [.inr (.inr x0)]) O (ec_J7_copyOf_59c91 (d := 2) O (Nat.le_refl _) w5) (by omega) jmw_J7_copyOf_59c91 jmv_J7_copyOf_59c91 jmn_J7_copyOf_59c91 (idx := 19) (jW_of 555 (by decide +kernel) rfl) (Nat.le_of_ble_eq_true rfl) (by decide +kernel)) ?_
  obtain ⟨w7, H⟩ := jgd_ok H
  refine jS.adv O [(.putfield 25, 0, 7, 0, 571, 0, 0)] (pc' := 25) (ls' := [(0, .inr (.inr x0)), (1, .inr (.inr x1)), (2, .inl x2)]) (st' := []) (m2 := (jsP t6.2 x0 0 t6.1)) (by decide +kernel) rfl ⟨w7, trivial⟩ ?_
  replace H := Option.some.inj H
  subst H
  exact jS.vret rfl (by decide +kernel)
