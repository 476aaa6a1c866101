/-! JoinDraws -/
def c_X9_init_l132_b (F : Nat) (B : jMe → Nat → Int32 → Option (jMe × Nat)) (m : jMe) (y0 : Nat) (y1 : Int32) : Option (jMe × Nat) :=
  (if (4 : Int32) ≤ y1 then some (m, y0) else jgd (jK m y0 = 41) <| jlet (jnew m (32 + 4) 0 (jnf 4)) fun m42 => jb (c_X4_init F m42 (32 + jN m)) fun t44 => jgd (jK t44 (jP m y0 0) = 5) <| jgd (jin y1 (jZ t44 (jP m y0 0)) = true) <| jgd (jK t44 (32 + jN m) = 36) <| B (jsP t44 (jP m y0 0) y1.toNatClampNeg (32 + jN m)) y0 (y1 + (1 : Int32)))
theorem ec_X9_init_l132_b {X : jX} {l : Launch} {d : Nat} (O : jOk X) (hd : 4 ≤ d) {F : Nat} {m0 m' : jMe} {v : Option jAV} {B : jMe → Nat → Int32 → Option (jMe × Nat)} (hB : ∀ (m : jMe) (y0 : Nat) (y1 : Int32) (r : jMe × Nat), B m y0 y1 = some r → (jS X l d jm_X9_init m0 v m' (156, [(0, .inr (.inr r.2))], [], r.1)) → jS X l d jm_X9_init m0 v m' (132, [(0, .inr (.inr y0)), (1, .inl y1)], [], m)) {m : jMe} {y0 : Nat} {y1 : Int32} {r : jMe × Nat} (H : c_X9_init_l132_b F B m y0 y1 = some r) (h2 : jS X l d jm_X9_init m0 v m' (156, [(0, .inr (.inr r.2))], [], r.1)) : jS X l d jm_X9_init m0 v m' (132, [(0, .inr (.inr y0)), (1, .inl y1)], [], m) := by
  unfold c_X9_init_l132_b at H
  refine jS.adv O [(.iload_n 1, 0, 0, 0, 0, 0, 0), (.iconst 4, 0, 0, 0, 0, (4 : Int32), 0)] (pc' := 134) (ls' := [(0, .inr (.inr y0)), (1, .inl y1)]) (st' := [.inl (4 : Int32), .inl y1]) (m2 := m) (by decide +kernel) rfl trivial ?_
  refine jS.br (i := .if_icmp .ge 22) (P := (4 : Int32) ≤ y1) (rest := []) rfl (by decide +kernel) (tgt := 156) (by decide) (fun c40 => ?_) (fun c40 => ?_)
  · replace H := jif_t c40 H
    replace H := Option.some.inj H
    subst H
    refine jS.loc' [0] (ls' := [(0, .inr (.inr y0))]) rfl ?_
    exact h2
  · replace H := jif_f c40 H
    obtain ⟨w41, H⟩ := jgd_ok H
    obtain ⟨m42, em42, H⟩ := jlet_ok H
    refine jS.adv O [(.aload_n 0, 0, 0, 0, 0, 0, 0), (.getfield 11, 0, 9, 0, 578, 0, 0), (.iload_n 1, 0, 0, 0, 0, 0, 0), (.new 9, 0, 4, 269, 486, 0, 0)] (pc' := 145) (ls' := [(0, .inr (.inr y0)), (1, .inl y1)]) (st' := [.inr (.inr (32 + jN m)), .inl y1, .inr (.inr (jP m y0 0))]) (m2 := (jnew m (32 + 4) 0 (jnf 4))) (by decide +kernel) rfl ⟨w41, trivial⟩ ?_
    refine jS.cast (c' := (145, [(0, .inr (.inr y0)), (1, .inl y1)], [.inr (.inr (32 + jN m)), .inl y1, .inr (.inr (jP m y0 0))], m42)) (by rw [em42]) ?_
    refine jS.adv O [(.dup, 0, 0, 0, 0, 0, 0)] (pc' := 146) (ls' := [(0, .inr (.inr y0)), (1, .inl y1)]) (st' := [.inr (.inr (32 + jN m)), .inr (.inr (32 + jN m)), .inl y1, .inr (.inr (jP m y0 0))]) (m2 := m42) (by decide +kernel) rfl trivial ?_
    obtain ⟨t44, w43, H⟩ := jb_ok H
    refine jS.step (c' := (149, [(0, .inr (.inr y0)), (1, .inl y1)], [.inr (.inr (32 + jN m)), .inl y1, .inr (.inr (jP m y0 0))], t44)) (jSt.callIN (As := []) (rest := [.inr (.inr (32 + jN m)), .inl y1, .inr (.inr (jP m y0 0))]) O (ec_X4_init (d := 2) O (Nat.le_refl _) w43) (by omega) (by omega) jmw_X4_init jmv_X4_init jmn_X4_init (host := "JoinDraws") (idx := 85) jln_JoinDraws_85 (Nat.le_of_ble_eq_true rfl) (by decide +kernel)) ?_
    obtain ⟨w45, H⟩ := jgd_ok H
    obtain ⟨w46, H⟩ := jgd_ok H
    obtain ⟨w47, H⟩ := jgd_ok H
    refine jS.adv O [(.aastore, 0, 5, 4, 0, 0, 0), (.iinc 1 1, 0, 0, 0, 0, (1 : Int32), 0), (.goto (-21), 0, 132, 0, 0, 0, 0)] (pc' := 132) (ls' := [(1, .inl (y1 + (1 : Int32))), (0, .inr (.inr y0))]) (st' := []) (m2 := (jsP t44 (jP m y0 0) y1.toNatClampNeg (32 + jN m))) (by decide +kernel) rfl ⟨⟨w45, jib_ok w46, w47⟩, trivial⟩ ?_
    refine jS.loc' [1, 0] (ls' := [(0, .inr (.inr y0)), (1, .inl (y1 + (1 : Int32)))]) rfl ?_
    exact hB _ _ _ _ H h2
def c_X9_init_l132 (F : Nat) : Nat → jMe → Nat → Int32 → Option (jMe × Nat)
  | 0, _, _, _ => none
  | n + 1, m, y0, y1 => c_X9_init_l132_b F (fun m y0 y1 => c_X9_init_l132 F n m y0 y1) m y0 y1
theorem ec_X9_init_l132 {X : jX} {l : Launch} {d : Nat} (O : jOk X) (hd : 4 ≤ d) {F : Nat} {m0 m' : jMe} {v : Option jAV} : ∀ (n : Nat) {m : jMe} {y0 : Nat} {y1 : Int32} {r : jMe × Nat} (H : c_X9_init_l132 F n m y0 y1 = some r) (h2 : jS X l d jm_X9_init m0 v m' (156, [(0, .inr (.inr r.2))], [], r.1)), jS X l d jm_X9_init m0 v m' (132, [(0, .inr (.inr y0)), (1, .inl y1)], [], m) := by
  intro n
  induction n with
  | zero =>
    intro m y0 y1 r H h2
    cases (show none = some r from H)
  | succ n ih =>
    intro m y0 y1 r H h2
    exact ec_X9_init_l132_b O hd (B := (fun m y0 y1 => c_X9_init_l132 F n m y0 y1)) (fun m y0 y1 r H h2 => ih H h2) H h2
def c_X9_init_l158_b (F : Nat) (B : jMe → Nat → Int32 → Option (jMe × Nat)) (m : jMe) (y0 : Nat) (y1 : Int32) : Option (jMe × Nat) :=
  (if (4 : Int32) ≤ y1 then some (m, y0) else jgd (jK m y0 = 41) <| jlet (jnew m (32 + 5) 0 (jnf 5)) fun m53 => jb (c_X5_init F m53 (32 + jN m)) fun t55 => jgd (jK t55 (jP m y0 2) = 7) <| jgd (jin y1 (jZ t55 (jP m y0 2)) = true) <| jgd (jK t55 (32 + jN m) = 37) <| B (jsP t55 (jP m y0 2) y1.toNatClampNeg (32 + jN m)) y0 (y1 + (1 : Int32)))
theorem ec_X9_init_l158_b {X : jX} {l : Launch} {d : Nat} (O : jOk X) (hd : 4 ≤ d) {F : Nat} {m0 m' : jMe} {v : Option jAV} {B : jMe → Nat → Int32 → Option (jMe × Nat)} (hB : ∀ (m : jMe) (y0 : Nat) (y1 : Int32) (r : jMe × Nat), B m y0 y1 = some r → (jS X l d jm_X9_init m0 v m' (182, [(0, .inr (.inr r.2))], [], r.1)) → jS X l d jm_X9_init m0 v m' (158, [(0, .inr (.inr y0)), (1, .inl y1)], [], m)) {m : jMe} {y0 : Nat} {y1 : Int32} {r : jMe × Nat} (H : c_X9_init_l158_b F B m y0 y1 = some r) (h2 : jS X l d jm_X9_init m0 v m' (182, [(0, .inr (.inr r.2))], [], r.1)) : jS X l d jm_X9_init m0 v m' (158, [(0, .inr (.inr y0)), (1, .inl y1)], [], m) := by
  unfold c_X9_init_l158_b at H
  refine jS.adv O [(.iload_n 1, 0, 0, 0, 0, 0, 0), (.iconst 4, 0, 0, 0, 0, (4 : Int32), 0)] (pc' := 160) (ls' := [(0, .inr (.inr y0)), (1, .inl y1)]) (st' := [.inl (4 : Int32), .inl y1]) (m2 := m) (by decide +kernel) rfl trivial ?_
  refine jS.br (i := .if_icmp .ge 22) (P := (4 : Int32) ≤ y1) (rest := []) rfl (by decide +kernel) (tgt := 182) (by decide) (fun c51 => ?_) (fun c51 => ?_)
  · replace H := jif_t c51 H
    replace H := Option.some.inj H
    subst H
    refine jS.loc' [0] (ls' := [(0, .inr (.inr y0))]) rfl ?_
    exact h2
  · replace H := jif_f c51 H
    obtain ⟨w52, H⟩ := jgd_ok H
    obtain ⟨m53, em53, H⟩ := jlet_ok H
    refine jS.adv O [(.aload_n 0, 0, 0, 0, 0, 0, 0), (.getfield 23, 0, 9, 2, 580, 0, 0), (.iload_n 1, 0, 0, 0, 0, 0, 0), (.new 21, 0, 5, 273, 529, 0, 0)] (pc' := 171) (ls' := [(0, .inr (.inr y0)), (1, .inl y1)]) (st' := [.inr (.inr (32 + jN m)), .inl y1, .inr (.inr (jP m y0 2))]) (m2 := (jnew m (32 + 5) 0 (jnf 5))) (by decide +kernel) rfl ⟨w52, trivial⟩ ?_
    refine jS.cast (c' := (171, [(0, .inr (.inr y0)), (1, .inl y1)], [.inr (.inr (32 + jN m)), .inl y1, .inr (.inr (jP m y0 2))], m53)) (by rw [em53]) ?_
    refine jS.adv O [(.dup, 0, 0, 0, 0, 0, 0)] (pc' := 172) (ls' := [(0, .inr (.inr y0)), (1, .inl y1)]) (st' := [.inr (.inr (32 + jN m)), .inr (.inr (32 + jN m)), .inl y1, .inr (.inr (jP m y0 2))]) (m2 := m53) (by decide +kernel) rfl trivial ?_
    obtain ⟨t55, w54, H⟩ := jb_ok H
    refine jS.step (c' := (175, [(0, .inr (.inr y0)), (1, .inl y1)], [.inr (.inr (32 + jN m)), .inl y1, .inr (.inr (jP m y0 2))], t55)) (jSt.callIN (As := []) (rest := [.inr (.inr (32 + jN m)), .inl y1, .inr (.inr (jP m y0 2))]) O (ec_X5_init (d := 2) O (Nat.le_refl _) w54) (by omega) (by omega) jmw_X5_init jmv_X5_init jmn_X5_init (host := "JoinDraws") (idx := 86) jln_JoinDraws_86 (Nat.le_of_ble_eq_true rfl) (by decide +kernel)) ?_
    obtain ⟨w56, H⟩ := jgd_ok H
    obtain ⟨w57, H⟩ := jgd_ok H
    obtain ⟨w58, H⟩ := jgd_ok H
    refine jS.adv O [(.aastore, 0, 7, 5, 0, 0, 0), (.iinc 1 1, 0, 0, 0, 0, (1 : Int32), 0), (.goto (-21), 0, 158, 0, 0, 0, 0)] (pc' := 158) (ls' := [(1, .inl (y1 + (1 : Int32))), (0, .inr (.inr y0))]) (st' := []) (m2 := (jsP t55 (jP m y0 2) y1.toNatClampNeg (32 + jN m))) (by decide +kernel) rfl ⟨⟨w56, jib_ok w57, w58⟩, trivial⟩ ?_
    refine jS.loc' [1, 0] (ls' := [(0, .inr (.inr y0)), (1, .inl (y1 + (1 : Int32)))]) rfl ?_
    exact hB _ _ _ _ H h2
def c_X9_init_l158 (F : Nat) : Nat → jMe → Nat → Int32 → Option (jMe × Nat)
  | 0, _, _, _ => none
  | n + 1, m, y0, y1 => c_X9_init_l158_b F (fun m y0 y1 => c_X9_init_l158 F n m y0 y1) m y0 y1
theorem ec_X9_init_l158 {X : jX} {l : Launch} {d : Nat} (O : jOk X) (hd : 4 ≤ d) {F : Nat} {m0 m' : jMe} {v : Option jAV} : ∀ (n : Nat) {m : jMe} {y0 : Nat} {y1 : Int32} {r : jMe × Nat} (H : c_X9_init_l158 F n m y0 y1 = some r) (h2 : jS X l d jm_X9_init m0 v m' (182, [(0, .inr (.inr r.2))], [], r.1)), jS X l d jm_X9_init m0 v m' (158, [(0, .inr (.inr y0)), (1, .inl y1)], [], m) := by
  intro n
  induction n with
  | zero =>
    intro m y0 y1 r H h2
    cases (show none = some r from H)
  | succ n ih =>
    intro m y0 y1 r H h2
    exact ec_X9_init_l158_b O hd (B := (fun m y0 y1 => c_X9_init_l158 F n m y0 y1)) (fun m y0 y1 r H h2 => ih H h2) H h2
def c_X9_init (F : Nat) (m : jMe) (x0 : Nat) : Option (jMe) :=
  jgd (¬ x0 = 0) <| jgd (¬ (4 : Int32) < 0 ∧ (4 : Int32).toNatClampNeg ≤ 10000) <| jlet (jnew m 5 (4 : Int32).toNatClampNeg (4 : Int32).toNatClampNeg) fun m3 => jgd (jK m3 x0 = 41) <| jgd (¬ (6 : Int32) < 0 ∧ (6 : Int32).toNatClampNeg ≤ 10000) <| jlet (jnew (jsP m3 x0 0 (32 + jN m)) 6 (6 : Int32).toNatClampNeg (6 : Int32).toNatClampNeg) fun m6 => jgd (jK m6 x0 = 41) <| jgd (¬ (4 : Int32) < 0 ∧ (4 : Int32).toNatClampNeg ≤ 10000) <| jlet (jnew (jsP m6 x0 1 (32 + jN (jsP m3 x0 0 (32 + jN m)))) 7 (4 : Int32).toNatClampNeg (4 : Int32).toNatClampNeg) fun m9 => jgd (jK m9 x0 = 41) <| jlet (jnew (jsP m9 x0 2 (32 + jN (jsP m6 x0 1 (32 + jN (jsP m3 x0 0 (32 + jN m)))))) (32 + 3) 0 (jnf 3)) fun m11 => jb (c_X3_init F m11 (32 + jN (jsP m9 x0 2 (32 + jN (jsP m6 x0 1 (32 + jN (jsP m3 x0 0 (32 + jN m)))))))) fun t13 => jgd (jK t13 x0 = 41) <| jlet (jnew (jsP t13 x0 3 (32 + jN (jsP m9 x0 2 (32 + jN (jsP m6 x0 1 (32 + jN (jsP m3 x0 0 (32 + jN m)))))))) (32 + 1) 0 (jnf 1)) fun m15 => jb (c_X1_init F m15 (32 + jN (jsP t13 x0 3 (32 + jN (jsP m9 x0 2 (32 + jN (jsP m6 x0 1 (32 + jN (jsP m3 x0 0 (32 + jN m)))))))))) fun t17 => jgd (jK t17 x0 = 41) <| jlet (jnew (jsP t17 x0 4 (32 + jN (jsP t13 x0 3 (32 + jN (jsP m9 x0 2 (32 + jN (jsP m6 x0 1 (32 + jN (jsP m3 x0 0 (32 + jN m)))))))))) (32 + 6) 0 (jnf 6)) fun m19 => jb (c_X6_init F m19 (32 + jN (jsP t17 x0 4 (32 + jN (jsP t13 x0 3 (32 + jN (jsP m9 x0 2 (32 + jN (jsP m6 x0 1 (32 + jN (jsP m3 x0 0 (32 + jN m)))))))))))) fun t21 => jgd (jK t21 x0 = 41) <| jgd (¬ (12 : Int32) < 0 ∧ (12 : Int32).toNatClampNeg ≤ 10000) <| jlet (jnew (jsP t21 x0 5 (32 + jN (jsP t17 x0 4 (32 + jN (jsP t13 x0 3 (32 + jN (jsP m9 x0 2 (32 + jN (jsP m6 x0 1 (32 + jN (jsP m3 x0 0 (32 + jN m)))))))))))) 1 (12 : Int32).toNatClampNeg (12 : Int32).toNatClampNeg) fun m24 => jgd (jK m24 x0 = 41) <| jlet (jsP m24 x0 6 (32 + jN (jsP t21 x0 5 (32 + jN (jsP t17 x0 4 (32 + jN (jsP t13 x0 3 (32 + jN (jsP m9 x0 2 (32 + jN (jsP m6 x0 1 (32 + jN (jsP m3 x0 0 (32 + jN m)))))))))))))) fun m26 => jgd (¬ (12 : Int32) < 0 ∧ (12 : Int32).toNatClampNeg ≤ 10000) <| jlet (jnew m26 1 (12 : Int32).toNatClampNeg (12 : Int32).toNatClampNeg) fun m28 => jgd (jK m28 x0 = 41) <| jlet (jnew (jsP m28 x0 7 (32 + jN m26)) (32 + 2) 0 (jnf 2)) fun m30 => jb (c_X2_init F m30 (32 + jN (jsP m28 x0 7 (32 + jN m26)))) fun t32 => jgd (jK t32 x0 = 41) <| jlet (jnew (jsP t32 x0 8 (32 + jN (jsP m28 x0 7 (32 + jN m26)))) (32 + 2) 0 (jnf 2)) fun m34 => jb (c_X2_init F m34 (32 + jN (jsP t32 x0 8 (32 + jN (jsP m28 x0 7 (32 + jN m26)))))) fun t36 => jgd (jK t36 x0 = 41) <| jlet (jsI (jsI (jsI (jsI (jsP t36 x0 9 (32 + jN (jsP t32 x0 8 (32 + jN (jsP m28 x0 7 (32 + jN m26)))))) x0 10 (1 : Int32)) x0 11 (0 : Int32)) x0 12 (1 : Int32)) x0 13 (0 : Int32)) fun m38 => jgd (jK m38 x0 = 41) <| jb (c_X9_init_l132 F F (jsI (jsI m38 x0 14 (0 : Int32)) x0 15 (0 : Int32)) x0 (0 : Int32)) fun e49 => jb (c_X9_init_l158 F F e49.1 e49.2 (0 : Int32)) fun e60 => jgd (jK e60.1 e60.2 = 41) <| jlet (jnew e60.1 (32 + 7) 0 (jnf 7)) fun m63 => jgd (¬ (1 : Int32) < 0 ∧ (1 : Int32).toNatClampNeg ≤ 10000) <| jlet (jnew m63 1 (1 : Int32).toNatClampNeg (1 : Int32).toNatClampNeg) fun m65 => jgd (jK m65 (32 + jN m63) = 1) <| jgd (jin (0 : Int32) (jZ m65 (32 + jN m63)) = true) <| jb (c_X7_init F (jsI m65 (32 + jN m63) (0 : Int32).toNatClampNeg (16 : Int32)) (32 + jN e60.1) (32 + jN m63) (1 : Int32)) fun t69 => jgd (jK t69 (jP e60.1 e60.2 1) = 6) <| jgd (jin (0 : Int32) (jZ t69 (jP e60.1 e60.2 1)) = true) <| jgd (jK t69 (32 + jN e60.1) = 39) <| some (jsP t69 (jP e60.1 e60.2 1) (0 : Int32).toNatClampNeg (32 + jN e60.1))
theorem ec_X9_init {X : jX} {l : Launch} {d : Nat} (O : jOk X) (hd : 4 ≤ d) {F : Nat} {m : jMe} {x0 : Nat} {r : jMe} (H : c_X9_init F m x0 = some r) : jH X l d jm_X9_init [.inr (.inr x0)] m none r := by
  refine jH.of jpl_RX9 rfl (Nat.le_of_ble_eq_true rfl) ?_
  show jS X l d jm_X9_init m _ _ (0, [(0, .inr (.inr x0))], [], m)
  unfold c_X9_init at H
  obtain ⟨w1, H⟩ := jgd_ok H
  refine jS.adv O [(.aload_n 0, 0, 0, 0, 0, 0, 0)] (pc' := 1) (ls' := [(0, .inr (.inr x0))]) (st' := [.inr (.inr x0)]) (m2 := m) (by decide +kernel) rfl trivial ?_
  refine jS.step (c' := (4, [(0, .inr (.inr x0))], [], m)) (jSt.obj (idx := 1) (by omega) w1 (jW_of 266 (by decide +kernel) rfl) (jW_of 267 (by decide +kernel) rfl) (jW_of 268 (by decide +kernel) rfl) (Nat.le_of_ble_eq_true rfl) (by decide +kernel)) ?_
  obtain ⟨w2, H⟩ := jgd_ok H
  obtain ⟨m3, em3, H⟩ := jlet_ok H
  refine jS.adv O [(.aload_n 0, 0, 0, 0, 0, 0, 0), (.iconst 4, 0, 0, 0, 0, (4 : Int32), 0), (.anewarray 9, 0, 5, 269, 0, 0, 0)] (pc' := 9) (ls' := [(0, .inr (.inr x0))]) (st' := [.inr (.inr (32 + jN m)), .inr (.inr x0)]) (m2 := (jnew m 5 (4 : Int32).toNatClampNeg (4 : Int32).toNatClampNeg)) (by decide +kernel) rfl ⟨w2, trivial⟩ ?_
  refine jS.cast (c' := (9, [(0, .inr (.inr x0))], [.inr (.inr (32 + jN m)), .inr (.inr x0)], m3)) (by rw [em3]) ?_
  obtain ⟨w4, H⟩ := jgd_ok H
  obtain ⟨w5, H⟩ := jgd_ok H
  obtain ⟨m6, em6, H⟩ := jlet_ok H
  refine jS.adv O [(.putfield 11, 0, 9, 0, 578, 0, 0), (.aload_n 0, 0, 0, 0, 0, 0, 0), (.bipush 6, 0, 0, 0, 0, (6 : Int32), 0), (.anewarray 15, 0, 6, 271, 0, 0, 0)] (pc' := 18) (ls' := [(0, .inr (.inr x0))]) (st' := [.inr (.inr (32 + jN (jsP m3 x0 0 (32 + jN m)))), .inr (.inr x0)]) (m2 := (jnew (jsP m3 x0 0 (32 + jN m)) 6 (6 : Int32).toNatClampNeg (6 : Int32).toNatClampNeg)) (by decide +kernel) rfl ⟨w4, w5, trivial⟩ ?_
  refine jS.cast (c' := (18, [(0, .inr (.inr x0))], [.inr (.inr (32 + jN (jsP m3 x0 0 (32 + jN m)))), .inr (.inr x0)], m6)) (by rw [em6]) ?_
  obtain ⟨w7, H⟩ := jgd_ok H
  obtain ⟨w8, H⟩ := jgd_ok H
  obtain ⟨m9, em9, H⟩ := jlet_ok H
  refine jS.adv O [(.putfield 17, 0, 9, 1, 579, 0, 0), (.aload_n 0, 0, 0, 0, 0, 0, 0), (.iconst 4, 0, 0, 0, 0, (4 : Int32), 0), (.anewarray 21, 0, 7, 273, 0, 0, 0)] (pc' := 26) (ls' := [(0, .inr (.inr x0))]) (st' := [.inr (.inr (32 + jN (jsP m6 x0 1 (32 + jN (jsP m3 x0 0 (32 + jN m)))))), .inr (.inr x0)]) (m2 := (jnew (jsP m6 x0 1 (32 + jN (jsP m3 x0 0 (32 + jN m)))) 7 (4 : Int32).toNatClampNeg (4 : Int32).toNatClampNeg)) (by decide +kernel) rfl ⟨w7, w8, trivial⟩ ?_
  refine jS.cast (c' := (26, [(0, .inr (.inr x0))], [.inr (.inr (32 + jN (jsP m6 x0 1 (32 + jN (jsP m3 x0 0 (32 + jN m)))))), .inr (.inr x0)], m9)) (by rw [em9]) ?_
  obtain ⟨w10, H⟩ := jgd_ok H
  obtain ⟨m11, em11, H⟩ := jlet_ok H
  refine jS.adv O [(.putfield 23, 0, 9, 2, 580, 0, 0), (.aload_n 0, 0, 0, 0, 0, 0, 0), (.new 27, 0, 3, 275, 276, 0, 0)] (pc' := 33) (ls' := [(0, .inr (.inr x0))]) (st' := [.inr (.inr (32 + jN (jsP m9 x0 2 (32 + jN (jsP m6 x0 1 (32 + jN (jsP m3 x0 0 (32 + jN m)))))))), .inr (.inr x0)]) (m2 := (jnew (jsP m9 x0 2 (32 + jN (jsP m6 x0 1 (32 + jN (jsP m3 x0 0 (32 + jN m)))))) (32 + 3) 0 (jnf 3))) (by decide +kernel) rfl ⟨w10, trivial⟩ ?_
  refine jS.cast (c' := (33, [(0, .inr (.inr x0))], [.inr (.inr (32 + jN (jsP m9 x0 2 (32 + jN (jsP m6 x0 1 (32 + jN (jsP m3 x0 0 (32 + jN m)))))))), .inr (.inr x0)], m11)) (by rw [em11]) ?_
  refine jS.adv O [(.dup, 0, 0, 0, 0, 0, 0)] (pc' := 34) (ls' := [(0, .inr (.inr x0))]) (st' := [.inr (.inr (32 + jN (jsP m9 x0 2 (32 + jN (jsP m6 x0 1 (32 + jN (jsP m3 x0 0 (32 + jN m)))))))), .inr (.inr (32 + jN (jsP m9 x0 2 (32 + jN (jsP m6 x0 1 (32 + jN (jsP m3 x0 0 (32 + jN m)))))))), .inr (.inr x0)]) (m2 := m11) (by decide +kernel) rfl trivial ?_
  obtain ⟨t13, w12, H⟩ := jb_ok H
  refine jS.step (c' := (37, [(0, .inr (.inr x0))], [.inr (.inr (32 + jN (jsP m9 x0 2 (32 + jN (jsP m6 x0 1 (32 + jN (jsP m3 x0 0 (32 + jN m)))))))), .inr (.inr x0)], t13)) (jSt.callIN (As := []) (rest := [.inr (.inr (32 + jN (jsP m9 x0 2 (32 + jN (jsP m6 x0 1 (32 + jN (jsP m3 x0 0 (32 + jN m)))))))), .inr (.inr x0)]) O (ec_X3_init (d := 2) O (Nat.le_refl _) w12) (by omega) (by omega) jmw_X3_init jmv_X3_init jmn_X3_init (host := "JoinDraws") (idx := 29) jln_JoinDraws_29 (Nat.le_of_ble_eq_true rfl) (by decide +kernel)) ?_
  obtain ⟨w14, H⟩ := jgd_ok H
  obtain ⟨m15, em15, H⟩ := jlet_ok H
  refine jS.adv O [(.putfield 30, 0, 9, 3, 581, 0, 0), (.aload_n 0, 0, 0, 0, 0, 0, 0), (.new 34, 0, 1, 314, 315, 0, 0)] (pc' := 44) (ls' := [(0, .inr (.inr x0))]) (st' := [.inr (.inr (32 + jN (jsP t13 x0 3 (32 + jN (jsP m9 x0 2 (32 + jN (jsP m6 x0 1 (32 + jN (jsP m3 x0 0 (32 + jN m)))))))))), .inr (.inr x0)]) (m2 := (jnew (jsP t13 x0 3 (32 + jN (jsP m9 x0 2 (32 + jN (jsP m6 x0 1 (32 + jN (jsP m3 x0 0 (32 + jN m)))))))) (32 + 1) 0 (jnf 1))) (by decide +kernel) rfl ⟨w14, trivial⟩ ?_
  refine jS.cast (c' := (44, [(0, .inr (.inr x0))], [.inr (.inr (32 + jN (jsP t13 x0 3 (32 + jN (jsP m9 x0 2 (32 + jN (jsP m6 x0 1 (32 + jN (jsP m3 x0 0 (32 + jN m)))))))))), .inr (.inr x0)], m15)) (by rw [em15]) ?_
  refine jS.adv O [(.dup, 0, 0, 0, 0, 0, 0)] (pc' := 45) (ls' := [(0, .inr (.inr x0))]) (st' := [.inr (.inr (32 + jN (jsP t13 x0 3 (32 + jN (jsP m9 x0 2 (32 + jN (jsP m6 x0 1 (32 + jN (jsP m3 x0 0 (32 + jN m)))))))))), .inr (.inr (32 + jN (jsP t13 x0 3 (32 + jN (jsP m9 x0 2 (32 + jN (jsP m6 x0 1 (32 + jN (jsP m3 x0 0 (32 + jN m)))))))))), .inr (.inr x0)]) (m2 := m15) (by decide +kernel) rfl trivial ?_
  obtain ⟨t17, w16, H⟩ := jb_ok H
  refine jS.step (c' := (48, [(0, .inr (.inr x0))], [.inr (.inr (32 + jN (jsP t13 x0 3 (32 + jN (jsP m9 x0 2 (32 + jN (jsP m6 x0 1 (32 + jN (jsP m3 x0 0 (32 + jN m)))))))))), .inr (.inr x0)], t17)) (jSt.callIN (As := []) (rest := [.inr (.inr (32 + jN (jsP t13 x0 3 (32 + jN (jsP m9 x0 2 (32 + jN (jsP m6 x0 1 (32 + jN (jsP m3 x0 0 (32 + jN m)))))))))), .inr (.inr x0)]) O (ec_X1_init (d := 2) O (Nat.le_refl _) w16) (by omega) (by omega) jmw_X1_init jmv_X1_init jmn_X1_init (host := "JoinDraws") (idx := 36) jln_JoinDraws_36 (Nat.le_of_ble_eq_true rfl) (by decide +kernel)) ?_
  obtain ⟨w18, H⟩ := jgd_ok H
  obtain ⟨m19, em19, H⟩ := jlet_ok H
  refine jS.adv O [(.putfield 37, 0, 9, 4, 582, 0, 0), (.aload_n 0, 0, 0, 0, 0, 0, 0), (.new 41, 0, 6, 346, 347, 0, 0)] (pc' := 55) (ls' := [(0, .inr (.inr x0))]) (st' := [.inr (.inr (32 + jN (jsP t17 x0 4 (32 + jN (jsP t13 x0 3 (32 + jN (jsP m9 x0 2 (32 + jN (jsP m6 x0 1 (32 + jN (jsP m3 x0 0 (32 + jN m)))))))))))), .inr (.inr x0)]) (m2 := (jnew (jsP t17 x0 4 (32 + jN (jsP t13 x0 3 (32 + jN (jsP m9 x0 2 (32 + jN (jsP m6 x0 1 (32 + jN (jsP m3 x0 0 (32 + jN m)))))))))) (32 + 6) 0 (jnf 6))) (by decide +kernel) rfl ⟨w18, trivial⟩ ?_
  refine jS.cast (c' := (55, [(0, .inr (.inr x0))], [.inr (.inr (32 + jN (jsP t17 x0 4 (32 + jN (jsP t13 x0 3 (32 + jN (jsP m9 x0 2 (32 + jN (jsP m6 x0 1 (32 + jN (jsP m3 x0 0 (32 + jN m)))))))))))), .inr (.inr x0)], m19)) (by rw [em19]) ?_
  refine jS.adv O [(.dup, 0, 0, 0, 0, 0, 0)] (pc' := 56) (ls' := [(0, .inr (.inr x0))]) (st' := [.inr (.inr (32 + jN (jsP t17 x0 4 (32 + jN (jsP t13 x0 3 (32 + jN (jsP m9 x0 2 (32 + jN (jsP m6 x0 1 (32 + jN (jsP m3 x0 0 (32 + jN m)))))))))))), .inr (.inr (32 + jN (jsP t17 x0 4 (32 + jN (jsP t13 x0 3 (32 + jN (jsP m9 x0 2 (32 + jN (jsP m6 x0 1 (32 + jN (jsP m3 x0 0 (32 + jN m)))))))))))), .inr (.inr x0)]) (m2 := m19) (by decide +kernel) rfl trivial ?_
  obtain ⟨t21, w20, H⟩ := jb_ok H
  refine jS.step (c' := (59, [(0, .inr (.inr x0))], [.inr (.inr (32 + jN (jsP t17 x0 4 (32 + jN (jsP t13 x0 3 (32 + jN (jsP m9 x0 2 (32 + jN (jsP m6 x0 1 (32 + jN (jsP m3 x0 0 (32 + jN m)))))))))))), .inr (.inr x0)], t21)) (jSt.callIN (As := []) (rest := [.inr (.inr (32 + jN (jsP t17 x0 4 (32 + jN (jsP t13 x0 3 (32 + jN (jsP m9 x0 2 (32 + jN (jsP m6 x0 1 (32 + jN (jsP m3 x0 0 (32 + jN m)))))))))))), .inr (.inr x0)]) O (ec_X6_init (d := 3) O (Nat.le_refl _) w20) (by omega) (by omega) jmw_X6_init jmv_X6_init jmn_X6_init (host := "JoinDraws") (idx := 43) jln_JoinDraws_43 (Nat.le_of_ble_eq_true rfl) (by decide +kernel)) ?_
  obtain ⟨w22, H⟩ := jgd_ok H
  obtain ⟨w23, H⟩ := jgd_ok H
  obtain ⟨m24, em24, H⟩ := jlet_ok H
  refine jS.adv O [(.putfield 44, 0, 9, 5, 583, 0, 0), (.aload_n 0, 0, 0, 0, 0, 0, 0), (.bipush 12, 0, 0, 0, 0, (12 : Int32), 0), (.newarray .int, 0, 1, 313, 0, 0, 0)] (pc' := 67) (ls' := [(0, .inr (.inr x0))]) (st' := [.inr (.inr (32 + jN (jsP t21 x0 5 (32 + jN (jsP t17 x0 4 (32 + jN (jsP t13 x0 3 (32 + jN (jsP m9 x0 2 (32 + jN (jsP m6 x0 1 (32 + jN (jsP m3 x0 0 (32 + jN m)))))))))))))), .inr (.inr x0)]) (m2 := (jnew (jsP t21 x0 5 (32 + jN (jsP t17 x0 4 (32 + jN (jsP t13 x0 3 (32 + jN (jsP m9 x0 2 (32 + jN (jsP m6 x0 1 (32 + jN (jsP m3 x0 0 (32 + jN m)))))))))))) 1 (12 : Int32).toNatClampNeg (12 : Int32).toNatClampNeg)) (by decide +kernel) rfl ⟨w22, w23, trivial⟩ ?_
  refine jS.cast (c' := (67, [(0, .inr (.inr x0))], [.inr (.inr (32 + jN (jsP t21 x0 5 (32 + jN (jsP t17 x0 4 (32 + jN (jsP t13 x0 3 (32 + jN (jsP m9 x0 2 (32 + jN (jsP m6 x0 1 (32 + jN (jsP m3 x0 0 (32 + jN m)))))))))))))), .inr (.inr x0)], m24)) (by rw [em24]) ?_
  obtain ⟨w25, H⟩ := jgd_ok H
  obtain ⟨m26, em26, H⟩ := jlet_ok H
  refine jS.adv O [(.putfield 48, 0, 9, 6, 584, 0, 0)] (pc' := 70) (ls' := [(0, .inr (.inr x0))]) (st' := []) (m2 := (jsP m24 x0 6 (32 + jN (jsP t21 x0 5 (32 + jN (jsP t17 x0 4 (32 + jN (jsP t13 x0 3 (32 + jN (jsP m9 x0 2 (32 + jN (jsP m6 x0 1 (32 + jN (jsP m3 x0 0 (32 + jN m))))))))))))))) (by decide +kernel) rfl ⟨w25, trivial⟩ ?_
  refine jS.cast (c' := (70, [(0, .inr (.inr x0))], [], m26)) (by rw [em26]) ?_
  obtain ⟨w27, H⟩ := jgd_ok H
  obtain ⟨m28, em28, H⟩ := jlet_ok H
  refine jS.adv O [(.aload_n 0, 0, 0, 0, 0, 0, 0), (.bipush 12, 0, 0, 0, 0, (12 : Int32), 0), (.newarray .int, 0, 1, 313, 0, 0, 0)] (pc' := 75) (ls' := [(0, .inr (.inr x0))]) (st' := [.inr (.inr (32 + jN m26)), .inr (.inr x0)]) (m2 := (jnew m26 1 (12 : Int32).toNatClampNeg (12 : Int32).toNatClampNeg)) (by decide +kernel) rfl ⟨w27, trivial⟩ ?_
  refine jS.cast (c' := (75, [(0, .inr (.inr x0))], [.inr (.inr (32 + jN m26)), .inr (.inr x0)], m28)) (by rw [em28]) ?_
  obtain ⟨w29, H⟩ := jgd_ok H
  obtain ⟨m30, em30, H⟩ := jlet_ok H
  refine jS.adv O [(.putfield 52, 0, 9, 7, 585, 0, 0), (.aload_n 0, 0, 0, 0, 0, 0, 0), (.new 55, 0, 2, 373, 374, 0, 0)] (pc' := 82) (ls' := [(0, .inr (.inr x0))]) (st' := [.inr (.inr (32 + jN (jsP m28 x0 7 (32 + jN m26)))), .inr (.inr x0)]) (m2 := (jnew (jsP m28 x0 7 (32 + jN m26)) (32 + 2) 0 (jnf 2))) (by decide +kernel) rfl ⟨w29, trivial⟩ ?_
  refine jS.cast (c' := (82, [(0, .inr (.inr x0))], [.inr (.inr (32 + jN (jsP m28 x0 7 (32 + jN m26)))), .inr (.inr x0)], m30)) (by rw [em30]) ?_
  refine jS.adv O [(.dup, 0, 0, 0, 0, 0, 0)] (pc' := 83) (ls' := [(0, .inr (.inr x0))]) (st' := [.inr (.inr (32 + jN (jsP m28 x0 7 (32 + jN m26)))), .inr (.inr (32 + jN (jsP m28 x0 7 (32 + jN m26)))), .inr (.inr x0)]) (m2 := m30) (by decide +kernel) rfl trivial ?_
  obtain ⟨t32, w31, H⟩ := jb_ok H
  refine jS.step (c' := (86, [(0, .inr (.inr x0))], [.inr (.inr (32 + jN (jsP m28 x0 7 (32 + jN m26)))), .inr (.inr x0)], t32)) (jSt.callIN (As := []) (rest := [.inr (.inr (32 + jN (jsP m28 x0 7 (32 + jN m26)))), .inr (.inr x0)]) O (ec_X2_init (d := 3) O (Nat.le_refl _) w31) (by omega) (by omega) jmw_X2_init jmv_X2_init jmn_X2_init (host := "JoinDraws") (idx := 57) jln_JoinDraws_57 (Nat.le_of_ble_eq_true rfl) (by decide +kernel)) ?_
  obtain ⟨w33, H⟩ := jgd_ok H
  obtain ⟨m34, em34, H⟩ := jlet_ok H
  refine jS.adv O [(.putfield 58, 0, 9, 8, 586, 0, 0), (.aload_n 0, 0, 0, 0, 0, 0, 0), (.new 55, 0, 2, 373, 374, 0, 0)] (pc' := 93) (ls' := [(0, .inr (.inr x0))]) (st' := [.inr (.inr (32 + jN (jsP t32 x0 8 (32 + jN (jsP m28 x0 7 (32 + jN m26)))))), .inr (.inr x0)]) (m2 := (jnew (jsP t32 x0 8 (32 + jN (jsP m28 x0 7 (32 + jN m26)))) (32 + 2) 0 (jnf 2))) (by decide +kernel) rfl ⟨w33, trivial⟩ ?_
  refine jS.cast (c' := (93, [(0, .inr (.inr x0))], [.inr (.inr (32 + jN (jsP t32 x0 8 (32 + jN (jsP m28 x0 7 (32 + jN m26)))))), .inr (.inr x0)], m34)) (by rw [em34]) ?_
  refine jS.adv O [(.dup, 0, 0, 0, 0, 0, 0)] (pc' := 94) (ls' := [(0, .inr (.inr x0))]) (st' := [.inr (.inr (32 + jN (jsP t32 x0 8 (32 + jN (jsP m28 x0 7 (32 + jN m26)))))), .inr (.inr (32 + jN (jsP t32 x0 8 (32 + jN (jsP m28 x0 7 (32 + jN m26)))))), .inr (.inr x0)]) (m2 := m34) (by decide +kernel) rfl trivial ?_
  obtain ⟨t36, w35, H⟩ := jb_ok H
  refine jS.step (c' := (97, [(0, .inr (.inr x0))], [.inr (.inr (32 + jN (jsP t32 x0 8 (32 + jN (jsP m28 x0 7 (32 + jN m26)))))), .inr (.inr x0)], t36)) (jSt.callIN (As := []) (rest := [.inr (.inr (32 + jN (jsP t32 x0 8 (32 + jN (jsP m28 x0 7 (32 + jN m26)))))), .inr (.inr x0)]) O (ec_X2_init (d := 3) O (Nat.le_refl _) w35) (by omega) (by omega) jmw_X2_init jmv_X2_init jmn_X2_init (host := "JoinDraws") (idx := 57) jln_JoinDraws_57 (Nat.le_of_ble_eq_true rfl) (by decide +kernel)) ?_
  obtain ⟨w37, H⟩ := jgd_ok H
  obtain ⟨m38, em38, H⟩ := jlet_ok H
  refine jS.adv O [(.putfield 62, 0, 9, 9, 587, 0, 0), (.aload_n 0, 0, 0, 0, 0, 0, 0), (.iconst 1, 0, 0, 0, 0, (1 : Int32), 0), (.putfield 65, 0, 9, 10, 588, 0, 0), (.aload_n 0, 0, 0, 0, 0, 0, 0), (.iconst 0, 0, 0, 0, 0, (0 : Int32), 0), (.putfield 69, 0, 9, 11, 589, 0, 0), (.aload_n 0, 0, 0, 0, 0, 0, 0), (.iconst 1, 0, 0, 0, 0, (1 : Int32), 0), (.putfield 73, 0, 9, 12, 590, 0, 0), (.aload_n 0, 0, 0, 0, 0, 0, 0), (.iconst 0, 0, 0, 0, 0, (0 : Int32), 0), (.putfield 76, 0, 9, 13, 591, 0, 0)] (pc' := 120) (ls' := [(0, .inr (.inr x0))]) (st' := []) (m2 := (jsI (jsI (jsI (jsI (jsP t36 x0 9 (32 + jN (jsP t32 x0 8 (32 + jN (jsP m28 x0 7 (32 + jN m26)))))) x0 10 (1 : Int32)) x0 11 (0 : Int32)) x0 12 (1 : Int32)) x0 13 (0 : Int32))) (by decide +kernel) rfl ⟨w37, ⟨w37, Or.inr rfl⟩, w37, w37, w37, trivial⟩ ?_
  refine jS.cast (c' := (120, [(0, .inr (.inr x0))], [], m38)) (by rw [em38]) ?_
  obtain ⟨w39, H⟩ := jgd_ok H
  refine jS.adv O [(.aload_n 0, 0, 0, 0, 0, 0, 0), (.iconst 0, 0, 0, 0, 0, (0 : Int32), 0), (.putfield 79, 0, 9, 14, 592, 0, 0), (.aload_n 0, 0, 0, 0, 0, 0, 0), (.iconst 0, 0, 0, 0, 0, (0 : Int32), 0), (.putfield 82, 0, 9, 15, 593, 0, 0), (.iconst 0, 0, 0, 0, 0, (0 : Int32), 0), (.istore_n 1, 0, 0, 0, 0, 0, 0)] (pc' := 132) (ls' := [(1, .inl (0 : Int32)), (0, .inr (.inr x0))]) (st' := []) (m2 := (jsI (jsI m38 x0 14 (0 : Int32)) x0 15 (0 : Int32))) (by decide +kernel) rfl ⟨w39, w39, trivial⟩ ?_
  refine jS.loc' [1, 0] (ls' := [(0, .inr (.inr x0)), (1, .inl (0 : Int32))]) rfl ?_
  obtain ⟨e49, w50, H⟩ := jb_ok H
  refine ec_X9_init_l132 O hd F w50 ?_
  refine jS.adv O [(.iconst 0, 0, 0, 0, 0, (0 : Int32), 0), (.istore_n 1, 0, 0, 0, 0, 0, 0)] (pc' := 158) (ls' := [(1, .inl (0 : Int32)), (0, .inr (.inr e49.2))]) (st' := []) (m2 := e49.1) (by decide +kernel) rfl trivial ?_
  refine jS.loc' [1, 0] (ls' := [(0, .inr (.inr e49.2)), (1, .inl (0 : Int32))]) rfl ?_
  obtain ⟨e60, w61, H⟩ := jb_ok H
  refine ec_X9_init_l158 O hd F w61 ?_
  obtain ⟨w62, H⟩ := jgd_ok H
  obtain ⟨m63, em63, H⟩ := jlet_ok H
  refine jS.adv O [(.aload_n 0, 0, 0, 0, 0, 0, 0), (.getfield 17, 0, 9, 1, 579, 0, 0), (.iconst 0, 0, 0, 0, 0, (0 : Int32), 0), (.new 15, 0, 7, 271, 547, 0, 0)] (pc' := 190) (ls' := [(0, .inr (.inr e60.2))]) (st' := [.inr (.inr (32 + jN e60.1)), .inl (0 : Int32), .inr (.inr (jP e60.1 e60.2 1))]) (m2 := (jnew e60.1 (32 + 7) 0 (jnf 7))) (by decide +kernel) rfl ⟨w62, trivial⟩ ?_
  refine jS.cast (c' := (190, [(0, .inr (.inr e60.2))], [.inr (.inr (32 + jN e60.1)), .inl (0 : Int32), .inr (.inr (jP e60.1 e60.2 1))], m63)) (by rw [em63]) ?_
  obtain ⟨w64, H⟩ := jgd_ok H
  obtain ⟨m65, em65, H⟩ := jlet_ok H
  refine jS.adv O [(.dup, 0, 0, 0, 0, 0, 0), (.iconst 1, 0, 0, 0, 0, (1 : Int32), 0), (.newarray .int, 0, 1, 313, 0, 0, 0)] (pc' := 194) (ls' := [(0, .inr (.inr e60.2))]) (st' := [.inr (.inr (32 + jN m63)), .inr (.inr (32 + jN e60.1)), .inr (.inr (32 + jN e60.1)), .inl (0 : Int32), .inr (.inr (jP e60.1 e60.2 1))]) (m2 := (jnew m63 1 (1 : Int32).toNatClampNeg (1 : Int32).toNatClampNeg)) (by decide +kernel) rfl ⟨w64, trivial⟩ ?_
  refine jS.cast (c' := (194, [(0, .inr (.inr e60.2))], [.inr (.inr (32 + jN m63)), .inr (.inr (32 + jN e60.1)), .inr (.inr (32 + jN e60.1)), .inl (0 : Int32), .inr (.inr (jP e60.1 e60.2 1))], m65)) (by rw [em65]) ?_
  obtain ⟨w66, H⟩ := jgd_ok H
  obtain ⟨w67, H⟩ := jgd_ok H
  refine jS.adv O [(.dup, 0, 0, 0, 0, 0, 0), (.iconst 0, 0, 0, 0, 0, (0 : Int32), 0), (.bipush 16, 0, 0, 0, 0, (16 : Int32), 0), (.iastore, 0, 0, 0, 0, 0, 0), (.iconst 1, 0, 0, 0, 0, (1 : Int32), 0)] (pc' := 200) (ls' := [(0, .inr (.inr e60.2))]) (st' := [.inl (1 : Int32), .inr (.inr (32 + jN m63)), .inr (.inr (32 + jN e60.1)), .inr (.inr (32 + jN e60.1)), .inl (0 : Int32), .inr (.inr (jP e60.1 e60.2 1))]) (m2 := (jsI m65 (32 + jN m63) (0 : Int32).toNatClampNeg (16 : Int32))) (by decide +kernel) rfl ⟨⟨w66, jib_ok w67⟩, trivial⟩ ?_
  obtain ⟨t69, w68, H⟩ := jb_ok H
  refine jS.step (c' := (203, [(0, .inr (.inr e60.2))], [.inr (.inr (32 + jN e60.1)), .inl (0 : Int32), .inr (.inr (jP e60.1 e60.2 1))], t69)) (jSt.callI (As := [.inr (.inr (32 + jN m63)), .inl (1 : Int32)]) (rest := [.inr (.inr (32 + jN e60.1)), .inl (0 : Int32), .inr (.inr (jP e60.1 e60.2 1))]) O (ec_X7_init (d := 3) O (Nat.le_refl _) w68) (by omega) (by omega) jmw_X7_init jmv_X7_init jmn_X7_init (idx := 87) (jW_of 548 (by decide +kernel) rfl) (Nat.le_of_ble_eq_true rfl) (by decide +kernel)) ?_
  obtain ⟨w70, H⟩ := jgd_ok H
  obtain ⟨w71, H⟩ := jgd_ok H
  obtain ⟨w72, H⟩ := jgd_ok H
  refine jS.adv O [(.aastore, 0, 6, 7, 0, 0, 0)] (pc' := 204) (ls' := [(0, .inr (.inr e60.2))]) (st' := []) (m2 := (jsP t69 (jP e60.1 e60.2 1) (0 : Int32).toNatClampNeg (32 + jN e60.1))) (by decide +kernel) rfl ⟨⟨w70, jib_ok w71, w72⟩, trivial⟩ ?_
  replace H := Option.some.inj H
  subst H
  exact jS.vret rfl (by decide +kernel)
def c_X9_relation (F : Nat) (m : jMe) (x0 : Nat) (x1 : Int32) (x2 : Int32) : Option (Int32 × jMe) :=
  (if x1 < 0 then some ((-2 : Int32), m) else (if (6 : Int32) ≤ x1 then some ((-2 : Int32), m) else (if x2 < (1 : Int32) then some ((-2 : Int32), m) else (if x2 < (64 : Int32) then jb (c_J6_bitCount_0f7a4 F m x2) fun t6 => (if t6 ≤ (3 : Int32) then jgd (jK m x0 = 41) <| (if (jI m x0 11) < (4 : Int32) then jgd (jK m (jP m x0 0) = 5) <| jgd (jin (jI m x0 11) (jZ m (jP m x0 0)) = true) <| jgd (jK m (jP m (jP m x0 0) (jI m x0 11).toNatClampNeg) = 36) <| jb (c_X4_begin F m (jP m (jP m x0 0) (jI m x0 11).toNatClampNeg) x1 x2) fun t14 => jgd (jK t14 x0 = 41) <| some (((jI (jsI (jsI t14 x0 10 (1 : Int32)) x0 11 ((jI (jsI t14 x0 10 (1 : Int32)) x0 11) + (1 : Int32))) x0 11) - (1 : Int32)), (jsI (jsI t14 x0 10 (1 : Int32)) x0 11 ((jI (jsI t14 x0 10 (1 : Int32)) x0 11) + (1 : Int32)))) else some ((-4 : Int32), m)) else some ((-2 : Int32), m)) else some ((-2 : Int32), m)))))
theorem ec_X9_relation {X : jX} {l : Launch} {d : Nat} (O : jOk X) (hd : 4 ≤ d) {F : Nat} {m : jMe} {x0 : Nat} {x1 : Int32} {x2 : Int32} {r : Int32 × jMe} (H : c_X9_relation F m x0 x1 x2 = some r) : jH X l d jm_X9_relation [.inr (.inr x0), .inl x1, .inl x2] m (some (.inl r.1)) r.2 := by
  refine jH.of jpl_RX9 rfl (Nat.le_of_ble_eq_true rfl) ?_
  show jS X l d jm_X9_relation m _ _ (0, [(0, .inr (.inr x0)), (1, .inl x1), (2, .inl x2)], [], m)
  unfold c_X9_relation at H
  refine jS.adv O [(.iload_n 1, 0, 0, 0, 0, 0, 0)] (pc' := 1) (ls' := [(0, .inr (.inr x0)), (1, .inl x1), (2, .inl x2)]) (st' := [.inl x1]) (m2 := m) (by decide +kernel) rfl trivial ?_
  refine jS.br (i := .ifCond .lt 20) (P := x1 < 0) (rest := []) rfl (by decide +kernel) (tgt := 21) (by decide) (fun c1 => ?_) (fun c1 => ?_)
  · replace H := jif_t c1 H
    refine jS.adv O [(.bipush (-2), 0, 0, 0, 0, (-2 : Int32), 0)] (pc' := 23) (ls' := [(0, .inr (.inr x0)), (1, .inl x1), (2, .inl x2)]) (st' := [.inl (-2 : Int32)]) (m2 := m) (by decide +kernel) rfl trivial ?_
    replace H := Option.some.inj H
    subst H
    exact jS.iret rfl (by decide +kernel)
  · replace H := jif_f c1 H
    refine jS.adv O [(.iload_n 1, 0, 0, 0, 0, 0, 0), (.bipush 6, 0, 0, 0, 0, (6 : Int32), 0)] (pc' := 7) (ls' := [(0, .inr (.inr x0)), (1, .inl x1), (2, .inl x2)]) (st' := [.inl (6 : Int32), .inl x1]) (m2 := m) (by decide +kernel) rfl trivial ?_
    refine jS.br (i := .if_icmp .ge 14) (P := (6 : Int32) ≤ x1) (rest := []) rfl (by decide +kernel) (tgt := 21) (by decide) (fun c2 => ?_) (fun c2 => ?_)
    · replace H := jif_t c2 H
      refine jS.adv O [(.bipush (-2), 0, 0, 0, 0, (-2 : Int32), 0)] (pc' := 23) (ls' := [(0, .inr (.inr x0)), (1, .inl x1), (2, .inl x2)]) (st' := [.inl (-2 : Int32)]) (m2 := m) (by decide +kernel) rfl trivial ?_
      replace H := Option.some.inj H
      subst H
      exact jS.iret rfl (by decide +kernel)
    · replace H := jif_f c2 H
      refine jS.adv O [(.iload_n 2, 0, 0, 0, 0, 0, 0), (.iconst 1, 0, 0, 0, 0, (1 : Int32), 0)] (pc' := 12) (ls' := [(0, .inr (.inr x0)), (1, .inl x1), (2, .inl x2)]) (st' := [.inl (1 : Int32), .inl x2]) (m2 := m) (by decide +kernel) rfl trivial ?_
      refine jS.br (i := .if_icmp .lt 9) (P := x2 < (1 : Int32)) (rest := []) rfl (by decide +kernel) (tgt := 21) (by decide) (fun c3 => ?_) (fun c3 => ?_)
      · replace H := jif_t c3 H
        refine jS.adv O [(.bipush (-2), 0, 0, 0, 0, (-2 : Int32), 0)] (pc' := 23) (ls' := [(0, .inr (.inr x0)), (1, .inl x1), (2, .inl x2)]) (st' := [.inl (-2 : Int32)]) (m2 := m) (by decide +kernel) rfl trivial ?_
        replace H := Option.some.inj H
        subst H
        exact jS.iret rfl (by decide +kernel)
      · replace H := jif_f c3 H
        refine jS.adv O [(.iload_n 2, 0, 0, 0, 0, 0, 0), (.bipush 64, 0, 0, 0, 0, (64 : Int32), 0)] (pc' := 18) (ls' := [(0, .inr (.inr x0)), (1, .inl x1), (2, .inl x2)]) (st' := [.inl (64 : Int32), .inl x2]) (m2 := m) (by decide +kernel) rfl trivial ?_
        refine jS.br (i := .if_icmp .lt 6) (P := x2 < (64 : Int32)) (rest := []) rfl (by decide +kernel) (tgt := 24) (by decide) (fun c4 => ?_) (fun c4 => ?_)
        · replace H := jif_t c4 H
          refine jS.adv O [(.iload_n 2, 0, 0, 0, 0, 0, 0)] (pc' := 25) (ls' := [(0, .inr (.inr x0)), (1, .inl x1), (2, .inl x2)]) (st' := [.inl x2]) (m2 := m) (by decide +kernel) rfl trivial ?_
          obtain ⟨t6, w5, H⟩ := jb_ok H
          refine jS.step (c' := (28, [(0, .inr (.inr x0)), (1, .inl x1), (2, .inl x2)], [.inl t6], m)) (jSt.callS (As := [.inl x2]) (rest := []) O (ec_J6_bitCount_0f7a4 (d := 2) O (Nat.le_refl _) w5) (by omega) jmw_J6_bitCount_0f7a4 jmv_J6_bitCount_0f7a4 jmn_J6_bitCount_0f7a4 (idx := 90) (jW_of 631 (by decide +kernel) rfl) (Nat.le_of_ble_eq_true rfl) (by decide +kernel)) ?_
          refine jS.adv O [(.iconst 3, 0, 0, 0, 0, (3 : Int32), 0)] (pc' := 29) (ls' := [(0, .inr (.inr x0)), (1, .inl x1), (2, .inl x2)]) (st' := [.inl (3 : Int32), .inl t6]) (m2 := m) (by decide +kernel) rfl trivial ?_
          refine jS.br (i := .if_icmp .le 6) (P := t6 ≤ (3 : Int32)) (rest := []) rfl (by decide +kernel) (tgt := 35) (by decide) (fun c7 => ?_) (fun c7 => ?_)
          · replace H := jif_t c7 H
            obtain ⟨w8, H⟩ := jgd_ok H
            refine jS.adv O [(.aload_n 0, 0, 0, 0, 0, 0, 0), (.getfield 69, 0, 9, 11, 589, 0, 0), (.iconst 4, 0, 0, 0, 0, (4 : Int32), 0)] (pc' := 40) (ls' := [(0, .inr (.inr x0)), (1, .inl x1), (2, .inl x2)]) (st' := [.inl (4 : Int32), .inl (jI m x0 11)]) (m2 := m) (by decide +kernel) rfl ⟨w8, trivial⟩ ?_
            refine jS.br (i := .if_icmp .lt 6) (P := (jI m x0 11) < (4 : Int32)) (rest := []) rfl (by decide +kernel) (tgt := 46) (by decide) (fun c9 => ?_) (fun c9 => ?_)
            · replace H := jif_t c9 H
              obtain ⟨w10, H⟩ := jgd_ok H
              obtain ⟨w11, H⟩ := jgd_ok H
              obtain ⟨w12, H⟩ := jgd_ok H
              refine jS.adv O [(.aload_n 0, 0, 0, 0, 0, 0, 0), (.getfield 11, 0, 9, 0, 578, 0, 0), (.aload_n 0, 0, 0, 0, 0, 0, 0), (.getfield 69, 0, 9, 11, 589, 0, 0), (.aaload, 0, 5, 0, 0, 0, 0), (.iload_n 1, 0, 0, 0, 0, 0, 0), (.iload_n 2, 0, 0, 0, 0, 0, 0)] (pc' := 57) (ls' := [(0, .inr (.inr x0)), (1, .inl x1), (2, .inl x2)]) (st' := [.inl x2, .inl x1, .inr (.inr (jP m (jP m x0 0) (jI m x0 11).toNatClampNeg))]) (m2 := m) (by decide +kernel) rfl ⟨w8, w8, ⟨w10, jib_ok w11⟩, trivial⟩ ?_
              obtain ⟨t14, w13, H⟩ := jb_ok H
              refine jS.step (c' := (60, [(0, .inr (.inr x0)), (1, .inl x1), (2, .inl x2)], [], t14)) (jSt.callV (c := 4) (As := [.inl x1, .inl x2]) (rest := []) O (ec_X4_begin (d := 3) O (Nat.le_refl _) w13) w12 (by decide) rfl (by omega) jmw_X4_begin jmv_X4_begin jmn_X4_begin (idx := 96) (jW_of 637 (by decide +kernel) rfl) (Nat.le_of_ble_eq_true rfl) (by decide +kernel)) ?_
              obtain ⟨w15, H⟩ := jgd_ok H
              refine jS.adv O [(.aload_n 0, 0, 0, 0, 0, 0, 0), (.iconst 1, 0, 0, 0, 0, (1 : Int32), 0), (.putfield 65, 0, 9, 10, 588, 0, 0), (.aload_n 0, 0, 0, 0, 0, 0, 0), (.dup, 0, 0, 0, 0, 0, 0), (.getfield 69, 0, 9, 11, 589, 0, 0), (.iconst 1, 0, 0, 0, 0, (1 : Int32), 0), (.iadd, 0, 0, 0, 0, 0, 0), (.putfield 69, 0, 9, 11, 589, 0, 0), (.aload_n 0, 0, 0, 0, 0, 0, 0), (.getfield 69, 0, 9, 11, 589, 0, 0), (.iconst 1, 0, 0, 0, 0, (1 : Int32), 0), (.isub, 0, 0, 0, 0, 0, 0)] (pc' := 81) (ls' := [(0, .inr (.inr x0)), (1, .inl x1), (2, .inl x2)]) (st' := [.inl ((jI (jsI (jsI t14 x0 10 (1 : Int32)) x0 11 ((jI (jsI t14 x0 10 (1 : Int32)) x0 11) + (1 : Int32))) x0 11) - (1 : Int32))]) (m2 := (jsI (jsI t14 x0 10 (1 : Int32)) x0 11 ((jI (jsI t14 x0 10 (1 : Int32)) x0 11) + (1 : Int32)))) (by decide +kernel) rfl ⟨⟨w15, Or.inr rfl⟩, w15, w15, w15, trivial⟩ ?_
              replace H := Option.some.inj H
              subst H
              exact jS.iret rfl (by decide +kernel)
            · replace H := jif_f c9 H
              refine jS.adv O [(.bipush (-4), 0, 0, 0, 0, (-4 : Int32), 0)] (pc' := 45) (ls' := [(0, .inr (.inr x0)), (1, .inl x1), (2, .inl x2)]) (st' := [.inl (-4 : Int32)]) (m2 := m) (by decide +kernel) rfl trivial ?_
              replace H := Option.some.inj H
              subst H
              exact jS.iret rfl (by decide +kernel)
          · replace H := jif_f c7 H
            refine jS.adv O [(.bipush (-2), 0, 0, 0, 0, (-2 : Int32), 0)] (pc' := 34) (ls' := [(0, .inr (.inr x0)), (1, .inl x1), (2, .inl x2)]) (st' := [.inl (-2 : Int32)]) (m2 := m) (by decide +kernel) rfl trivial ?_
            replace H := Option.some.inj H
            subst H
            exact jS.iret rfl (by decide +kernel)
        · replace H := jif_f c4 H
          refine jS.adv O [(.bipush (-2), 0, 0, 0, 0, (-2 : Int32), 0)] (pc' := 23) (ls' := [(0, .inr (.inr x0)), (1, .inl x1), (2, .inl x2)]) (st' := [.inl (-2 : Int32)]) (m2 := m) (by decide +kernel) rfl trivial ?_
          replace H := Option.some.inj H
          subst H
          exact jS.iret rfl (by decide +kernel)
def c_X9_isRelation (F : Nat) (m : jMe) (x0 : Nat) (x1 : Int32) : Option (Int32) :=
  (if x1 < 0 then some (0 : Int32) else jgd (jK m x0 = 41) <| (if (jI m x0 11) ≤ x1 then some (0 : Int32) else some (1 : Int32)))
theorem ec_X9_isRelation {X : jX} {l : Launch} {d : Nat} (O : jOk X) (hd : 2 ≤ d) {F : Nat} {m : jMe} {x0 : Nat} {x1 : Int32} {r : Int32} (H : c_X9_isRelation F m x0 x1 = some r) : jH X l d jm_X9_isRelation [.inr (.inr x0), .inl x1] m (some (.inl r)) m := by
  refine jH.of jpl_RX9 rfl (Nat.le_of_ble_eq_true rfl) ?_
  show jS X l d jm_X9_isRelation m _ _ (0, [(0, .inr (.inr x0)), (1, .inl x1)], [], m)
  unfold c_X9_isRelation at H
  refine jS.adv O [(.iload_n 1, 0, 0, 0, 0, 0, 0)] (pc' := 1) (ls' := [(0, .inr (.inr x0)), (1, .inl x1)]) (st' := [.inl x1]) (m2 := m) (by decide +kernel) rfl trivial ?_
  refine jS.br (i := .ifCond .lt 15) (P := x1 < 0) (rest := []) rfl (by decide +kernel) (tgt := 16) (by decide) (fun c1 => ?_) (fun c1 => ?_)
  · replace H := jif_t c1 H
    refine jS.adv O [(.iconst 0, 0, 0, 0, 0, (0 : Int32), 0)] (pc' := 17) (ls' := [(0, .inr (.inr x0)), (1, .inl x1)]) (st' := [.inl (0 : Int32)]) (m2 := m) (by decide +kernel) rfl trivial ?_
    replace H := Option.some.inj H
    subst H
    exact jS.zret rfl (Or.inl rfl) (by decide +kernel)
  · replace H := jif_f c1 H
    obtain ⟨w2, H⟩ := jgd_ok H
    refine jS.adv O [(.iload_n 1, 0, 0, 0, 0, 0, 0), (.aload_n 0, 0, 0, 0, 0, 0, 0), (.getfield 69, 0, 9, 11, 589, 0, 0)] (pc' := 9) (ls' := [(0, .inr (.inr x0)), (1, .inl x1)]) (st' := [.inl (jI m x0 11), .inl x1]) (m2 := m) (by decide +kernel) rfl ⟨w2, trivial⟩ ?_
    refine jS.br (i := .if_icmp .ge 7) (P := (jI m x0 11) ≤ x1) (rest := []) rfl (by decide +kernel) (tgt := 16) (by decide) (fun c3 => ?_) (fun c3 => ?_)
    · replace H := jif_t c3 H
      refine jS.adv O [(.iconst 0, 0, 0, 0, 0, (0 : Int32), 0)] (pc' := 17) (ls' := [(0, .inr (.inr x0)), (1, .inl x1)]) (st' := [.inl (0 : Int32)]) (m2 := m) (by decide +kernel) rfl trivial ?_
      replace H := Option.some.inj H
      subst H
      exact jS.zret rfl (Or.inl rfl) (by decide +kernel)
    · replace H := jif_f c3 H
      refine jS.adv O [(.iconst 1, 0, 0, 0, 0, (1 : Int32), 0), (.goto 4, 0, 17, 0, 0, 0, 0)] (pc' := 17) (ls' := [(0, .inr (.inr x0)), (1, .inl x1)]) (st' := [.inl (1 : Int32)]) (m2 := m) (by decide +kernel) rfl trivial ?_
      replace H := Option.some.inj H
      subst H
      exact jS.zret rfl (Or.inr rfl) (by decide +kernel)
def c_X9_addRow (F : Nat) (m : jMe) (x0 : Nat) (x1 : Nat) (x2 : Int32) (x3 : Int32) (x4 : Int32) (x5 : Int32) : Option (Int32 × jMe) :=
  jgd (jK m x1 = 36) <| jb (c_X4_packed F m x1 x2 x3 x4) fun t3 => (if t3 = (-1 : Int32) then some ((-2 : Int32), m) else (if x5 < (1 : Int32) then some ((-2 : Int32), m) else (if x5 ≤ (2000000000 : Int32) then jb (c_X4_takes F m x1 t3) fun t8 => (if t8 = 0 then some ((-3 : Int32), m) else (if (jI m x1 5) < (8 : Int32) then jgd (jK m x0 = 41) <| jb (c_X4_add F (jsI m x0 10 (1 : Int32)) x1 t3 x5) fun t13 => some (t13.1, t13.2) else some ((-4 : Int32), m))) else some ((-2 : Int32), m))))
theorem ec_X9_addRow {X : jX} {l : Launch} {d : Nat} (O : jOk X) (hd : 6 ≤ d) {F : Nat} {m : jMe} {x0 : Nat} {x1 : Nat} {x2 : Int32} {x3 : Int32} {x4 : Int32} {x5 : Int32} {r : Int32 × jMe} (H : c_X9_addRow F m x0 x1 x2 x3 x4 x5 = some r) : jH X l d jm_X9_addRow [.inr (.inr x0), .inr (.inr x1), .inl x2, .inl x3, .inl x4, .inl x5] m (some (.inl r.1)) r.2 := by
  refine jH.of jpl_RX9 rfl (Nat.le_of_ble_eq_true rfl) ?_
  show jS X l d jm_X9_addRow m _ _ (0, [(0, .inr (.inr x0)), (1, .inr (.inr x1)), (2, .inl x2), (3, .inl x3), (4, .inl x4), (5, .inl x5)], [], m)
  unfold c_X9_addRow at H
  obtain ⟨w1, H⟩ := jgd_ok H
  refine jS.adv O [(.aload_n 1, 0, 0, 0, 0, 0, 0), (.iload_n 2, 0, 0, 0, 0, 0, 0), (.iload_n 3, 0, 0, 0, 0, 0, 0), (.iload 4, 0, 0, 0, 0, 0, 0)] (pc' := 5) (ls' := [(0, .inr (.inr x0)), (1, .inr (.inr x1)), (2, .inl x2), (3, .inl x3), (4, .inl x4), (5, .inl x5)]) (st' := [.inl x4, .inl x3, .inl x2, .inr (.inr x1)]) (m2 := m) (by decide +kernel) rfl trivial ?_
  obtain ⟨t3, w2, H⟩ := jb_ok H
  refine jS.step (c' := (8, [(0, .inr (.inr x0)), (1, .inr (.inr x1)), (2, .inl x2), (3, .inl x3), (4, .inl x4), (5, .inl x5)], [.inl t3], m)) (jSt.callV (c := 4) (As := [.inl x2, .inl x3, .inl x4]) (rest := []) O (ec_X4_packed (d := 3) O (Nat.le_refl _) w2) w1 (by decide) rfl (by omega) jmw_X4_packed jmv_X4_packed jmn_X4_packed (idx := 361) (jW_of 656 (by decide +kernel) rfl) (Nat.le_of_ble_eq_true rfl) (by decide +kernel)) ?_
  refine jS.adv O [(.istore 6, 0, 0, 0, 0, 0, 0), (.iload 6, 0, 0, 0, 0, 0, 0), (.iconst (-1), 0, 0, 0, 0, (-1 : Int32), 0)] (pc' := 13) (ls' := [(6, .inl t3), (0, .inr (.inr x0)), (1, .inr (.inr x1)), (2, .inl x2), (3, .inl x3), (4, .inl x4), (5, .inl x5)]) (st' := [.inl (-1 : Int32), .inl t3]) (m2 := m) (by decide +kernel) rfl trivial ?_
  refine jS.br (i := .if_icmp .eq 16) (P := t3 = (-1 : Int32)) (rest := []) rfl (by decide +kernel) (tgt := 29) (by decide) (fun c4 => ?_) (fun c4 => ?_)
  · replace H := jif_t c4 H
    refine jS.adv O [(.bipush (-2), 0, 0, 0, 0, (-2 : Int32), 0)] (pc' := 31) (ls' := [(6, .inl t3), (0, .inr (.inr x0)), (1, .inr (.inr x1)), (2, .inl x2), (3, .inl x3), (4, .inl x4), (5, .inl x5)]) (st' := [.inl (-2 : Int32)]) (m2 := m) (by decide +kernel) rfl trivial ?_
    replace H := Option.some.inj H
    subst H
    exact jS.iret rfl (by decide +kernel)
  · replace H := jif_f c4 H
    refine jS.adv O [(.iload 5, 0, 0, 0, 0, 0, 0), (.iconst 1, 0, 0, 0, 0, (1 : Int32), 0)] (pc' := 19) (ls' := [(6, .inl t3), (0, .inr (.inr x0)), (1, .inr (.inr x1)), (2, .inl x2), (3, .inl x3), (4, .inl x4), (5, .inl x5)]) (st' := [.inl (1 : Int32), .inl x5]) (m2 := m) (by decide +kernel) rfl trivial ?_
    refine jS.br (i := .if_icmp .lt 10) (P := x5 < (1 : Int32)) (rest := []) rfl (by decide +kernel) (tgt := 29) (by decide) (fun c5 => ?_) (fun c5 => ?_)
    · replace H := jif_t c5 H
      refine jS.adv O [(.bipush (-2), 0, 0, 0, 0, (-2 : Int32), 0)] (pc' := 31) (ls' := [(6, .inl t3), (0, .inr (.inr x0)), (1, .inr (.inr x1)), (2, .inl x2), (3, .inl x3), (4, .inl x4), (5, .inl x5)]) (st' := [.inl (-2 : Int32)]) (m2 := m) (by decide +kernel) rfl trivial ?_
      replace H := Option.some.inj H
      subst H
      exact jS.iret rfl (by decide +kernel)
    · replace H := jif_f c5 H
      refine jS.adv O [(.iload 5, 0, 0, 0, 0, 0, 0), (.ldc 132, 0, 660, 0, 0, (2000000000 : Int32), 0)] (pc' := 26) (ls' := [(6, .inl t3), (0, .inr (.inr x0)), (1, .inr (.inr x1)), (2, .inl x2), (3, .inl x3), (4, .inl x4), (5, .inl x5)]) (st' := [.inl (2000000000 : Int32), .inl x5]) (m2 := m) (by decide +kernel) rfl trivial ?_
      refine jS.br (i := .if_icmp .le 6) (P := x5 ≤ (2000000000 : Int32)) (rest := []) rfl (by decide +kernel) (tgt := 32) (by decide) (fun c6 => ?_) (fun c6 => ?_)
      · replace H := jif_t c6 H
        refine jS.adv O [(.aload_n 1, 0, 0, 0, 0, 0, 0), (.iload 6, 0, 0, 0, 0, 0, 0)] (pc' := 35) (ls' := [(6, .inl t3), (0, .inr (.inr x0)), (1, .inr (.inr x1)), (2, .inl x2), (3, .inl x3), (4, .inl x4), (5, .inl x5)]) (st' := [.inl t3, .inr (.inr x1)]) (m2 := m) (by decide +kernel) rfl trivial ?_
        obtain ⟨t8, w7, H⟩ := jb_ok H
        refine jS.step (c' := (38, [(6, .inl t3), (0, .inr (.inr x0)), (1, .inr (.inr x1)), (2, .inl x2), (3, .inl x3), (4, .inl x4), (5, .inl x5)], [.inl t8], m)) (jSt.callV (c := 4) (As := [.inl t3]) (rest := []) O (ec_X4_takes (d := 5) O (Nat.le_refl _) w7) w1 (by decide) rfl (by omega) jmw_X4_takes jmv_X4_takes jmn_X4_takes (idx := 129) (jW_of 661 (by decide +kernel) rfl) (Nat.le_of_ble_eq_true rfl) (by decide +kernel)) ?_
        refine jS.br (i := .ifCond .ne 6) (P := ¬ t8 = 0) (rest := []) rfl (by decide +kernel) (tgt := 44) (by decide) (fun c9 => ?_) (fun c9 => ?_)
        · replace H := jif_f c9 H
          refine jS.adv O [(.aload_n 1, 0, 0, 0, 0, 0, 0), (.getfield 162, 0, 4, 5, 510, 0, 0), (.bipush 8, 0, 0, 0, 0, (8 : Int32), 0)] (pc' := 50) (ls' := [(6, .inl t3), (0, .inr (.inr x0)), (1, .inr (.inr x1)), (2, .inl x2), (3, .inl x3), (4, .inl x4), (5, .inl x5)]) (st' := [.inl (8 : Int32), .inl (jI m x1 5)]) (m2 := m) (by decide +kernel) rfl ⟨w1, trivial⟩ ?_
          refine jS.br (i := .if_icmp .lt 6) (P := (jI m x1 5) < (8 : Int32)) (rest := []) rfl (by decide +kernel) (tgt := 56) (by decide) (fun c10 => ?_) (fun c10 => ?_)
          · replace H := jif_t c10 H
            obtain ⟨w11, H⟩ := jgd_ok H
            refine jS.adv O [(.aload_n 0, 0, 0, 0, 0, 0, 0), (.iconst 1, 0, 0, 0, 0, (1 : Int32), 0), (.putfield 65, 0, 9, 10, 588, 0, 0), (.aload_n 1, 0, 0, 0, 0, 0, 0), (.iload 6, 0, 0, 0, 0, 0, 0), (.iload 5, 0, 0, 0, 0, 0, 0)] (pc' := 66) (ls' := [(6, .inl t3), (0, .inr (.inr x0)), (1, .inr (.inr x1)), (2, .inl x2), (3, .inl x3), (4, .inl x4), (5, .inl x5)]) (st' := [.inl x5, .inl t3, .inr (.inr x1)]) (m2 := (jsI m x0 10 (1 : Int32))) (by decide +kernel) rfl ⟨⟨w11, Or.inr rfl⟩, trivial⟩ ?_
            obtain ⟨t13, w12, H⟩ := jb_ok H
            refine jS.step (c' := (69, [(6, .inl t3), (0, .inr (.inr x0)), (1, .inr (.inr x1)), (2, .inl x2), (3, .inl x3), (4, .inl x4), (5, .inl x5)], [.inl t13.1], t13.2)) (jSt.callV (c := 4) (As := [.inl t3, .inl x5]) (rest := []) O (ec_X4_add (d := 3) O (Nat.le_refl _) w12) w1 (by decide) rfl (by omega) jmw_X4_add jmv_X4_add jmn_X4_add (idx := 365) (jW_of 691 (by decide +kernel) rfl) (Nat.le_of_ble_eq_true rfl) (by decide +kernel)) ?_
            replace H := Option.some.inj H
            subst H
            exact jS.iret rfl (by decide +kernel)
          · replace H := jif_f c10 H
            refine jS.adv O [(.bipush (-4), 0, 0, 0, 0, (-4 : Int32), 0)] (pc' := 55) (ls' := [(6, .inl t3), (0, .inr (.inr x0)), (1, .inr (.inr x1)), (2, .inl x2), (3, .inl x3), (4, .inl x4), (5, .inl x5)]) (st' := [.inl (-4 : Int32)]) (m2 := m) (by decide +kernel) rfl trivial ?_
            replace H := Option.some.inj H
            subst H
            exact jS.iret rfl (by decide +kernel)
        · replace H := jif_t (Classical.not_not.mp c9) H
          refine jS.adv O [(.bipush (-3), 0, 0, 0, 0, (-3 : Int32), 0)] (pc' := 43) (ls' := [(6, .inl t3), (0, .inr (.inr x0)), (1, .inr (.inr x1)), (2, .inl x2), (3, .inl x3), (4, .inl x4), (5, .inl x5)]) (st' := [.inl (-3 : Int32)]) (m2 := m) (by decide +kernel) rfl trivial ?_
          replace H := Option.some.inj H
          subst H
          exact jS.iret rfl (by decide +kernel)
      · replace H := jif_f c6 H
        refine jS.adv O [(.bipush (-2), 0, 0, 0, 0, (-2 : Int32), 0)] (pc' := 31) (ls' := [(6, .inl t3), (0, .inr (.inr x0)), (1, .inr (.inr x1)), (2, .inl x2), (3, .inl x3), (4, .inl x4), (5, .inl x5)]) (st' := [.inl (-2 : Int32)]) (m2 := m) (by decide +kernel) rfl trivial ?_
        replace H := Option.some.inj H
        subst H
        exact jS.iret rfl (by decide +kernel)
def c_X9_row (F : Nat) (m : jMe) (x0 : Nat) (x1 : Int32) (x2 : Int32) (x3 : Int32) (x4 : Int32) (x5 : Int32) : Option (Int32 × jMe) :=
  jgd (jK m x0 = 41) <| jb (c_X9_isRelation F m x0 x1) fun t3 => (if t3 = 0 then some ((-2 : Int32), m) else jgd (jK m (jP m x0 0) = 5) <| jgd (jin x1 (jZ m (jP m x0 0)) = true) <| jb (c_X9_addRow F m x0 (jP m (jP m x0 0) x1.toNatClampNeg) x2 x3 x4 x5) fun t8 => some (t8.1, t8.2))
theorem ec_X9_row {X : jX} {l : Launch} {d : Nat} (O : jOk X) (hd : 7 ≤ d) {F : Nat} {m : jMe} {x0 : Nat} {x1 : Int32} {x2 : Int32} {x3 : Int32} {x4 : Int32} {x5 : Int32} {r : Int32 × jMe} (H : c_X9_row F m x0 x1 x2 x3 x4 x5 = some r) : jH X l d jm_X9_row [.inr (.inr x0), .inl x1, .inl x2, .inl x3, .inl x4, .inl x5] m (some (.inl r.1)) r.2 := by
  refine jH.of jpl_RX9 rfl (Nat.le_of_ble_eq_true rfl) ?_
  show jS X l d jm_X9_row m _ _ (0, [(0, .inr (.inr x0)), (1, .inl x1), (2, .inl x2), (3, .inl x3), (4, .inl x4), (5, .inl x5)], [], m)
  unfold c_X9_row at H
  obtain ⟨w1, H⟩ := jgd_ok H
  refine jS.adv O [(.aload_n 0, 0, 0, 0, 0, 0, 0), (.iload_n 1, 0, 0, 0, 0, 0, 0)] (pc' := 2) (ls' := [(0, .inr (.inr x0)), (1, .inl x1), (2, .inl x2), (3, .inl x3), (4, .inl x4), (5, .inl x5)]) (st' := [.inl x1, .inr (.inr x0)]) (m2 := m) (by decide +kernel) rfl trivial ?_
  obtain ⟨t3, w2, H⟩ := jb_ok H
  refine jS.step (c' := (5, [(0, .inr (.inr x0)), (1, .inl x1), (2, .inl x2), (3, .inl x3), (4, .inl x4), (5, .inl x5)], [.inl t3], m)) (jSt.callV (c := 9) (As := [.inl x1]) (rest := []) O (ec_X9_isRelation (d := 2) O (Nat.le_refl _) w2) w1 (by decide) rfl (by omega) jmw_X9_isRelation jmv_X9_isRelation jmn_X9_isRelation (idx := 100) (jW_of 648 (by decide +kernel) rfl) (Nat.le_of_ble_eq_true rfl) (by decide +kernel)) ?_
  refine jS.br (i := .ifCond .eq 22) (P := t3 = 0) (rest := []) rfl (by decide +kernel) (tgt := 27) (by decide) (fun c4 => ?_) (fun c4 => ?_)
  · replace H := jif_t c4 H
    refine jS.adv O [(.bipush (-2), 0, 0, 0, 0, (-2 : Int32), 0)] (pc' := 29) (ls' := [(0, .inr (.inr x0)), (1, .inl x1), (2, .inl x2), (3, .inl x3), (4, .inl x4), (5, .inl x5)]) (st' := [.inl (-2 : Int32)]) (m2 := m) (by decide +kernel) rfl trivial ?_
    replace H := Option.some.inj H
    subst H
    exact jS.iret rfl (by decide +kernel)
  · replace H := jif_f c4 H
    obtain ⟨w5, H⟩ := jgd_ok H
    obtain ⟨w6, H⟩ := jgd_ok H
    refine jS.adv O [(.aload_n 0, 0, 0, 0, 0, 0, 0), (.aload_n 0, 0, 0, 0, 0, 0, 0), (.getfield 11, 0, 9, 0, 578, 0, 0), (.iload_n 1, 0, 0, 0, 0, 0, 0), (.aaload, 0, 5, 0, 0, 0, 0), (.iload_n 2, 0, 0, 0, 0, 0, 0), (.iload_n 3, 0, 0, 0, 0, 0, 0), (.iload 4, 0, 0, 0, 0, 0, 0), (.iload 5, 0, 0, 0, 0, 0, 0)] (pc' := 21) (ls' := [(0, .inr (.inr x0)), (1, .inl x1), (2, .inl x2), (3, .inl x3), (4, .inl x4), (5, .inl x5)]) (st' := [.inl x5, .inl x4, .inl x3, .inl x2, .inr (.inr (jP m (jP m x0 0) x1.toNatClampNeg)), .inr (.inr x0)]) (m2 := m) (by decide +kernel) rfl ⟨w1, ⟨w5, jib_ok w6⟩, trivial⟩ ?_
    obtain ⟨t8, w7, H⟩ := jb_ok H
    refine jS.step (c' := (24, [(0, .inr (.inr x0)), (1, .inl x1), (2, .inl x2), (3, .inl x3), (4, .inl x4), (5, .inl x5)], [.inl t8.1], t8.2)) (jSt.callV (c := 9) (As := [.inr (.inr (jP m (jP m x0 0) x1.toNatClampNeg)), .inl x2, .inl x3, .inl x4, .inl x5]) (rest := []) O (ec_X9_addRow (d := 6) O (Nat.le_refl _) w7) w1 (by decide) rfl (by omega) jmw_X9_addRow jmv_X9_addRow jmn_X9_addRow (idx := 104) (jW_of 652 (by decide +kernel) rfl) (Nat.le_of_ble_eq_true rfl) (by decide +kernel)) ?_
    refine jS.adv O [(.goto 5, 0, 29, 0, 0, 0, 0)] (pc' := 29) (ls' := [(0, .inr (.inr x0)), (1, .inl x1), (2, .inl x2), (3, .inl x3), (4, .inl x4), (5, .inl x5)]) (st' := [.inl t8.1]) (m2 := t8.2) (by decide +kernel) rfl trivial ?_
    replace H := Option.some.inj H
    subst H
    exact jS.iret rfl (by decide +kernel)
def c_X9_isRow (F : Nat) (m : jMe) (x0 : Nat) (x1 : Int32) (x2 : Int32) : Option (Int32) :=
  jgd (jK m x0 = 41) <| jb (c_X9_isRelation F m x0 x1) fun t3 => (if t3 = 0 then some (0 : Int32) else jgd (jK m (jP m x0 0) = 5) <| jgd (jin x1 (jZ m (jP m x0 0)) = true) <| jgd (jK m (jP m (jP m x0 0) x1.toNatClampNeg) = 36) <| jb (c_X4_has F m (jP m (jP m x0 0) x1.toNatClampNeg) x2) fun t9 => (if t9 = 0 then some (0 : Int32) else some (1 : Int32)))
theorem ec_X9_isRow {X : jX} {l : Launch} {d : Nat} (O : jOk X) (hd : 3 ≤ d) {F : Nat} {m : jMe} {x0 : Nat} {x1 : Int32} {x2 : Int32} {r : Int32} (H : c_X9_isRow F m x0 x1 x2 = some r) : jH X l d jm_X9_isRow [.inr (.inr x0), .inl x1, .inl x2] m (some (.inl r)) m := by
  refine jH.of jpl_RX9 rfl (Nat.le_of_ble_eq_true rfl) ?_
  show jS X l d jm_X9_isRow m _ _ (0, [(0, .inr (.inr x0)), (1, .inl x1), (2, .inl x2)], [], m)
  unfold c_X9_isRow at H
  obtain ⟨w1, H⟩ := jgd_ok H
  refine jS.adv O [(.aload_n 0, 0, 0, 0, 0, 0, 0), (.iload_n 1, 0, 0, 0, 0, 0, 0)] (pc' := 2) (ls' := [(0, .inr (.inr x0)), (1, .inl x1), (2, .inl x2)]) (st' := [.inl x1, .inr (.inr x0)]) (m2 := m) (by decide +kernel) rfl trivial ?_
  obtain ⟨t3, w2, H⟩ := jb_ok H
  refine jS.step (c' := (5, [(0, .inr (.inr x0)), (1, .inl x1), (2, .inl x2)], [.inl t3], m)) (jSt.callV (c := 9) (As := [.inl x1]) (rest := []) O (ec_X9_isRelation (d := 2) O (Nat.le_refl _) w2) w1 (by decide) rfl (by omega) jmw_X9_isRelation jmv_X9_isRelation jmn_X9_isRelation (idx := 100) (jW_of 648 (by decide +kernel) rfl) (Nat.le_of_ble_eq_true rfl) (by decide +kernel)) ?_
  refine jS.br (i := .ifCond .eq 20) (P := t3 = 0) (rest := []) rfl (by decide +kernel) (tgt := 25) (by decide) (fun c4 => ?_) (fun c4 => ?_)
  · replace H := jif_t c4 H
    refine jS.adv O [(.iconst 0, 0, 0, 0, 0, (0 : Int32), 0)] (pc' := 26) (ls' := [(0, .inr (.inr x0)), (1, .inl x1), (2, .inl x2)]) (st' := [.inl (0 : Int32)]) (m2 := m) (by decide +kernel) rfl trivial ?_
    replace H := Option.some.inj H
    subst H
    exact jS.zret rfl (Or.inl rfl) (by decide +kernel)
  · replace H := jif_f c4 H
    obtain ⟨w5, H⟩ := jgd_ok H
    obtain ⟨w6, H⟩ := jgd_ok H
    obtain ⟨w7, H⟩ := jgd_ok H
    refine jS.adv O [(.aload_n 0, 0, 0, 0, 0, 0, 0), (.getfield 11, 0, 9, 0, 578, 0, 0), (.iload_n 1, 0, 0, 0, 0, 0, 0), (.aaload, 0, 5, 0, 0, 0, 0), (.iload_n 2, 0, 0, 0, 0, 0, 0)] (pc' := 15) (ls' := [(0, .inr (.inr x0)), (1, .inl x1), (2, .inl x2)]) (st' := [.inl x2, .inr (.inr (jP m (jP m x0 0) x1.toNatClampNeg))]) (m2 := m) (by decide +kernel) rfl ⟨w1, ⟨w5, jib_ok w6⟩, trivial⟩ ?_
    obtain ⟨t9, w8, H⟩ := jb_ok H
    refine jS.step (c' := (18, [(0, .inr (.inr x0)), (1, .inl x1), (2, .inl x2)], [.inl t9], m)) (jSt.callV (c := 4) (As := [.inl x2]) (rest := []) O (ec_X4_has (d := 2) O (Nat.le_refl _) w8) w7 (by decide) rfl (by omega) jmw_X4_has jmv_X4_has jmn_X4_has (idx := 357) (jW_of 707 (by decide +kernel) rfl) (Nat.le_of_ble_eq_true rfl) (by decide +kernel)) ?_
    refine jS.br (i := .ifCond .eq 7) (P := t9 = 0) (rest := []) rfl (by decide +kernel) (tgt := 25) (by decide) (fun c10 => ?_) (fun c10 => ?_)
    · replace H := jif_t c10 H
      refine jS.adv O [(.iconst 0, 0, 0, 0, 0, (0 : Int32), 0)] (pc' := 26) (ls' := [(0, .inr (.inr x0)), (1, .inl x1), (2, .inl x2)]) (st' := [.inl (0 : Int32)]) (m2 := m) (by decide +kernel) rfl trivial ?_
      replace H := Option.some.inj H
      subst H
      exact jS.zret rfl (Or.inl rfl) (by decide +kernel)
    · replace H := jif_f c10 H
      refine jS.adv O [(.iconst 1, 0, 0, 0, 0, (1 : Int32), 0), (.goto 4, 0, 26, 0, 0, 0, 0)] (pc' := 26) (ls' := [(0, .inr (.inr x0)), (1, .inl x1), (2, .inl x2)]) (st' := [.inl (1 : Int32)]) (m2 := m) (by decide +kernel) rfl trivial ?_
      replace H := Option.some.inj H
      subst H
      exact jS.zret rfl (Or.inr rfl) (by decide +kernel)
def c_X9_remove (F : Nat) (m : jMe) (x0 : Nat) (x1 : Int32) (x2 : Int32) : Option (Int32 × jMe) :=
  jgd (jK m x0 = 41) <| jb (c_X9_isRow F m x0 x1 x2) fun t3 => (if t3 = 0 then some ((-2 : Int32), m) else jgd (jK m (jP m x0 0) = 5) <| jgd (jin x1 (jZ m (jP m x0 0)) = true) <| jgd (jK m (jP m (jP m x0 0) x1.toNatClampNeg) = 36) <| jb (c_X4_isLive F m (jP m (jP m x0 0) x1.toNatClampNeg) x2) fun t9 => (if t9 = 0 then some ((-3 : Int32), m) else jb (c_X4_letsGo F m (jP m (jP m x0 0) x1.toNatClampNeg)) fun t12 => (if t12 = 0 then some ((-3 : Int32), m) else jb (c_X4_setLive F m (jP m (jP m x0 0) x1.toNatClampNeg) x2 (0 : Int32)) fun t15 => jgd (jK t15 x0 = 41) <| jgd (jK t15 (jP m (jP m x0 0) x1.toNatClampNeg) = 36) <| jb (c_J6_bitCount_0f7a4 F (jsI t15 x0 10 (1 : Int32)) (jI (jsI t15 x0 10 (1 : Int32)) (jP m (jP m x0 0) x1.toNatClampNeg) 6)) fun t19 => some (t19, (jsI t15 x0 10 (1 : Int32))))))
theorem ec_X9_remove {X : jX} {l : Launch} {d : Nat} (O : jOk X) (hd : 5 ≤ d) {F : Nat} {m : jMe} {x0 : Nat} {x1 : Int32} {x2 : Int32} {r : Int32 × jMe} (H : c_X9_remove F m x0 x1 x2 = some r) : jH X l d jm_X9_remove [.inr (.inr x0), .inl x1, .inl x2] m (some (.inl r.1)) r.2 := by
  refine jH.of jpl_RX9 rfl (Nat.le_of_ble_eq_true rfl) ?_
  show jS X l d jm_X9_remove m _ _ (0, [(0, .inr (.inr x0)), (1, .inl x1), (2, .inl x2)], [], m)
  unfold c_X9_remove at H
  obtain ⟨w1, H⟩ := jgd_ok H
  refine jS.adv O [(.aload_n 0, 0, 0, 0, 0, 0, 0), (.iload_n 1, 0, 0, 0, 0, 0, 0), (.iload_n 2, 0, 0, 0, 0, 0, 0)] (pc' := 3) (ls' := [(0, .inr (.inr x0)), (1, .inl x1), (2, .inl x2)]) (st' := [.inl x2, .inl x1, .inr (.inr x0)]) (m2 := m) (by decide +kernel) rfl trivial ?_
  obtain ⟨t3, w2, H⟩ := jb_ok H
  refine jS.step (c' := (6, [(0, .inr (.inr x0)), (1, .inl x1), (2, .inl x2)], [.inl t3], m)) (jSt.callV (c := 9) (As := [.inl x1, .inl x2]) (rest := []) O (ec_X9_isRow (d := 3) O (Nat.le_refl _) w2) w1 (by decide) rfl (by omega) jmw_X9_isRow jmv_X9_isRow jmn_X9_isRow (idx := 108) (jW_of 703 (by decide +kernel) rfl) (Nat.le_of_ble_eq_true rfl) (by decide +kernel)) ?_
  refine jS.br (i := .ifCond .ne 6) (P := ¬ t3 = 0) (rest := []) rfl (by decide +kernel) (tgt := 12) (by decide) (fun c4 => ?_) (fun c4 => ?_)
  · replace H := jif_f c4 H
    obtain ⟨w5, H⟩ := jgd_ok H
    obtain ⟨w6, H⟩ := jgd_ok H
    obtain ⟨w7, H⟩ := jgd_ok H
    refine jS.adv O [(.aload_n 0, 0, 0, 0, 0, 0, 0), (.getfield 11, 0, 9, 0, 578, 0, 0), (.iload_n 1, 0, 0, 0, 0, 0, 0), (.aaload, 0, 5, 0, 0, 0, 0), (.astore_n 3, 0, 0, 0, 0, 0, 0), (.aload_n 3, 0, 0, 0, 0, 0, 0), (.iload_n 2, 0, 0, 0, 0, 0, 0)] (pc' := 21) (ls' := [(3, .inr (.inr (jP m (jP m x0 0) x1.toNatClampNeg))), (0, .inr (.inr x0)), (1, .inl x1), (2, .inl x2)]) (st' := [.inl x2, .inr (.inr (jP m (jP m x0 0) x1.toNatClampNeg))]) (m2 := m) (by decide +kernel) rfl ⟨w1, ⟨w5, jib_ok w6⟩, trivial⟩ ?_
    obtain ⟨t9, w8, H⟩ := jb_ok H
    refine jS.step (c' := (24, [(3, .inr (.inr (jP m (jP m x0 0) x1.toNatClampNeg))), (0, .inr (.inr x0)), (1, .inl x1), (2, .inl x2)], [.inl t9], m)) (jSt.callV (c := 4) (As := [.inl x2]) (rest := []) O (ec_X4_isLive (d := 3) O (Nat.le_refl _) w8) w7 (by decide) rfl (by omega) jmw_X4_isLive jmv_X4_isLive jmn_X4_isLive (idx := 112) (jW_of 708 (by decide +kernel) rfl) (Nat.le_of_ble_eq_true rfl) (by decide +kernel)) ?_
    refine jS.br (i := .ifCond .eq 10) (P := t9 = 0) (rest := []) rfl (by decide +kernel) (tgt := 34) (by decide) (fun c10 => ?_) (fun c10 => ?_)
    · replace H := jif_t c10 H
      refine jS.adv O [(.bipush (-3), 0, 0, 0, 0, (-3 : Int32), 0)] (pc' := 36) (ls' := [(3, .inr (.inr (jP m (jP m x0 0) x1.toNatClampNeg))), (0, .inr (.inr x0)), (1, .inl x1), (2, .inl x2)]) (st' := [.inl (-3 : Int32)]) (m2 := m) (by decide +kernel) rfl trivial ?_
      replace H := Option.some.inj H
      subst H
      exact jS.iret rfl (by decide +kernel)
    · replace H := jif_f c10 H
      refine jS.adv O [(.aload_n 3, 0, 0, 0, 0, 0, 0)] (pc' := 28) (ls' := [(3, .inr (.inr (jP m (jP m x0 0) x1.toNatClampNeg))), (0, .inr (.inr x0)), (1, .inl x1), (2, .inl x2)]) (st' := [.inr (.inr (jP m (jP m x0 0) x1.toNatClampNeg))]) (m2 := m) (by decide +kernel) rfl trivial ?_
      obtain ⟨t12, w11, H⟩ := jb_ok H
      refine jS.step (c' := (31, [(3, .inr (.inr (jP m (jP m x0 0) x1.toNatClampNeg))), (0, .inr (.inr x0)), (1, .inl x1), (2, .inl x2)], [.inl t12], m)) (jSt.callV (c := 4) (As := []) (rest := []) O (ec_X4_letsGo (d := 4) O (Nat.le_refl _) w11) w7 (by decide) rfl (by omega) jmw_X4_letsGo jmv_X4_letsGo jmn_X4_letsGo (idx := 115) (jW_of 709 (by decide +kernel) rfl) (Nat.le_of_ble_eq_true rfl) (by decide +kernel)) ?_
      refine jS.br (i := .ifCond .ne 6) (P := ¬ t12 = 0) (rest := []) rfl (by decide +kernel) (tgt := 37) (by decide) (fun c13 => ?_) (fun c13 => ?_)
      · replace H := jif_f c13 H
        refine jS.adv O [(.aload_n 3, 0, 0, 0, 0, 0, 0), (.iload_n 2, 0, 0, 0, 0, 0, 0), (.iconst 0, 0, 0, 0, 0, (0 : Int32), 0)] (pc' := 40) (ls' := [(3, .inr (.inr (jP m (jP m x0 0) x1.toNatClampNeg))), (0, .inr (.inr x0)), (1, .inl x1), (2, .inl x2)]) (st' := [.inl (0 : Int32), .inl x2, .inr (.inr (jP m (jP m x0 0) x1.toNatClampNeg))]) (m2 := m) (by decide +kernel) rfl trivial ?_
        obtain ⟨t15, w14, H⟩ := jb_ok H
        refine jS.step (c' := (43, [(3, .inr (.inr (jP m (jP m x0 0) x1.toNatClampNeg))), (0, .inr (.inr x0)), (1, .inl x1), (2, .inl x2)], [], t15)) (jSt.callV (c := 4) (As := [.inl x2, .inl (0 : Int32)]) (rest := []) O (ec_X4_setLive (d := 2) O (Nat.le_refl _) w14) w7 (by decide) rfl (by omega) jmw_X4_setLive jmv_X4_setLive jmn_X4_setLive (idx := 119) (jW_of 713 (by decide +kernel) rfl) (Nat.le_of_ble_eq_true rfl) (by decide +kernel)) ?_
        obtain ⟨w16, H⟩ := jgd_ok H
        obtain ⟨w17, H⟩ := jgd_ok H
        refine jS.adv O [(.aload_n 0, 0, 0, 0, 0, 0, 0), (.iconst 1, 0, 0, 0, 0, (1 : Int32), 0), (.putfield 65, 0, 9, 10, 588, 0, 0), (.aload_n 3, 0, 0, 0, 0, 0, 0), (.getfield 123, 0, 4, 6, 513, 0, 0)] (pc' := 52) (ls' := [(3, .inr (.inr (jP m (jP m x0 0) x1.toNatClampNeg))), (0, .inr (.inr x0)), (1, .inl x1), (2, .inl x2)]) (st' := [.inl (jI (jsI t15 x0 10 (1 : Int32)) (jP m (jP m x0 0) x1.toNatClampNeg) 6)]) (m2 := (jsI t15 x0 10 (1 : Int32))) (by decide +kernel) rfl ⟨⟨w16, Or.inr rfl⟩, w17, trivial⟩ ?_
        obtain ⟨t19, w18, H⟩ := jb_ok H
        refine jS.step (c' := (55, [(3, .inr (.inr (jP m (jP m x0 0) x1.toNatClampNeg))), (0, .inr (.inr x0)), (1, .inl x1), (2, .inl x2)], [.inl t19], (jsI t15 x0 10 (1 : Int32)))) (jSt.callS (As := [.inl (jI (jsI t15 x0 10 (1 : Int32)) (jP m (jP m x0 0) x1.toNatClampNeg) 6)]) (rest := []) O (ec_J6_bitCount_0f7a4 (d := 2) O (Nat.le_refl _) w18) (by omega) jmw_J6_bitCount_0f7a4 jmv_J6_bitCount_0f7a4 jmn_J6_bitCount_0f7a4 (idx := 90) (jW_of 631 (by decide +kernel) rfl) (Nat.le_of_ble_eq_true rfl) (by decide +kernel)) ?_
        replace H := Option.some.inj H
        subst H
        exact jS.iret rfl (by decide +kernel)
      · replace H := jif_t (Classical.not_not.mp c13) H
        refine jS.adv O [(.bipush (-3), 0, 0, 0, 0, (-3 : Int32), 0)] (pc' := 36) (ls' := [(3, .inr (.inr (jP m (jP m x0 0) x1.toNatClampNeg))), (0, .inr (.inr x0)), (1, .inl x1), (2, .inl x2)]) (st' := [.inl (-3 : Int32)]) (m2 := m) (by decide +kernel) rfl trivial ?_
        replace H := Option.some.inj H
        subst H
        exact jS.iret rfl (by decide +kernel)
  · replace H := jif_t (Classical.not_not.mp c4) H
    refine jS.adv O [(.bipush (-2), 0, 0, 0, 0, (-2 : Int32), 0)] (pc' := 11) (ls' := [(0, .inr (.inr x0)), (1, .inl x1), (2, .inl x2)]) (st' := [.inl (-2 : Int32)]) (m2 := m) (by decide +kernel) rfl trivial ?_
    replace H := Option.some.inj H
    subst H
    exact jS.iret rfl (by decide +kernel)
def c_X9_restore (F : Nat) (m : jMe) (x0 : Nat) (x1 : Int32) (x2 : Int32) : Option (Int32 × jMe) :=
  jgd (jK m x0 = 41) <| jb (c_X9_isRow F m x0 x1 x2) fun t3 => (if t3 = 0 then some ((-2 : Int32), m) else jgd (jK m (jP m x0 0) = 5) <| jgd (jin x1 (jZ m (jP m x0 0)) = true) <| jgd (jK m (jP m (jP m x0 0) x1.toNatClampNeg) = 36) <| jb (c_X4_isLive F m (jP m (jP m x0 0) x1.toNatClampNeg) x2) fun t9 => (if t9 = 0 then jgd (jK m (jP m (jP m (jP m x0 0) x1.toNatClampNeg) 0) = 1) <| jgd (jin x2 (jZ m (jP m (jP m (jP m x0 0) x1.toNatClampNeg) 0)) = true) <| jb (c_X4_takes F m (jP m (jP m x0 0) x1.toNatClampNeg) (jI m (jP m (jP m (jP m x0 0) x1.toNatClampNeg) 0) x2.toNatClampNeg)) fun t14 => (if t14 = 0 then some ((-3 : Int32), m) else jb (c_X4_setLive F m (jP m (jP m x0 0) x1.toNatClampNeg) x2 (1 : Int32)) fun t17 => jgd (jK t17 x0 = 41) <| jgd (jK t17 (jP m (jP m x0 0) x1.toNatClampNeg) = 36) <| jb (c_J6_bitCount_0f7a4 F (jsI t17 x0 10 (1 : Int32)) (jI (jsI t17 x0 10 (1 : Int32)) (jP m (jP m x0 0) x1.toNatClampNeg) 6)) fun t21 => some (t21, (jsI t17 x0 10 (1 : Int32)))) else some ((-3 : Int32), m)))
theorem ec_X9_restore {X : jX} {l : Launch} {d : Nat} (O : jOk X) (hd : 6 ≤ d) {F : Nat} {m : jMe} {x0 : Nat} {x1 : Int32} {x2 : Int32} {r : Int32 × jMe} (H : c_X9_restore F m x0 x1 x2 = some r) : jH X l d jm_X9_restore [.inr (.inr x0), .inl x1, .inl x2] m (some (.inl r.1)) r.2 := by
  refine jH.of jpl_RX9 rfl (Nat.le_of_ble_eq_true rfl) ?_
  show jS X l d jm_X9_restore m _ _ (0, [(0, .inr (.inr x0)), (1, .inl x1), (2, .inl x2)], [], m)
  unfold c_X9_restore at H
  obtain ⟨w1, H⟩ := jgd_ok H
  refine jS.adv O [(.aload_n 0, 0, 0, 0, 0, 0, 0), (.iload_n 1, 0, 0, 0, 0, 0, 0), (.iload_n 2, 0, 0, 0, 0, 0, 0)] (pc' := 3) (ls' := [(0, .inr (.inr x0)), (1, .inl x1), (2, .inl x2)]) (st' := [.inl x2, .inl x1, .inr (.inr x0)]) (m2 := m) (by decide +kernel) rfl trivial ?_
  obtain ⟨t3, w2, H⟩ := jb_ok H
  refine jS.step (c' := (6, [(0, .inr (.inr x0)), (1, .inl x1), (2, .inl x2)], [.inl t3], m)) (jSt.callV (c := 9) (As := [.inl x1, .inl x2]) (rest := []) O (ec_X9_isRow (d := 3) O (Nat.le_refl _) w2) w1 (by decide) rfl (by omega) jmw_X9_isRow jmv_X9_isRow jmn_X9_isRow (idx := 108) (jW_of 703 (by decide +kernel) rfl) (Nat.le_of_ble_eq_true rfl) (by decide +kernel)) ?_
  refine jS.br (i := .ifCond .ne 6) (P := ¬ t3 = 0) (rest := []) rfl (by decide +kernel) (tgt := 12) (by decide) (fun c4 => ?_) (fun c4 => ?_)
  · replace H := jif_f c4 H
    obtain ⟨w5, H⟩ := jgd_ok H
    obtain ⟨w6, H⟩ := jgd_ok H
    obtain ⟨w7, H⟩ := jgd_ok H
    refine jS.adv O [(.aload_n 0, 0, 0, 0, 0, 0, 0), (.getfield 11, 0, 9, 0, 578, 0, 0), (.iload_n 1, 0, 0, 0, 0, 0, 0), (.aaload, 0, 5, 0, 0, 0, 0), (.astore_n 3, 0, 0, 0, 0, 0, 0), (.aload_n 3, 0, 0, 0, 0, 0, 0), (.iload_n 2, 0, 0, 0, 0, 0, 0)] (pc' := 21) (ls' := [(3, .inr (.inr (jP m (jP m x0 0) x1.toNatClampNeg))), (0, .inr (.inr x0)), (1, .inl x1), (2, .inl x2)]) (st' := [.inl x2, .inr (.inr (jP m (jP m x0 0) x1.toNatClampNeg))]) (m2 := m) (by decide +kernel) rfl ⟨w1, ⟨w5, jib_ok w6⟩, trivial⟩ ?_
    obtain ⟨t9, w8, H⟩ := jb_ok H
    refine jS.step (c' := (24, [(3, .inr (.inr (jP m (jP m x0 0) x1.toNatClampNeg))), (0, .inr (.inr x0)), (1, .inl x1), (2, .inl x2)], [.inl t9], m)) (jSt.callV (c := 4) (As := [.inl x2]) (rest := []) O (ec_X4_isLive (d := 3) O (Nat.le_refl _) w8) w7 (by decide) rfl (by omega) jmw_X4_isLive jmv_X4_isLive jmn_X4_isLive (idx := 112) (jW_of 708 (by decide +kernel) rfl) (Nat.le_of_ble_eq_true rfl) (by decide +kernel)) ?_
    refine jS.br (i := .ifCond .ne 16) (P := ¬ t9 = 0) (rest := []) rfl (by decide +kernel) (tgt := 40) (by decide) (fun c10 => ?_) (fun c10 => ?_)
    · replace H := jif_f c10 H
      refine jS.adv O [(.bipush (-3), 0, 0, 0, 0, (-3 : Int32), 0)] (pc' := 42) (ls' := [(3, .inr (.inr (jP m (jP m x0 0) x1.toNatClampNeg))), (0, .inr (.inr x0)), (1, .inl x1), (2, .inl x2)]) (st' := [.inl (-3 : Int32)]) (m2 := m) (by decide +kernel) rfl trivial ?_
      replace H := Option.some.inj H
      subst H
      exact jS.iret rfl (by decide +kernel)
    · replace H := jif_t (Classical.not_not.mp c10) H
      obtain ⟨w11, H⟩ := jgd_ok H
      obtain ⟨w12, H⟩ := jgd_ok H
      refine jS.adv O [(.aload_n 3, 0, 0, 0, 0, 0, 0), (.aload_n 3, 0, 0, 0, 0, 0, 0), (.getfield 126, 0, 4, 0, 493, 0, 0), (.iload_n 2, 0, 0, 0, 0, 0, 0), (.iaload, 0, 1, 0, 0, 0, 0)] (pc' := 34) (ls' := [(3, .inr (.inr (jP m (jP m x0 0) x1.toNatClampNeg))), (0, .inr (.inr x0)), (1, .inl x1), (2, .inl x2)]) (st' := [.inl (jI m (jP m (jP m (jP m x0 0) x1.toNatClampNeg) 0) x2.toNatClampNeg), .inr (.inr (jP m (jP m x0 0) x1.toNatClampNeg))]) (m2 := m) (by decide +kernel) rfl ⟨w7, ⟨w11, jib_ok w12⟩, trivial⟩ ?_
      obtain ⟨t14, w13, H⟩ := jb_ok H
      refine jS.step (c' := (37, [(3, .inr (.inr (jP m (jP m x0 0) x1.toNatClampNeg))), (0, .inr (.inr x0)), (1, .inl x1), (2, .inl x2)], [.inl t14], m)) (jSt.callV (c := 4) (As := [.inl (jI m (jP m (jP m (jP m x0 0) x1.toNatClampNeg) 0) x2.toNatClampNeg)]) (rest := []) O (ec_X4_takes (d := 5) O (Nat.le_refl _) w13) w7 (by decide) rfl (by omega) jmw_X4_takes jmv_X4_takes jmn_X4_takes (idx := 129) (jW_of 661 (by decide +kernel) rfl) (Nat.le_of_ble_eq_true rfl) (by decide +kernel)) ?_
      refine jS.br (i := .ifCond .ne 6) (P := ¬ t14 = 0) (rest := []) rfl (by decide +kernel) (tgt := 43) (by decide) (fun c15 => ?_) (fun c15 => ?_)
      · replace H := jif_f c15 H
        refine jS.adv O [(.aload_n 3, 0, 0, 0, 0, 0, 0), (.iload_n 2, 0, 0, 0, 0, 0, 0), (.iconst 1, 0, 0, 0, 0, (1 : Int32), 0)] (pc' := 46) (ls' := [(3, .inr (.inr (jP m (jP m x0 0) x1.toNatClampNeg))), (0, .inr (.inr x0)), (1, .inl x1), (2, .inl x2)]) (st' := [.inl (1 : Int32), .inl x2, .inr (.inr (jP m (jP m x0 0) x1.toNatClampNeg))]) (m2 := m) (by decide +kernel) rfl trivial ?_
        obtain ⟨t17, w16, H⟩ := jb_ok H
        refine jS.step (c' := (49, [(3, .inr (.inr (jP m (jP m x0 0) x1.toNatClampNeg))), (0, .inr (.inr x0)), (1, .inl x1), (2, .inl x2)], [], t17)) (jSt.callV (c := 4) (As := [.inl x2, .inl (1 : Int32)]) (rest := []) O (ec_X4_setLive (d := 2) O (Nat.le_refl _) w16) w7 (by decide) rfl (by omega) jmw_X4_setLive jmv_X4_setLive jmn_X4_setLive (idx := 119) (jW_of 713 (by decide +kernel) rfl) (Nat.le_of_ble_eq_true rfl) (by decide +kernel)) ?_
        obtain ⟨w18, H⟩ := jgd_ok H
        obtain ⟨w19, H⟩ := jgd_ok H
        refine jS.adv O [(.aload_n 0, 0, 0, 0, 0, 0, 0), (.iconst 1, 0, 0, 0, 0, (1 : Int32), 0), (.putfield 65, 0, 9, 10, 588, 0, 0), (.aload_n 3, 0, 0, 0, 0, 0, 0), (.getfield 123, 0, 4, 6, 513, 0, 0)] (pc' := 58) (ls' := [(3, .inr (.inr (jP m (jP m x0 0) x1.toNatClampNeg))), (0, .inr (.inr x0)), (1, .inl x1), (2, .inl x2)]) (st' := [.inl (jI (jsI t17 x0 10 (1 : Int32)) (jP m (jP m x0 0) x1.toNatClampNeg) 6)]) (m2 := (jsI t17 x0 10 (1 : Int32))) (by decide +kernel) rfl ⟨⟨w18, Or.inr rfl⟩, w19, trivial⟩ ?_
        obtain ⟨t21, w20, H⟩ := jb_ok H
        refine jS.step (c' := (61, [(3, .inr (.inr (jP m (jP m x0 0) x1.toNatClampNeg))), (0, .inr (.inr x0)), (1, .inl x1), (2, .inl x2)], [.inl t21], (jsI t17 x0 10 (1 : Int32)))) (jSt.callS (As := [.inl (jI (jsI t17 x0 10 (1 : Int32)) (jP m (jP m x0 0) x1.toNatClampNeg) 6)]) (rest := []) O (ec_J6_bitCount_0f7a4 (d := 2) O (Nat.le_refl _) w20) (by omega) jmw_J6_bitCount_0f7a4 jmv_J6_bitCount_0f7a4 jmn_J6_bitCount_0f7a4 (idx := 90) (jW_of 631 (by decide +kernel) rfl) (Nat.le_of_ble_eq_true rfl) (by decide +kernel)) ?_
        replace H := Option.some.inj H
        subst H
        exact jS.iret rfl (by decide +kernel)
      · replace H := jif_t (Classical.not_not.mp c15) H
        refine jS.adv O [(.bipush (-3), 0, 0, 0, 0, (-3 : Int32), 0)] (pc' := 42) (ls' := [(3, .inr (.inr (jP m (jP m x0 0) x1.toNatClampNeg))), (0, .inr (.inr x0)), (1, .inl x1), (2, .inl x2)]) (st' := [.inl (-3 : Int32)]) (m2 := m) (by decide +kernel) rfl trivial ?_
        replace H := Option.some.inj H
        subst H
        exact jS.iret rfl (by decide +kernel)
  · replace H := jif_t (Classical.not_not.mp c4) H
    refine jS.adv O [(.bipush (-2), 0, 0, 0, 0, (-2 : Int32), 0)] (pc' := 11) (ls' := [(0, .inr (.inr x0)), (1, .inl x1), (2, .inl x2)]) (st' := [.inl (-2 : Int32)]) (m2 := m) (by decide +kernel) rfl trivial ?_
    replace H := Option.some.inj H
    subst H
    exact jS.iret rfl (by decide +kernel)
def c_X9_copies (F : Nat) (m : jMe) (x0 : Nat) (x1 : Int32) (x2 : Int32) (x3 : Int32) : Option (Int32 × jMe) :=
  jgd (jK m x0 = 41) <| jb (c_X9_isRow F m x0 x1 x2) fun t3 => (if t3 = 0 then some ((-2 : Int32), m) else (if x3 < (1 : Int32) then some ((-2 : Int32), m) else (if x3 ≤ (2000000000 : Int32) then jgd (jK m (jP m x0 0) = 5) <| jgd (jin x1 (jZ m (jP m x0 0)) = true) <| jgd (jK m (jP m (jP m x0 0) x1.toNatClampNeg) = 36) <| jgd (jK m (jP m (jP m (jP m x0 0) x1.toNatClampNeg) 1) = 1) <| jgd (jin x2 (jZ m (jP m (jP m (jP m x0 0) x1.toNatClampNeg) 1)) = true) <| jgd (jin x1 (jZ m (jP m x0 0)) = true) <| jgd (jin x2 (jZ m (jP m (jP m (jP m x0 0) x1.toNatClampNeg) 1)) = true) <| some ((jI m (jP m (jP m (jP m x0 0) x1.toNatClampNeg) 1) x2.toNatClampNeg), (jsI (jsI m (jP m (jP m (jP m x0 0) x1.toNatClampNeg) 1) x2.toNatClampNeg x3) x0 10 (1 : Int32))) else some ((-2 : Int32), m))))
theorem ec_X9_copies {X : jX} {l : Launch} {d : Nat} (O : jOk X) (hd : 4 ≤ d) {F : Nat} {m : jMe} {x0 : Nat} {x1 : Int32} {x2 : Int32} {x3 : Int32} {r : Int32 × jMe} (H : c_X9_copies F m x0 x1 x2 x3 = some r) : jH X l d jm_X9_copies [.inr (.inr x0), .inl x1, .inl x2, .inl x3] m (some (.inl r.1)) r.2 := by
  refine jH.of jpl_RX9 rfl (Nat.le_of_ble_eq_true rfl) ?_
  show jS X l d jm_X9_copies m _ _ (0, [(0, .inr (.inr x0)), (1, .inl x1), (2, .inl x2), (3, .inl x3)], [], m)
  unfold c_X9_copies at H
  obtain ⟨w1, H⟩ := jgd_ok H
  refine jS.adv O [(.aload_n 0, 0, 0, 0, 0, 0, 0), (.iload_n 1, 0, 0, 0, 0, 0, 0), (.iload_n 2, 0, 0, 0, 0, 0, 0)] (pc' := 3) (ls' := [(0, .inr (.inr x0)), (1, .inl x1), (2, .inl x2), (3, .inl x3)]) (st' := [.inl x2, .inl x1, .inr (.inr x0)]) (m2 := m) (by decide +kernel) rfl trivial ?_
  obtain ⟨t3, w2, H⟩ := jb_ok H
  refine jS.step (c' := (6, [(0, .inr (.inr x0)), (1, .inl x1), (2, .inl x2), (3, .inl x3)], [.inl t3], m)) (jSt.callV (c := 9) (As := [.inl x1, .inl x2]) (rest := []) O (ec_X9_isRow (d := 3) O (Nat.le_refl _) w2) w1 (by decide) rfl (by omega) jmw_X9_isRow jmv_X9_isRow jmn_X9_isRow (idx := 108) (jW_of 703 (by decide +kernel) rfl) (Nat.le_of_ble_eq_true rfl) (by decide +kernel)) ?_
  refine jS.br (i := .ifCond .eq 14) (P := t3 = 0) (rest := []) rfl (by decide +kernel) (tgt := 20) (by decide) (fun c4 => ?_) (fun c4 => ?_)
  · replace H := jif_t c4 H
    refine jS.adv O [(.bipush (-2), 0, 0, 0, 0, (-2 : Int32), 0)] (pc' := 22) (ls' := [(0, .inr (.inr x0)), (1, .inl x1), (2, .inl x2), (3, .inl x3)]) (st' := [.inl (-2 : Int32)]) (m2 := m) (by decide +kernel) rfl trivial ?_
    replace H := Option.some.inj H
    subst H
    exact jS.iret rfl (by decide +kernel)
  · replace H := jif_f c4 H
    refine jS.adv O [(.iload_n 3, 0, 0, 0, 0, 0, 0), (.iconst 1, 0, 0, 0, 0, (1 : Int32), 0)] (pc' := 11) (ls' := [(0, .inr (.inr x0)), (1, .inl x1), (2, .inl x2), (3, .inl x3)]) (st' := [.inl (1 : Int32), .inl x3]) (m2 := m) (by decide +kernel) rfl trivial ?_
    refine jS.br (i := .if_icmp .lt 9) (P := x3 < (1 : Int32)) (rest := []) rfl (by decide +kernel) (tgt := 20) (by decide) (fun c5 => ?_) (fun c5 => ?_)
    · replace H := jif_t c5 H
      refine jS.adv O [(.bipush (-2), 0, 0, 0, 0, (-2 : Int32), 0)] (pc' := 22) (ls' := [(0, .inr (.inr x0)), (1, .inl x1), (2, .inl x2), (3, .inl x3)]) (st' := [.inl (-2 : Int32)]) (m2 := m) (by decide +kernel) rfl trivial ?_
      replace H := Option.some.inj H
      subst H
      exact jS.iret rfl (by decide +kernel)
    · replace H := jif_f c5 H
      refine jS.adv O [(.iload_n 3, 0, 0, 0, 0, 0, 0), (.ldc 132, 0, 660, 0, 0, (2000000000 : Int32), 0)] (pc' := 17) (ls' := [(0, .inr (.inr x0)), (1, .inl x1), (2, .inl x2), (3, .inl x3)]) (st' := [.inl (2000000000 : Int32), .inl x3]) (m2 := m) (by decide +kernel) rfl trivial ?_
      refine jS.br (i := .if_icmp .le 6) (P := x3 ≤ (2000000000 : Int32)) (rest := []) rfl (by decide +kernel) (tgt := 23) (by decide) (fun c6 => ?_) (fun c6 => ?_)
      · replace H := jif_t c6 H
        obtain ⟨w7, H⟩ := jgd_ok H
        obtain ⟨w8, H⟩ := jgd_ok H
        obtain ⟨w9, H⟩ := jgd_ok H
        obtain ⟨w10, H⟩ := jgd_ok H
        obtain ⟨w11, H⟩ := jgd_ok H
        obtain ⟨w12, H⟩ := jgd_ok H
        obtain ⟨w13, H⟩ := jgd_ok H
        refine jS.adv O [(.aload_n 0, 0, 0, 0, 0, 0, 0), (.getfield 11, 0, 9, 0, 578, 0, 0), (.iload_n 1, 0, 0, 0, 0, 0, 0), (.aaload, 0, 5, 0, 0, 0, 0), (.getfield 133, 0, 4, 1, 498, 0, 0), (.iload_n 2, 0, 0, 0, 0, 0, 0), (.iaload, 0, 1, 0, 0, 0, 0), (.istore 4, 0, 0, 0, 0, 0, 0), (.aload_n 0, 0, 0, 0, 0, 0, 0), (.getfield 11, 0, 9, 0, 578, 0, 0), (.iload_n 1, 0, 0, 0, 0, 0, 0), (.aaload, 0, 5, 0, 0, 0, 0), (.getfield 133, 0, 4, 1, 498, 0, 0), (.iload_n 2, 0, 0, 0, 0, 0, 0), (.iload_n 3, 0, 0, 0, 0, 0, 0), (.iastore, 0, 0, 0, 0, 0, 0), (.aload_n 0, 0, 0, 0, 0, 0, 0), (.iconst 1, 0, 0, 0, 0, (1 : Int32), 0), (.putfield 65, 0, 9, 10, 588, 0, 0), (.iload 4, 0, 0, 0, 0, 0, 0)] (pc' := 55) (ls' := [(4, .inl (jI m (jP m (jP m (jP m x0 0) x1.toNatClampNeg) 1) x2.toNatClampNeg)), (0, .inr (.inr x0)), (1, .inl x1), (2, .inl x2), (3, .inl x3)]) (st' := [.inl (jI m (jP m (jP m (jP m x0 0) x1.toNatClampNeg) 1) x2.toNatClampNeg)]) (m2 := (jsI (jsI m (jP m (jP m (jP m x0 0) x1.toNatClampNeg) 1) x2.toNatClampNeg x3) x0 10 (1 : Int32))) (by decide +kernel) rfl ⟨w1, ⟨w7, jib_ok w8⟩, w9, ⟨w10, jib_ok w11⟩, w1, ⟨w7, jib_ok w12⟩, w9, ⟨w10, jib_ok w13⟩, ⟨w1, Or.inr rfl⟩, trivial⟩ ?_
        replace H := Option.some.inj H
        subst H
        exact jS.iret rfl (by decide +kernel)
      · replace H := jif_f c6 H
        refine jS.adv O [(.bipush (-2), 0, 0, 0, 0, (-2 : Int32), 0)] (pc' := 22) (ls' := [(0, .inr (.inr x0)), (1, .inl x1), (2, .inl x2), (3, .inl x3)]) (st' := [.inl (-2 : Int32)]) (m2 := m) (by decide +kernel) rfl trivial ?_
        replace H := Option.some.inj H
        subst H
        exact jS.iret rfl (by decide +kernel)
def c_X9_told (F : Nat) (m : jMe) (x0 : Nat) (x1 : Int32) (x2 : Int32) (x3 : Int32) : Option (Int32 × jMe) :=
  jgd (jK m x0 = 41) <| jb (c_X9_isRow F m x0 x1 x2) fun t3 => (if t3 = 0 then some ((-2 : Int32), m) else (if x3 < 0 then some ((-2 : Int32), m) else (if x3 ≤ (5 : Int32) then jgd (jK m (jP m x0 0) = 5) <| jgd (jin x1 (jZ m (jP m x0 0)) = true) <| (if x3 = (3 : Int32) then jgd (jK m (jP m (jP m x0 0) x1.toNatClampNeg) = 36) <| jgd (jK m (jP m (jP m (jP m x0 0) x1.toNatClampNeg) 1) = 1) <| jgd (jin x2 (jZ m (jP m (jP m (jP m x0 0) x1.toNatClampNeg) 1)) = true) <| some ((jI m (jP m (jP m (jP m x0 0) x1.toNatClampNeg) 1) x2.toNatClampNeg), m) else if x3 = (4 : Int32) then jgd (jK m (jP m (jP m x0 0) x1.toNatClampNeg) = 36) <| jb (c_X4_isLive F m (jP m (jP m x0 0) x1.toNatClampNeg) x2) fun t16 => (if t16 = 0 then some ((0 : Int32), m) else some ((1 : Int32), m)) else if x3 = (5 : Int32) then jgd (jK m (jP m x0 1) = 6) <| jgd (jin (jI m x0 14) (jZ m (jP m x0 1)) = true) <| jgd (jK m (jP m (jP m x0 0) x1.toNatClampNeg) = 36) <| jb (c_X4_passing F m (jP m (jP m x0 0) x1.toNatClampNeg) (jP m (jP m x0 1) (jI m x0 14).toNatClampNeg) x1) fun t23 => jb (c_X9_isIn F t23.2 t23.1 x2) fun t25 => (if t25 = 0 then some ((0 : Int32), t23.2) else some ((1 : Int32), t23.2)) else jgd (jK m (jP m (jP m x0 0) x1.toNatClampNeg) = 36) <| jgd (jK m (jP m (jP m (jP m x0 0) x1.toNatClampNeg) 0) = 1) <| jgd (jin x2 (jZ m (jP m (jP m (jP m x0 0) x1.toNatClampNeg) 0)) = true) <| jb (c_X4_attributeAt F m (jP m (jP m x0 0) x1.toNatClampNeg) x3) fun t31 => jb (c_X4_valueAt F m (jP m (jP m x0 0) x1.toNatClampNeg) (jI m (jP m (jP m (jP m x0 0) x1.toNatClampNeg) 0) x2.toNatClampNeg) t31) fun t33 => some (t33, m)) else some ((-2 : Int32), m))))
theorem ec_X9_told {X : jX} {l : Launch} {d : Nat} (O : jOk X) (hd : 6 ≤ d) {F : Nat} {m : jMe} {x0 : Nat} {x1 : Int32} {x2 : Int32} {x3 : Int32} {r : Int32 × jMe} (H : c_X9_told F m x0 x1 x2 x3 = some r) : jH X l d jm_X9_told [.inr (.inr x0), .inl x1, .inl x2, .inl x3] m (some (.inl r.1)) r.2 := by
  refine jH.of jpl_RX9 rfl (Nat.le_of_ble_eq_true rfl) ?_
  show jS X l d jm_X9_told m _ _ (0, [(0, .inr (.inr x0)), (1, .inl x1), (2, .inl x2), (3, .inl x3)], [], m)
  unfold c_X9_told at H
  obtain ⟨w1, H⟩ := jgd_ok H
  refine jS.adv O [(.aload_n 0, 0, 0, 0, 0, 0, 0), (.iload_n 1, 0, 0, 0, 0, 0, 0), (.iload_n 2, 0, 0, 0, 0, 0, 0)] (pc' := 3) (ls' := [(0, .inr (.inr x0)), (1, .inl x1), (2, .inl x2), (3, .inl x3)]) (st' := [.inl x2, .inl x1, .inr (.inr x0)]) (m2 := m) (by decide +kernel) rfl trivial ?_
  obtain ⟨t3, w2, H⟩ := jb_ok H
  refine jS.step (c' := (6, [(0, .inr (.inr x0)), (1, .inl x1), (2, .inl x2), (3, .inl x3)], [.inl t3], m)) (jSt.callV (c := 9) (As := [.inl x1, .inl x2]) (rest := []) O (ec_X9_isRow (d := 3) O (Nat.le_refl _) w2) w1 (by decide) rfl (by omega) jmw_X9_isRow jmv_X9_isRow jmn_X9_isRow (idx := 108) (jW_of 703 (by decide +kernel) rfl) (Nat.le_of_ble_eq_true rfl) (by decide +kernel)) ?_
  refine jS.br (i := .ifCond .eq 12) (P := t3 = 0) (rest := []) rfl (by decide +kernel) (tgt := 18) (by decide) (fun c4 => ?_) (fun c4 => ?_)
  · replace H := jif_t c4 H
    refine jS.adv O [(.bipush (-2), 0, 0, 0, 0, (-2 : Int32), 0)] (pc' := 20) (ls' := [(0, .inr (.inr x0)), (1, .inl x1), (2, .inl x2), (3, .inl x3)]) (st' := [.inl (-2 : Int32)]) (m2 := m) (by decide +kernel) rfl trivial ?_
    replace H := Option.some.inj H
    subst H
    exact jS.iret rfl (by decide +kernel)
  · replace H := jif_f c4 H
    refine jS.adv O [(.iload_n 3, 0, 0, 0, 0, 0, 0)] (pc' := 10) (ls' := [(0, .inr (.inr x0)), (1, .inl x1), (2, .inl x2), (3, .inl x3)]) (st' := [.inl x3]) (m2 := m) (by decide +kernel) rfl trivial ?_
    refine jS.br (i := .ifCond .lt 8) (P := x3 < 0) (rest := []) rfl (by decide +kernel) (tgt := 18) (by decide) (fun c5 => ?_) (fun c5 => ?_)
    · replace H := jif_t c5 H
      refine jS.adv O [(.bipush (-2), 0, 0, 0, 0, (-2 : Int32), 0)] (pc' := 20) (ls' := [(0, .inr (.inr x0)), (1, .inl x1), (2, .inl x2), (3, .inl x3)]) (st' := [.inl (-2 : Int32)]) (m2 := m) (by decide +kernel) rfl trivial ?_
      replace H := Option.some.inj H
      subst H
      exact jS.iret rfl (by decide +kernel)
    · replace H := jif_f c5 H
      refine jS.adv O [(.iload_n 3, 0, 0, 0, 0, 0, 0), (.iconst 5, 0, 0, 0, 0, (5 : Int32), 0)] (pc' := 15) (ls' := [(0, .inr (.inr x0)), (1, .inl x1), (2, .inl x2), (3, .inl x3)]) (st' := [.inl (5 : Int32), .inl x3]) (m2 := m) (by decide +kernel) rfl trivial ?_
      refine jS.br (i := .if_icmp .le 6) (P := x3 ≤ (5 : Int32)) (rest := []) rfl (by decide +kernel) (tgt := 21) (by decide) (fun c6 => ?_) (fun c6 => ?_)
      · replace H := jif_t c6 H
        obtain ⟨w7, H⟩ := jgd_ok H
        obtain ⟨w8, H⟩ := jgd_ok H
        refine jS.adv O [(.aload_n 0, 0, 0, 0, 0, 0, 0), (.getfield 11, 0, 9, 0, 578, 0, 0), (.iload_n 1, 0, 0, 0, 0, 0, 0), (.aaload, 0, 5, 0, 0, 0, 0), (.astore 4, 0, 0, 0, 0, 0, 0), (.iload_n 3, 0, 0, 0, 0, 0, 0)] (pc' := 30) (ls' := [(4, .inr (.inr (jP m (jP m x0 0) x1.toNatClampNeg))), (0, .inr (.inr x0)), (1, .inl x1), (2, .inl x2), (3, .inl x3)]) (st' := [.inl x3]) (m2 := m) (by decide +kernel) rfl ⟨w1, ⟨w7, jib_ok w8⟩, trivial⟩ ?_
        by_cases c9 : x3 = (3 : Int32)
        · replace H := jif_t c9 H
          refine jS.tswIn (dflt := 77) (lo := 3) (hi := 5) (offs := #[26, 34, 49]) (off := 26) c9 (len := 26) (tgt := 56) (by decide +kernel) (by decide) (by decide) rfl (by decide) ?_
          obtain ⟨w10, H⟩ := jgd_ok H
          obtain ⟨w11, H⟩ := jgd_ok H
          obtain ⟨w12, H⟩ := jgd_ok H
          refine jS.adv O [(.aload 4, 0, 0, 0, 0, 0, 0), (.getfield 133, 0, 4, 1, 498, 0, 0), (.iload_n 2, 0, 0, 0, 0, 0, 0), (.iaload, 0, 1, 0, 0, 0, 0)] (pc' := 63) (ls' := [(4, .inr (.inr (jP m (jP m x0 0) x1.toNatClampNeg))), (0, .inr (.inr x0)), (1, .inl x1), (2, .inl x2), (3, .inl x3)]) (st' := [.inl (jI m (jP m (jP m (jP m x0 0) x1.toNatClampNeg) 1) x2.toNatClampNeg)]) (m2 := m) (by decide +kernel) rfl ⟨w10, ⟨w11, jib_ok w12⟩, trivial⟩ ?_
          replace H := Option.some.inj H
          subst H
          exact jS.iret rfl (by decide +kernel)
        replace H := jif_f c9 H
        by_cases c13 : x3 = (4 : Int32)
        · replace H := jif_t c13 H
          refine jS.tswIn (dflt := 77) (lo := 3) (hi := 5) (offs := #[26, 34, 49]) (off := 34) c13 (len := 26) (tgt := 64) (by decide +kernel) (by decide) (by decide) rfl (by decide) ?_
          obtain ⟨w14, H⟩ := jgd_ok H
          refine jS.adv O [(.aload 4, 0, 0, 0, 0, 0, 0), (.iload_n 2, 0, 0, 0, 0, 0, 0)] (pc' := 67) (ls' := [(4, .inr (.inr (jP m (jP m x0 0) x1.toNatClampNeg))), (0, .inr (.inr x0)), (1, .inl x1), (2, .inl x2), (3, .inl x3)]) (st' := [.inl x2, .inr (.inr (jP m (jP m x0 0) x1.toNatClampNeg))]) (m2 := m) (by decide +kernel) rfl trivial ?_
          obtain ⟨t16, w15, H⟩ := jb_ok H
          refine jS.step (c' := (70, [(4, .inr (.inr (jP m (jP m x0 0) x1.toNatClampNeg))), (0, .inr (.inr x0)), (1, .inl x1), (2, .inl x2), (3, .inl x3)], [.inl t16], m)) (jSt.callV (c := 4) (As := [.inl x2]) (rest := []) O (ec_X4_isLive (d := 3) O (Nat.le_refl _) w15) w14 (by decide) rfl (by omega) jmw_X4_isLive jmv_X4_isLive jmn_X4_isLive (idx := 112) (jW_of 708 (by decide +kernel) rfl) (Nat.le_of_ble_eq_true rfl) (by decide +kernel)) ?_
          refine jS.br (i := .ifCond .eq 7) (P := t16 = 0) (rest := []) rfl (by decide +kernel) (tgt := 77) (by decide) (fun c17 => ?_) (fun c17 => ?_)
          · replace H := jif_t c17 H
            refine jS.adv O [(.iconst 0, 0, 0, 0, 0, (0 : Int32), 0)] (pc' := 78) (ls' := [(4, .inr (.inr (jP m (jP m x0 0) x1.toNatClampNeg))), (0, .inr (.inr x0)), (1, .inl x1), (2, .inl x2), (3, .inl x3)]) (st' := [.inl (0 : Int32)]) (m2 := m) (by decide +kernel) rfl trivial ?_
            replace H := Option.some.inj H
            subst H
            exact jS.iret rfl (by decide +kernel)
          · replace H := jif_f c17 H
            refine jS.adv O [(.iconst 1, 0, 0, 0, 0, (1 : Int32), 0), (.goto 4, 0, 78, 0, 0, 0, 0)] (pc' := 78) (ls' := [(4, .inr (.inr (jP m (jP m x0 0) x1.toNatClampNeg))), (0, .inr (.inr x0)), (1, .inl x1), (2, .inl x2), (3, .inl x3)]) (st' := [.inl (1 : Int32)]) (m2 := m) (by decide +kernel) rfl trivial ?_
            replace H := Option.some.inj H
            subst H
            exact jS.iret rfl (by decide +kernel)
        replace H := jif_f c13 H
        by_cases c18 : x3 = (5 : Int32)
        · replace H := jif_t c18 H
          refine jS.tswIn (dflt := 77) (lo := 3) (hi := 5) (offs := #[26, 34, 49]) (off := 49) c18 (len := 26) (tgt := 79) (by decide +kernel) (by decide) (by decide) rfl (by decide) ?_
          obtain ⟨w19, H⟩ := jgd_ok H
          obtain ⟨w20, H⟩ := jgd_ok H
          obtain ⟨w21, H⟩ := jgd_ok H
          refine jS.adv O [(.aload 4, 0, 0, 0, 0, 0, 0), (.aload_n 0, 0, 0, 0, 0, 0, 0), (.getfield 17, 0, 9, 1, 579, 0, 0), (.aload_n 0, 0, 0, 0, 0, 0, 0), (.getfield 79, 0, 9, 14, 592, 0, 0), (.aaload, 0, 6, 0, 0, 0, 0), (.iload_n 1, 0, 0, 0, 0, 0, 0)] (pc' := 91) (ls' := [(4, .inr (.inr (jP m (jP m x0 0) x1.toNatClampNeg))), (0, .inr (.inr x0)), (1, .inl x1), (2, .inl x2), (3, .inl x3)]) (st' := [.inl x1, .inr (.inr (jP m (jP m x0 1) (jI m x0 14).toNatClampNeg)), .inr (.inr (jP m (jP m x0 0) x1.toNatClampNeg))]) (m2 := m) (by decide +kernel) rfl ⟨w1, w1, ⟨w19, jib_ok w20⟩, trivial⟩ ?_
          obtain ⟨t23, w22, H⟩ := jb_ok H
          refine jS.step (c' := (94, [(4, .inr (.inr (jP m (jP m x0 0) x1.toNatClampNeg))), (0, .inr (.inr x0)), (1, .inl x1), (2, .inl x2), (3, .inl x3)], [.inl t23.1], t23.2)) (jSt.callV (c := 4) (As := [.inr (.inr (jP m (jP m x0 1) (jI m x0 14).toNatClampNeg)), .inl x1]) (rest := []) O (ec_X4_passing (d := 5) O (Nat.le_refl _) w22) w21 (by decide) rfl (by omega) jmw_X4_passing jmv_X4_passing jmn_X4_passing (idx := 136) (jW_of 726 (by decide +kernel) rfl) (Nat.le_of_ble_eq_true rfl) (by decide +kernel)) ?_
          refine jS.adv O [(.iload_n 2, 0, 0, 0, 0, 0, 0)] (pc' := 95) (ls' := [(4, .inr (.inr (jP m (jP m x0 0) x1.toNatClampNeg))), (0, .inr (.inr x0)), (1, .inl x1), (2, .inl x2), (3, .inl x3)]) (st' := [.inl x2, .inl t23.1]) (m2 := t23.2) (by decide +kernel) rfl trivial ?_
          obtain ⟨t25, w24, H⟩ := jb_ok H
          refine jS.step (c' := (98, [(4, .inr (.inr (jP m (jP m x0 0) x1.toNatClampNeg))), (0, .inr (.inr x0)), (1, .inl x1), (2, .inl x2), (3, .inl x3)], [.inl t25], t23.2)) (jSt.callS (As := [.inl t23.1, .inl x2]) (rest := []) O (ec_X9_isIn (d := 2) O (Nat.le_refl _) w24) (by omega) jmw_X9_isIn jmv_X9_isIn jmn_X9_isIn (idx := 140) (jW_of 744 (by decide +kernel) rfl) (Nat.le_of_ble_eq_true rfl) (by decide +kernel)) ?_
          refine jS.br (i := .ifCond .eq 7) (P := t25 = 0) (rest := []) rfl (by decide +kernel) (tgt := 105) (by decide) (fun c26 => ?_) (fun c26 => ?_)
          · replace H := jif_t c26 H
            refine jS.adv O [(.iconst 0, 0, 0, 0, 0, (0 : Int32), 0)] (pc' := 106) (ls' := [(4, .inr (.inr (jP m (jP m x0 0) x1.toNatClampNeg))), (0, .inr (.inr x0)), (1, .inl x1), (2, .inl x2), (3, .inl x3)]) (st' := [.inl (0 : Int32)]) (m2 := t23.2) (by decide +kernel) rfl trivial ?_
            replace H := Option.some.inj H
            subst H
            exact jS.iret rfl (by decide +kernel)
          · replace H := jif_f c26 H
            refine jS.adv O [(.iconst 1, 0, 0, 0, 0, (1 : Int32), 0), (.goto 4, 0, 106, 0, 0, 0, 0)] (pc' := 106) (ls' := [(4, .inr (.inr (jP m (jP m x0 0) x1.toNatClampNeg))), (0, .inr (.inr x0)), (1, .inl x1), (2, .inl x2), (3, .inl x3)]) (st' := [.inl (1 : Int32)]) (m2 := t23.2) (by decide +kernel) rfl trivial ?_
            replace H := Option.some.inj H
            subst H
            exact jS.iret rfl (by decide +kernel)
        replace H := jif_f c18 H
        refine jS.tswOut (dflt := 77) (lo := 3) (hi := 5) (offs := #[26, 34, 49]) (by have q := jsw_out (x := x3) (vs := [(3 : Int32), (4 : Int32), (5 : Int32)]) (lo := 3) (n := 3) (by decide) (List.forall_mem_cons.mpr ⟨c9, List.forall_mem_cons.mpr ⟨c13, List.forall_mem_cons.mpr ⟨c18, List.forall_mem_nil _⟩⟩⟩); first | exact q | omega) (len := 26) (tgt := 107) (by decide +kernel) (by decide) ?_
        obtain ⟨w27, H⟩ := jgd_ok H
        obtain ⟨w28, H⟩ := jgd_ok H
        obtain ⟨w29, H⟩ := jgd_ok H
        refine jS.adv O [(.aload 4, 0, 0, 0, 0, 0, 0), (.aload 4, 0, 0, 0, 0, 0, 0), (.getfield 126, 0, 4, 0, 493, 0, 0), (.iload_n 2, 0, 0, 0, 0, 0, 0), (.iaload, 0, 1, 0, 0, 0, 0), (.aload 4, 0, 0, 0, 0, 0, 0), (.iload_n 3, 0, 0, 0, 0, 0, 0)] (pc' := 119) (ls' := [(4, .inr (.inr (jP m (jP m x0 0) x1.toNatClampNeg))), (0, .inr (.inr x0)), (1, .inl x1), (2, .inl x2), (3, .inl x3)]) (st' := [.inl x3, .inr (.inr (jP m (jP m x0 0) x1.toNatClampNeg)), .inl (jI m (jP m (jP m (jP m x0 0) x1.toNatClampNeg) 0) x2.toNatClampNeg), .inr (.inr (jP m (jP m x0 0) x1.toNatClampNeg))]) (m2 := m) (by decide +kernel) rfl ⟨w27, ⟨w28, jib_ok w29⟩, trivial⟩ ?_
        obtain ⟨t31, w30, H⟩ := jb_ok H
        refine jS.step (c' := (122, [(4, .inr (.inr (jP m (jP m x0 0) x1.toNatClampNeg))), (0, .inr (.inr x0)), (1, .inl x1), (2, .inl x2), (3, .inl x3)], [.inl t31, .inl (jI m (jP m (jP m (jP m x0 0) x1.toNatClampNeg) 0) x2.toNatClampNeg), .inr (.inr (jP m (jP m x0 0) x1.toNatClampNeg))], m)) (jSt.callV (c := 4) (As := [.inl x3]) (rest := [.inl (jI m (jP m (jP m (jP m x0 0) x1.toNatClampNeg) 0) x2.toNatClampNeg), .inr (.inr (jP m (jP m x0 0) x1.toNatClampNeg))]) O (ec_X4_attributeAt (d := 3) O (Nat.le_refl _) w30) w27 (by decide) rfl (by omega) jmw_X4_attributeAt jmv_X4_attributeAt jmn_X4_attributeAt (idx := 143) (jW_of 745 (by decide +kernel) rfl) (Nat.le_of_ble_eq_true rfl) (by decide +kernel)) ?_
        obtain ⟨t33, w32, H⟩ := jb_ok H
        refine jS.step (c' := (125, [(4, .inr (.inr (jP m (jP m x0 0) x1.toNatClampNeg))), (0, .inr (.inr x0)), (1, .inl x1), (2, .inl x2), (3, .inl x3)], [.inl t33], m)) (jSt.callV (c := 4) (As := [.inl (jI m (jP m (jP m (jP m x0 0) x1.toNatClampNeg) 0) x2.toNatClampNeg), .inl t31]) (rest := []) O (ec_X4_valueAt (d := 2) O (Nat.le_refl _) w32) w27 (by decide) rfl (by omega) jmw_X4_valueAt jmv_X4_valueAt jmn_X4_valueAt (idx := 146) (jW_of 746 (by decide +kernel) rfl) (Nat.le_of_ble_eq_true rfl) (by decide +kernel)) ?_
        replace H := Option.some.inj H
        subst H
        exact jS.iret rfl (by decide +kernel)
      · replace H := jif_f c6 H
        refine jS.adv O [(.bipush (-2), 0, 0, 0, 0, (-2 : Int32), 0)] (pc' := 20) (ls' := [(0, .inr (.inr x0)), (1, .inl x1), (2, .inl x2), (3, .inl x3)]) (st' := [.inl (-2 : Int32)]) (m2 := m) (by decide +kernel) rfl trivial ?_
        replace H := Option.some.inj H
        subst H
        exact jS.iret rfl (by decide +kernel)
def c_X9_worth (F : Nat) (m : jMe) (x0 : Nat) (x1 : Int32) (x2 : Int32) : Option (Int64) :=
  jgd (jK m x0 = 41) <| jb (c_X9_isRow F m x0 x1 x2) fun t3 => (if t3 = 0 then some (-4611686018427387904 : Int64) else jgd (jK m (jP m x0 0) = 5) <| jgd (jin x1 (jZ m (jP m x0 0)) = true) <| jgd (jK m (jP m (jP m x0 0) x1.toNatClampNeg) = 36) <| jb (c_X4_worthOf F m (jP m (jP m x0 0) x1.toNatClampNeg) x2) fun t9 => some t9)
theorem ec_X9_worth {X : jX} {l : Launch} {d : Nat} (O : jOk X) (hd : 4 ≤ d) {F : Nat} {m : jMe} {x0 : Nat} {x1 : Int32} {x2 : Int32} {r : Int64} (H : c_X9_worth F m x0 x1 x2 = some r) : jH X l d jm_X9_worth [.inr (.inr x0), .inl x1, .inl x2] m (some (.inr (.inl r))) m := by
  refine jH.of jpl_RX9 rfl (Nat.le_of_ble_eq_true rfl) ?_
  show jS X l d jm_X9_worth m _ _ (0, [(0, .inr (.inr x0)), (1, .inl x1), (2, .inl x2)], [], m)
  unfold c_X9_worth at H
  obtain ⟨w1, H⟩ := jgd_ok H
  refine jS.adv O [(.aload_n 0, 0, 0, 0, 0, 0, 0), (.iload_n 1, 0, 0, 0, 0, 0, 0), (.iload_n 2, 0, 0, 0, 0, 0, 0)] (pc' := 3) (ls' := [(0, .inr (.inr x0)), (1, .inl x1), (2, .inl x2)]) (st' := [.inl x2, .inl x1, .inr (.inr x0)]) (m2 := m) (by decide +kernel) rfl trivial ?_
  obtain ⟨t3, w2, H⟩ := jb_ok H
  refine jS.step (c' := (6, [(0, .inr (.inr x0)), (1, .inl x1), (2, .inl x2)], [.inl t3], m)) (jSt.callV (c := 9) (As := [.inl x1, .inl x2]) (rest := []) O (ec_X9_isRow (d := 3) O (Nat.le_refl _) w2) w1 (by decide) rfl (by omega) jmw_X9_isRow jmv_X9_isRow jmn_X9_isRow (idx := 108) (jW_of 703 (by decide +kernel) rfl) (Nat.le_of_ble_eq_true rfl) (by decide +kernel)) ?_
  refine jS.br (i := .ifCond .eq 16) (P := t3 = 0) (rest := []) rfl (by decide +kernel) (tgt := 22) (by decide) (fun c4 => ?_) (fun c4 => ?_)
  · replace H := jif_t c4 H
    refine jS.adv O [(.ldc2_w 154, 0, 757, 0, 0, 0, (-4611686018427387904 : Int64))] (pc' := 25) (ls' := [(0, .inr (.inr x0)), (1, .inl x1), (2, .inl x2)]) (st' := [.inr (.inl (-4611686018427387904 : Int64))]) (m2 := m) (by decide +kernel) rfl trivial ?_
    replace H := Option.some.inj H
    subst H
    exact jS.lret rfl (by decide +kernel)
  · replace H := jif_f c4 H
    obtain ⟨w5, H⟩ := jgd_ok H
    obtain ⟨w6, H⟩ := jgd_ok H
    obtain ⟨w7, H⟩ := jgd_ok H
    refine jS.adv O [(.aload_n 0, 0, 0, 0, 0, 0, 0), (.getfield 11, 0, 9, 0, 578, 0, 0), (.iload_n 1, 0, 0, 0, 0, 0, 0), (.aaload, 0, 5, 0, 0, 0, 0), (.iload_n 2, 0, 0, 0, 0, 0, 0)] (pc' := 16) (ls' := [(0, .inr (.inr x0)), (1, .inl x1), (2, .inl x2)]) (st' := [.inl x2, .inr (.inr (jP m (jP m x0 0) x1.toNatClampNeg))]) (m2 := m) (by decide +kernel) rfl ⟨w1, ⟨w5, jib_ok w6⟩, trivial⟩ ?_
    obtain ⟨t9, w8, H⟩ := jb_ok H
    refine jS.step (c' := (19, [(0, .inr (.inr x0)), (1, .inl x1), (2, .inl x2)], [.inr (.inl t9)], m)) (jSt.callV (c := 4) (As := [.inl x2]) (rest := []) O (ec_X4_worthOf (d := 2) O (Nat.le_refl _) w8) w7 (by decide) rfl (by omega) jmw_X4_worthOf jmv_X4_worthOf jmn_X4_worthOf (idx := 150) (jW_of 751 (by decide +kernel) rfl) (Nat.le_of_ble_eq_true rfl) (by decide +kernel)) ?_
    refine jS.adv O [(.goto 6, 0, 25, 0, 0, 0, 0)] (pc' := 25) (ls' := [(0, .inr (.inr x0)), (1, .inl x1), (2, .inl x2)]) (st' := [.inr (.inl t9)]) (m2 := m) (by decide +kernel) rfl trivial ?_
    replace H := Option.some.inj H
    subst H
    exact jS.lret rfl (by decide +kernel)
def c_X9_current_j36 (F : Nat) (m : jMe) (y0 : Nat) : Option (Nat × jMe) :=
  jgd (jK m y0 = 41) <| some ((jP m y0 8), m)
theorem ec_X9_current_j36 {X : jX} {l : Launch} {d : Nat} (O : jOk X) (hd : 7 ≤ d) {F : Nat} {m0 m : jMe} {y0 : Nat} {r : Nat × jMe} (H : c_X9_current_j36 F m y0 = some r) : jS X l d jm_X9_current m0 (some (.inr (.inr r.1))) r.2 (36, [(0, .inr (.inr y0))], [], m) := by
  unfold c_X9_current_j36 at H
  obtain ⟨w3, H⟩ := jgd_ok H
  refine jS.adv O [(.aload_n 0, 0, 0, 0, 0, 0, 0), (.getfield 58, 0, 9, 8, 586, 0, 0)] (pc' := 40) (ls' := [(0, .inr (.inr y0))]) (st' := [.inr (.inr (jP m y0 8))]) (m2 := m) (by decide +kernel) rfl ⟨w3, trivial⟩ ?_
  replace H := Option.some.inj H
  subst H
  exact jS.aret rfl (by first | exact Or.inl ⟨_, rfl⟩ | exact Or.inr ⟨_, rfl⟩) (by decide +kernel)
def c_X9_current (F : Nat) (m : jMe) (x0 : Nat) : Option (Nat × jMe) :=
  jgd (jK m x0 = 41) <| (if (jI m x0 10) = 0 then c_X9_current_j36 F m x0 else jgd (jK m (jP m x0 1) = 6) <| jgd (jin (jI m x0 14) (jZ m (jP m x0 1)) = true) <| jgd (jK m (jP m x0 8) = 34) <| jb (c_X2_tell F m (jP m x0 8) (jP m x0 0) (jP m (jP m x0 1) (jI m x0 14).toNatClampNeg) (jI m x0 15)) fun t8 => jgd (jK t8 x0 = 41) <| c_X9_current_j36 F (jsI t8 x0 10 (0 : Int32)) x0)
theorem ec_X9_current {X : jX} {l : Launch} {d : Nat} (O : jOk X) (hd : 7 ≤ d) {F : Nat} {m : jMe} {x0 : Nat} {r : Nat × jMe} (H : c_X9_current F m x0 = some r) : jH X l d jm_X9_current [.inr (.inr x0)] m (some (.inr (.inr r.1))) r.2 := by
  refine jH.of jpl_RX9 rfl (Nat.le_of_ble_eq_true rfl) ?_
  show jS X l d jm_X9_current m _ _ (0, [(0, .inr (.inr x0))], [], m)
  unfold c_X9_current at H
  obtain ⟨w1, H⟩ := jgd_ok H
  refine jS.adv O [(.aload_n 0, 0, 0, 0, 0, 0, 0), (.getfield 65, 0, 9, 10, 588, 0, 0)] (pc' := 4) (ls' := [(0, .inr (.inr x0))]) (st' := [.inl (jI m x0 10)]) (m2 := m) (by decide +kernel) rfl ⟨w1, trivial⟩ ?_
  refine jS.br (i := .ifCond .eq 32) (P := (jI m x0 10) = 0) (rest := []) rfl (by decide +kernel) (tgt := 36) (by decide) (fun c2 => ?_) (fun c2 => ?_)
  · replace H := jif_t c2 H
    refine jS.loc' [0] (ls' := [(0, .inr (.inr x0))]) rfl ?_
    exact ec_X9_current_j36 O hd H
  · replace H := jif_f c2 H
    obtain ⟨w4, H⟩ := jgd_ok H
    obtain ⟨w5, H⟩ := jgd_ok H
    obtain ⟨w6, H⟩ := jgd_ok H
    refine jS.adv O [(.aload_n 0, 0, 0, 0, 0, 0, 0), (.getfield 58, 0, 9, 8, 586, 0, 0), (.aload_n 0, 0, 0, 0, 0, 0, 0), (.getfield 11, 0, 9, 0, 578, 0, 0), (.aload_n 0, 0, 0, 0, 0, 0, 0), (.getfield 17, 0, 9, 1, 579, 0, 0), (.aload_n 0, 0, 0, 0, 0, 0, 0), (.getfield 79, 0, 9, 14, 592, 0, 0), (.aaload, 0, 6, 0, 0, 0, 0), (.aload_n 0, 0, 0, 0, 0, 0, 0), (.getfield 82, 0, 9, 15, 593, 0, 0)] (pc' := 28) (ls' := [(0, .inr (.inr x0))]) (st' := [.inl (jI m x0 15), .inr (.inr (jP m (jP m x0 1) (jI m x0 14).toNatClampNeg)), .inr (.inr (jP m x0 0)), .inr (.inr (jP m x0 8))]) (m2 := m) (by decide +kernel) rfl ⟨w1, w1, w1, w1, ⟨w4, jib_ok w5⟩, w1, trivial⟩ ?_
    obtain ⟨t8, w7, H⟩ := jb_ok H
    refine jS.step (c' := (31, [(0, .inr (.inr x0))], [], t8)) (jSt.callV (c := 2) (As := [.inr (.inr (jP m x0 0)), .inr (.inr (jP m (jP m x0 1) (jI m x0 14).toNatClampNeg)), .inl (jI m x0 15)]) (rest := []) O (ec_X2_tell (d := 6) O (Nat.le_refl _) w7) w6 (by decide) rfl (by omega) jmw_X2_tell jmv_X2_tell jmn_X2_tell (idx := 274) (jW_of 766 (by decide +kernel) rfl) (Nat.le_of_ble_eq_true rfl) (by decide +kernel)) ?_
    obtain ⟨w9, H⟩ := jgd_ok H
    refine jS.adv O [(.aload_n 0, 0, 0, 0, 0, 0, 0), (.iconst 0, 0, 0, 0, 0, (0 : Int32), 0), (.putfield 65, 0, 9, 10, 588, 0, 0)] (pc' := 36) (ls' := [(0, .inr (.inr x0))]) (st' := []) (m2 := (jsI t8 x0 10 (0 : Int32))) (by decide +kernel) rfl ⟨⟨w9, Or.inl rfl⟩, trivial⟩ ?_
    refine jS.loc' [0] (ls' := [(0, .inr (.inr x0))]) rfl ?_
    exact ec_X9_current_j36 O hd H
def c_X9_isAsked (F : Nat) (m : jMe) (x0 : Nat) (x1 : Int32) : Option (Int32) :=
  jgd (jK m x0 = 41) <| jb (c_X9_isIn F m (jI m x0 15) x1) fun t3 => jgd (t3 = 0 ∨ t3 = 1) <| some t3
theorem ec_X9_isAsked {X : jX} {l : Launch} {d : Nat} (O : jOk X) (hd : 3 ≤ d) {F : Nat} {m : jMe} {x0 : Nat} {x1 : Int32} {r : Int32} (H : c_X9_isAsked F m x0 x1 = some r) : jH X l d jm_X9_isAsked [.inr (.inr x0), .inl x1] m (some (.inl r)) m := by
  refine jH.of jpl_RX9 rfl (Nat.le_of_ble_eq_true rfl) ?_
  show jS X l d jm_X9_isAsked m _ _ (0, [(0, .inr (.inr x0)), (1, .inl x1)], [], m)
  unfold c_X9_isAsked at H
  obtain ⟨w1, H⟩ := jgd_ok H
  refine jS.adv O [(.aload_n 0, 0, 0, 0, 0, 0, 0), (.getfield 82, 0, 9, 15, 593, 0, 0), (.iload_n 1, 0, 0, 0, 0, 0, 0)] (pc' := 5) (ls' := [(0, .inr (.inr x0)), (1, .inl x1)]) (st' := [.inl x1, .inl (jI m x0 15)]) (m2 := m) (by decide +kernel) rfl ⟨w1, trivial⟩ ?_
  obtain ⟨t3, w2, H⟩ := jb_ok H
  refine jS.step (c' := (8, [(0, .inr (.inr x0)), (1, .inl x1)], [.inl t3], m)) (jSt.callS (As := [.inl (jI m x0 15), .inl x1]) (rest := []) O (ec_X9_isIn (d := 2) O (Nat.le_refl _) w2) (by omega) jmw_X9_isIn jmv_X9_isIn jmn_X9_isIn (idx := 140) (jW_of 744 (by decide +kernel) rfl) (Nat.le_of_ble_eq_true rfl) (by decide +kernel)) ?_
  obtain ⟨w4, H⟩ := jgd_ok H
  replace H := Option.some.inj H
  subst H
  exact jS.zret rfl w4 (by decide +kernel)
def c_X9_parentOf (F : Nat) (m : jMe) (x0 : Nat) (x1 : Int32) (x2 : Nat) : Option (Int32) :=
  jgd (jK m x0 = 41) <| jb (c_X9_isAsked F m x0 x1) fun t3 => (if t3 = 0 then some (-7 : Int32) else jgd (jK m x2 = 40) <| jb (c_X9_isIn F m (jI m x2 7) x1) fun t7 => (if t7 = 0 then jgd (jK m (jP m x2 0) = 1) <| jgd (jin x1 (jZ m (jP m x2 0)) = true) <| some (jI m (jP m x2 0) x1.toNatClampNeg) else some (-6 : Int32)))
theorem ec_X9_parentOf {X : jX} {l : Launch} {d : Nat} (O : jOk X) (hd : 4 ≤ d) {F : Nat} {m : jMe} {x0 : Nat} {x1 : Int32} {x2 : Nat} {r : Int32} (H : c_X9_parentOf F m x0 x1 x2 = some r) : jH X l d jm_X9_parentOf [.inr (.inr x0), .inl x1, .inr (.inr x2)] m (some (.inl r)) m := by
  refine jH.of jpl_RX9 rfl (Nat.le_of_ble_eq_true rfl) ?_
  show jS X l d jm_X9_parentOf m _ _ (0, [(0, .inr (.inr x0)), (1, .inl x1), (2, .inr (.inr x2))], [], m)
  unfold c_X9_parentOf at H
  obtain ⟨w1, H⟩ := jgd_ok H
  refine jS.adv O [(.aload_n 0, 0, 0, 0, 0, 0, 0), (.iload_n 1, 0, 0, 0, 0, 0, 0)] (pc' := 2) (ls' := [(0, .inr (.inr x0)), (1, .inl x1), (2, .inr (.inr x2))]) (st' := [.inl x1, .inr (.inr x0)]) (m2 := m) (by decide +kernel) rfl trivial ?_
  obtain ⟨t3, w2, H⟩ := jb_ok H
  refine jS.step (c' := (5, [(0, .inr (.inr x0)), (1, .inl x1), (2, .inr (.inr x2))], [.inl t3], m)) (jSt.callV (c := 9) (As := [.inl x1]) (rest := []) O (ec_X9_isAsked (d := 3) O (Nat.le_refl _) w2) w1 (by decide) rfl (by omega) jmw_X9_isAsked jmv_X9_isAsked jmn_X9_isAsked (idx := 257) (jW_of 841 (by decide +kernel) rfl) (Nat.le_of_ble_eq_true rfl) (by decide +kernel)) ?_
  refine jS.br (i := .ifCond .ne 6) (P := ¬ t3 = 0) (rest := []) rfl (by decide +kernel) (tgt := 11) (by decide) (fun c4 => ?_) (fun c4 => ?_)
  · replace H := jif_f c4 H
    obtain ⟨w5, H⟩ := jgd_ok H
    refine jS.adv O [(.aload_n 2, 0, 0, 0, 0, 0, 0), (.getfield 187, 0, 8, 7, 404, 0, 0), (.iload_n 1, 0, 0, 0, 0, 0, 0)] (pc' := 16) (ls' := [(0, .inr (.inr x0)), (1, .inl x1), (2, .inr (.inr x2))]) (st' := [.inl x1, .inl (jI m x2 7)]) (m2 := m) (by decide +kernel) rfl ⟨w5, trivial⟩ ?_
    obtain ⟨t7, w6, H⟩ := jb_ok H
    refine jS.step (c' := (19, [(0, .inr (.inr x0)), (1, .inl x1), (2, .inr (.inr x2))], [.inl t7], m)) (jSt.callS (As := [.inl (jI m x2 7), .inl x1]) (rest := []) O (ec_X9_isIn (d := 2) O (Nat.le_refl _) w6) (by omega) jmw_X9_isIn jmv_X9_isIn jmn_X9_isIn (idx := 140) (jW_of 744 (by decide +kernel) rfl) (Nat.le_of_ble_eq_true rfl) (by decide +kernel)) ?_
    refine jS.br (i := .ifCond .eq 8) (P := t7 = 0) (rest := []) rfl (by decide +kernel) (tgt := 27) (by decide) (fun c8 => ?_) (fun c8 => ?_)
    · replace H := jif_t c8 H
      obtain ⟨w9, H⟩ := jgd_ok H
      obtain ⟨w10, H⟩ := jgd_ok H
      refine jS.adv O [(.aload_n 2, 0, 0, 0, 0, 0, 0), (.getfield 358, 0, 8, 0, 387, 0, 0), (.iload_n 1, 0, 0, 0, 0, 0, 0), (.iaload, 0, 1, 0, 0, 0, 0)] (pc' := 33) (ls' := [(0, .inr (.inr x0)), (1, .inl x1), (2, .inr (.inr x2))]) (st' := [.inl (jI m (jP m x2 0) x1.toNatClampNeg)]) (m2 := m) (by decide +kernel) rfl ⟨w5, ⟨w9, jib_ok w10⟩, trivial⟩ ?_
      replace H := Option.some.inj H
      subst H
      exact jS.iret rfl (by decide +kernel)
    · replace H := jif_f c8 H
      refine jS.adv O [(.bipush (-6), 0, 0, 0, 0, (-6 : Int32), 0), (.goto 9, 0, 33, 0, 0, 0, 0)] (pc' := 33) (ls' := [(0, .inr (.inr x0)), (1, .inl x1), (2, .inr (.inr x2))]) (st' := [.inl (-6 : Int32)]) (m2 := m) (by decide +kernel) rfl trivial ?_
      replace H := Option.some.inj H
      subst H
      exact jS.iret rfl (by decide +kernel)
  · replace H := jif_t (Classical.not_not.mp c4) H
    refine jS.adv O [(.bipush (-7), 0, 0, 0, 0, (-7 : Int32), 0)] (pc' := 10) (ls' := [(0, .inr (.inr x0)), (1, .inl x1), (2, .inr (.inr x2))]) (st' := [.inl (-7 : Int32)]) (m2 := m) (by decide +kernel) rfl trivial ?_
    replace H := Option.some.inj H
    subst H
    exact jS.iret rfl (by decide +kernel)
def c_X9_about (F : Nat) (m : jMe) (x0 : Nat) (x1 : Int32) (x2 : Int32) : Option (Int32 × jMe) :=
  jgd (jK m x0 = 41) <| jb (c_X9_isRelation F m x0 x1) fun t3 => (if t3 = 0 then some ((-2 : Int32), m) else (if x2 < 0 then some ((-2 : Int32), m) else (if x2 ≤ (6 : Int32) then jgd (jK m (jP m x0 0) = 5) <| jgd (jin x1 (jZ m (jP m x0 0)) = true) <| (if x2 = (0 : Int32) then jgd (jK m (jP m (jP m x0 0) x1.toNatClampNeg) = 36) <| some ((jI m (jP m (jP m x0 0) x1.toNatClampNeg) 2), m) else if x2 = (1 : Int32) then jgd (jK m (jP m (jP m x0 0) x1.toNatClampNeg) = 36) <| some ((jI m (jP m (jP m x0 0) x1.toNatClampNeg) 3), m) else if x2 = (2 : Int32) then jgd (jK m (jP m (jP m x0 0) x1.toNatClampNeg) = 36) <| some ((jI m (jP m (jP m x0 0) x1.toNatClampNeg) 5), m) else if x2 = (3 : Int32) then jgd (jK m (jP m (jP m x0 0) x1.toNatClampNeg) = 36) <| some ((jI m (jP m (jP m x0 0) x1.toNatClampNeg) 6), m) else if x2 = (4 : Int32) then jb (c_X9_current F m x0) fun t19 => jgd (jK t19.2 t19.1 = 34) <| jgd (jK t19.2 x0 = 41) <| jb (c_X9_parentOf F t19.2 x0 x1 (jP t19.2 t19.1 0)) fun t23 => some (t23, t19.2) else if x2 = (5 : Int32) then jb (c_X9_current F m x0) fun t26 => jgd (jK t26.2 t26.1 = 34) <| jgd (jK t26.2 (jP t26.2 t26.1 0) = 40) <| jgd (jK t26.2 (jP t26.2 (jP t26.2 t26.1 0) 1) = 1) <| jgd (jin x1 (jZ t26.2 (jP t26.2 (jP t26.2 t26.1 0) 1)) = true) <| some ((jI t26.2 (jP t26.2 (jP t26.2 t26.1 0) 1) x1.toNatClampNeg), t26.2) else jgd (jK m (jP m x0 1) = 6) <| jgd (jin (jI m x0 14) (jZ m (jP m x0 1)) = true) <| jgd (jK m (jP m (jP m x0 0) x1.toNatClampNeg) = 36) <| jb (c_X4_passing F m (jP m (jP m x0 0) x1.toNatClampNeg) (jP m (jP m x0 1) (jI m x0 14).toNatClampNeg) x1) fun t35 => some (t35.1, t35.2)) else some ((-2 : Int32), m))))
theorem ec_X9_about {X : jX} {l : Launch} {d : Nat} (O : jOk X) (hd : 8 ≤ d) {F : Nat} {m : jMe} {x0 : Nat} {x1 : Int32} {x2 : Int32} {r : Int32 × jMe} (H : c_X9_about F m x0 x1 x2 = some r) : jH X l d jm_X9_about [.inr (.inr x0), .inl x1, .inl x2] m (some (.inl r.1)) r.2 := by
  refine jH.of jpl_RX9 rfl (Nat.le_of_ble_eq_true rfl) ?_
  show jS X l d jm_X9_about m _ _ (0, [(0, .inr (.inr x0)), (1, .inl x1), (2, .inl x2)], [], m)
  unfold c_X9_about at H
  obtain ⟨w1, H⟩ := jgd_ok H
  refine jS.adv O [(.aload_n 0, 0, 0, 0, 0, 0, 0), (.iload_n 1, 0, 0, 0, 0, 0, 0)] (pc' := 2) (ls' := [(0, .inr (.inr x0)), (1, .inl x1), (2, .inl x2)]) (st' := [.inl x1, .inr (.inr x0)]) (m2 := m) (by decide +kernel) rfl trivial ?_
  obtain ⟨t3, w2, H⟩ := jb_ok H
  refine jS.step (c' := (5, [(0, .inr (.inr x0)), (1, .inl x1), (2, .inl x2)], [.inl t3], m)) (jSt.callV (c := 9) (As := [.inl x1]) (rest := []) O (ec_X9_isRelation (d := 2) O (Nat.le_refl _) w2) w1 (by decide) rfl (by omega) jmw_X9_isRelation jmv_X9_isRelation jmn_X9_isRelation (idx := 100) (jW_of 648 (by decide +kernel) rfl) (Nat.le_of_ble_eq_true rfl) (by decide +kernel)) ?_
  refine jS.br (i := .ifCond .eq 13) (P := t3 = 0) (rest := []) rfl (by decide +kernel) (tgt := 18) (by decide) (fun c4 => ?_) (fun c4 => ?_)
  · replace H := jif_t c4 H
    refine jS.adv O [(.bipush (-2), 0, 0, 0, 0, (-2 : Int32), 0)] (pc' := 20) (ls' := [(0, .inr (.inr x0)), (1, .inl x1), (2, .inl x2)]) (st' := [.inl (-2 : Int32)]) (m2 := m) (by decide +kernel) rfl trivial ?_
    replace H := Option.some.inj H
    subst H
    exact jS.iret rfl (by decide +kernel)
  · replace H := jif_f c4 H
    refine jS.adv O [(.iload_n 2, 0, 0, 0, 0, 0, 0)] (pc' := 9) (ls' := [(0, .inr (.inr x0)), (1, .inl x1), (2, .inl x2)]) (st' := [.inl x2]) (m2 := m) (by decide +kernel) rfl trivial ?_
    refine jS.br (i := .ifCond .lt 9) (P := x2 < 0) (rest := []) rfl (by decide +kernel) (tgt := 18) (by decide) (fun c5 => ?_) (fun c5 => ?_)
    · replace H := jif_t c5 H
      refine jS.adv O [(.bipush (-2), 0, 0, 0, 0, (-2 : Int32), 0)] (pc' := 20) (ls' := [(0, .inr (.inr x0)), (1, .inl x1), (2, .inl x2)]) (st' := [.inl (-2 : Int32)]) (m2 := m) (by decide +kernel) rfl trivial ?_
      replace H := Option.some.inj H
      subst H
      exact jS.iret rfl (by decide +kernel)
    · replace H := jif_f c5 H
      refine jS.adv O [(.iload_n 2, 0, 0, 0, 0, 0, 0), (.bipush 6, 0, 0, 0, 0, (6 : Int32), 0)] (pc' := 15) (ls' := [(0, .inr (.inr x0)), (1, .inl x1), (2, .inl x2)]) (st' := [.inl (6 : Int32), .inl x2]) (m2 := m) (by decide +kernel) rfl trivial ?_
      refine jS.br (i := .if_icmp .le 6) (P := x2 ≤ (6 : Int32)) (rest := []) rfl (by decide +kernel) (tgt := 21) (by decide) (fun c6 => ?_) (fun c6 => ?_)
      · replace H := jif_t c6 H
        obtain ⟨w7, H⟩ := jgd_ok H
        obtain ⟨w8, H⟩ := jgd_ok H
        refine jS.adv O [(.aload_n 0, 0, 0, 0, 0, 0, 0), (.getfield 11, 0, 9, 0, 578, 0, 0), (.iload_n 1, 0, 0, 0, 0, 0, 0), (.aaload, 0, 5, 0, 0, 0, 0), (.astore_n 3, 0, 0, 0, 0, 0, 0), (.iload_n 2, 0, 0, 0, 0, 0, 0)] (pc' := 29) (ls' := [(3, .inr (.inr (jP m (jP m x0 0) x1.toNatClampNeg))), (0, .inr (.inr x0)), (1, .inl x1), (2, .inl x2)]) (st' := [.inl x2]) (m2 := m) (by decide +kernel) rfl ⟨w1, ⟨w7, jib_ok w8⟩, trivial⟩ ?_
        by_cases c9 : x2 = (0 : Int32)
        · replace H := jif_t c9 H
          refine jS.tswIn (dflt := 85) (lo := 0) (hi := 5) (offs := #[39, 44, 49, 54, 59, 72]) (off := 39) c9 (len := 39) (tgt := 68) (by decide +kernel) (by decide) (by decide) rfl (by decide) ?_
          obtain ⟨w10, H⟩ := jgd_ok H
          refine jS.adv O [(.aload_n 3, 0, 0, 0, 0, 0, 0), (.getfield 156, 0, 4, 2, 500, 0, 0)] (pc' := 72) (ls' := [(3, .inr (.inr (jP m (jP m x0 0) x1.toNatClampNeg))), (0, .inr (.inr x0)), (1, .inl x1), (2, .inl x2)]) (st' := [.inl (jI m (jP m (jP m x0 0) x1.toNatClampNeg) 2)]) (m2 := m) (by decide +kernel) rfl ⟨w10, trivial⟩ ?_
          replace H := Option.some.inj H
          subst H
          exact jS.iret rfl (by decide +kernel)
        replace H := jif_f c9 H
        by_cases c11 : x2 = (1 : Int32)
        · replace H := jif_t c11 H
          refine jS.tswIn (dflt := 85) (lo := 0) (hi := 5) (offs := #[39, 44, 49, 54, 59, 72]) (off := 44) c11 (len := 39) (tgt := 73) (by decide +kernel) (by decide) (by decide) rfl (by decide) ?_
          obtain ⟨w12, H⟩ := jgd_ok H
          refine jS.adv O [(.aload_n 3, 0, 0, 0, 0, 0, 0), (.getfield 159, 0, 4, 3, 503, 0, 0)] (pc' := 77) (ls' := [(3, .inr (.inr (jP m (jP m x0 0) x1.toNatClampNeg))), (0, .inr (.inr x0)), (1, .inl x1), (2, .inl x2)]) (st' := [.inl (jI m (jP m (jP m x0 0) x1.toNatClampNeg) 3)]) (m2 := m) (by decide +kernel) rfl ⟨w12, trivial⟩ ?_
          replace H := Option.some.inj H
          subst H
          exact jS.iret rfl (by decide +kernel)
        replace H := jif_f c11 H
        by_cases c13 : x2 = (2 : Int32)
        · replace H := jif_t c13 H
          refine jS.tswIn (dflt := 85) (lo := 0) (hi := 5) (offs := #[39, 44, 49, 54, 59, 72]) (off := 49) c13 (len := 39) (tgt := 78) (by decide +kernel) (by decide) (by decide) rfl (by decide) ?_
          obtain ⟨w14, H⟩ := jgd_ok H
          refine jS.adv O [(.aload_n 3, 0, 0, 0, 0, 0, 0), (.getfield 162, 0, 4, 5, 510, 0, 0)] (pc' := 82) (ls' := [(3, .inr (.inr (jP m (jP m x0 0) x1.toNatClampNeg))), (0, .inr (.inr x0)), (1, .inl x1), (2, .inl x2)]) (st' := [.inl (jI m (jP m (jP m x0 0) x1.toNatClampNeg) 5)]) (m2 := m) (by decide +kernel) rfl ⟨w14, trivial⟩ ?_
          replace H := Option.some.inj H
          subst H
          exact jS.iret rfl (by decide +kernel)
        replace H := jif_f c13 H
        by_cases c15 : x2 = (3 : Int32)
        · replace H := jif_t c15 H
          refine jS.tswIn (dflt := 85) (lo := 0) (hi := 5) (offs := #[39, 44, 49, 54, 59, 72]) (off := 54) c15 (len := 39) (tgt := 83) (by decide +kernel) (by decide) (by decide) rfl (by decide) ?_
          obtain ⟨w16, H⟩ := jgd_ok H
          refine jS.adv O [(.aload_n 3, 0, 0, 0, 0, 0, 0), (.getfield 123, 0, 4, 6, 513, 0, 0)] (pc' := 87) (ls' := [(3, .inr (.inr (jP m (jP m x0 0) x1.toNatClampNeg))), (0, .inr (.inr x0)), (1, .inl x1), (2, .inl x2)]) (st' := [.inl (jI m (jP m (jP m x0 0) x1.toNatClampNeg) 6)]) (m2 := m) (by decide +kernel) rfl ⟨w16, trivial⟩ ?_
          replace H := Option.some.inj H
          subst H
          exact jS.iret rfl (by decide +kernel)
        replace H := jif_f c15 H
        by_cases c17 : x2 = (4 : Int32)
        · replace H := jif_t c17 H
          refine jS.tswIn (dflt := 85) (lo := 0) (hi := 5) (offs := #[39, 44, 49, 54, 59, 72]) (off := 59) c17 (len := 39) (tgt := 88) (by decide +kernel) (by decide) (by decide) rfl (by decide) ?_
          refine jS.adv O [(.aload_n 0, 0, 0, 0, 0, 0, 0), (.iload_n 1, 0, 0, 0, 0, 0, 0), (.aload_n 0, 0, 0, 0, 0, 0, 0)] (pc' := 91) (ls' := [(3, .inr (.inr (jP m (jP m x0 0) x1.toNatClampNeg))), (0, .inr (.inr x0)), (1, .inl x1), (2, .inl x2)]) (st' := [.inr (.inr x0), .inl x1, .inr (.inr x0)]) (m2 := m) (by decide +kernel) rfl trivial ?_
          obtain ⟨t19, w18, H⟩ := jb_ok H
          refine jS.step (c' := (94, [(3, .inr (.inr (jP m (jP m x0 0) x1.toNatClampNeg))), (0, .inr (.inr x0)), (1, .inl x1), (2, .inl x2)], [.inr (.inr t19.1), .inl x1, .inr (.inr x0)], t19.2)) (jSt.callV (c := 9) (As := []) (rest := [.inl x1, .inr (.inr x0)]) O (ec_X9_current (d := 7) O (Nat.le_refl _) w18) w1 (by decide) rfl (by omega) jmw_X9_current jmv_X9_current jmn_X9_current (idx := 165) (jW_of 762 (by decide +kernel) rfl) (Nat.le_of_ble_eq_true rfl) (by decide +kernel)) ?_
          obtain ⟨w20, H⟩ := jgd_ok H
          obtain ⟨w21, H⟩ := jgd_ok H
          refine jS.adv O [(.getfield 169, 0, 2, 0, 425, 0, 0)] (pc' := 97) (ls' := [(3, .inr (.inr (jP m (jP m x0 0) x1.toNatClampNeg))), (0, .inr (.inr x0)), (1, .inl x1), (2, .inl x2)]) (st' := [.inr (.inr (jP t19.2 t19.1 0)), .inl x1, .inr (.inr x0)]) (m2 := t19.2) (by decide +kernel) rfl ⟨w20, trivial⟩ ?_
          obtain ⟨t23, w22, H⟩ := jb_ok H
          refine jS.step (c' := (100, [(3, .inr (.inr (jP m (jP m x0 0) x1.toNatClampNeg))), (0, .inr (.inr x0)), (1, .inl x1), (2, .inl x2)], [.inl t23], t19.2)) (jSt.callV (c := 9) (As := [.inl x1, .inr (.inr (jP t19.2 t19.1 0))]) (rest := []) O (ec_X9_parentOf (d := 4) O (Nat.le_refl _) w22) w21 (by decide) rfl (by omega) jmw_X9_parentOf jmv_X9_parentOf jmn_X9_parentOf (idx := 173) (jW_of 837 (by decide +kernel) rfl) (Nat.le_of_ble_eq_true rfl) (by decide +kernel)) ?_
          replace H := Option.some.inj H
          subst H
          exact jS.iret rfl (by decide +kernel)
        replace H := jif_f c17 H
        by_cases c24 : x2 = (5 : Int32)
        · replace H := jif_t c24 H
          refine jS.tswIn (dflt := 85) (lo := 0) (hi := 5) (offs := #[39, 44, 49, 54, 59, 72]) (off := 72) c24 (len := 39) (tgt := 101) (by decide +kernel) (by decide) (by decide) rfl (by decide) ?_
          refine jS.adv O [(.aload_n 0, 0, 0, 0, 0, 0, 0)] (pc' := 102) (ls' := [(3, .inr (.inr (jP m (jP m x0 0) x1.toNatClampNeg))), (0, .inr (.inr x0)), (1, .inl x1), (2, .inl x2)]) (st' := [.inr (.inr x0)]) (m2 := m) (by decide +kernel) rfl trivial ?_
          obtain ⟨t26, w25, H⟩ := jb_ok H
          refine jS.step (c' := (105, [(3, .inr (.inr (jP m (jP m x0 0) x1.toNatClampNeg))), (0, .inr (.inr x0)), (1, .inl x1), (2, .inl x2)], [.inr (.inr t26.1)], t26.2)) (jSt.callV (c := 9) (As := []) (rest := []) O (ec_X9_current (d := 7) O (Nat.le_refl _) w25) w1 (by decide) rfl (by omega) jmw_X9_current jmv_X9_current jmn_X9_current (idx := 165) (jW_of 762 (by decide +kernel) rfl) (Nat.le_of_ble_eq_true rfl) (by decide +kernel)) ?_
          obtain ⟨w27, H⟩ := jgd_ok H
          obtain ⟨w28, H⟩ := jgd_ok H
          obtain ⟨w29, H⟩ := jgd_ok H
          obtain ⟨w30, H⟩ := jgd_ok H
          refine jS.adv O [(.getfield 169, 0, 2, 0, 425, 0, 0), (.getfield 177, 0, 8, 1, 390, 0, 0), (.iload_n 1, 0, 0, 0, 0, 0, 0), (.iaload, 0, 1, 0, 0, 0, 0)] (pc' := 113) (ls' := [(3, .inr (.inr (jP m (jP m x0 0) x1.toNatClampNeg))), (0, .inr (.inr x0)), (1, .inl x1), (2, .inl x2)]) (st' := [.inl (jI t26.2 (jP t26.2 (jP t26.2 t26.1 0) 1) x1.toNatClampNeg)]) (m2 := t26.2) (by decide +kernel) rfl ⟨w27, w28, ⟨w29, jib_ok w30⟩, trivial⟩ ?_
          replace H := Option.some.inj H
          subst H
          exact jS.iret rfl (by decide +kernel)
        replace H := jif_f c24 H
        refine jS.tswOut (dflt := 85) (lo := 0) (hi := 5) (offs := #[39, 44, 49, 54, 59, 72]) (by have q := jsw_out (x := x2) (vs := [(0 : Int32), (1 : Int32), (2 : Int32), (3 : Int32), (4 : Int32), (5 : Int32)]) (lo := 0) (n := 6) (by decide) (List.forall_mem_cons.mpr ⟨c9, List.forall_mem_cons.mpr ⟨c11, List.forall_mem_cons.mpr ⟨c13, List.forall_mem_cons.mpr ⟨c15, List.forall_mem_cons.mpr ⟨c17, List.forall_mem_cons.mpr ⟨c24, List.forall_mem_nil _⟩⟩⟩⟩⟩⟩); first | exact q | omega) (len := 39) (tgt := 114) (by decide +kernel) (by decide) ?_
        obtain ⟨w31, H⟩ := jgd_ok H
        obtain ⟨w32, H⟩ := jgd_ok H
        obtain ⟨w33, H⟩ := jgd_ok H
        refine jS.adv O [(.aload_n 3, 0, 0, 0, 0, 0, 0), (.aload_n 0, 0, 0, 0, 0, 0, 0), (.getfield 17, 0, 9, 1, 579, 0, 0), (.aload_n 0, 0, 0, 0, 0, 0, 0), (.getfield 79, 0, 9, 14, 592, 0, 0), (.aaload, 0, 6, 0, 0, 0, 0), (.iload_n 1, 0, 0, 0, 0, 0, 0)] (pc' := 125) (ls' := [(3, .inr (.inr (jP m (jP m x0 0) x1.toNatClampNeg))), (0, .inr (.inr x0)), (1, .inl x1), (2, .inl x2)]) (st' := [.inl x1, .inr (.inr (jP m (jP m x0 1) (jI m x0 14).toNatClampNeg)), .inr (.inr (jP m (jP m x0 0) x1.toNatClampNeg))]) (m2 := m) (by decide +kernel) rfl ⟨w1, w1, ⟨w31, jib_ok w32⟩, trivial⟩ ?_
        obtain ⟨t35, w34, H⟩ := jb_ok H
        refine jS.step (c' := (128, [(3, .inr (.inr (jP m (jP m x0 0) x1.toNatClampNeg))), (0, .inr (.inr x0)), (1, .inl x1), (2, .inl x2)], [.inl t35.1], t35.2)) (jSt.callV (c := 4) (As := [.inr (.inr (jP m (jP m x0 1) (jI m x0 14).toNatClampNeg)), .inl x1]) (rest := []) O (ec_X4_passing (d := 5) O (Nat.le_refl _) w34) w33 (by decide) rfl (by omega) jmw_X4_passing jmv_X4_passing jmn_X4_passing (idx := 136) (jW_of 726 (by decide +kernel) rfl) (Nat.le_of_ble_eq_true rfl) (by decide +kernel)) ?_
        replace H := Option.some.inj H
        subst H
        exact jS.iret rfl (by decide +kernel)
      · replace H := jif_f c6 H
        refine jS.adv O [(.bipush (-2), 0, 0, 0, 0, (-2 : Int32), 0)] (pc' := 20) (ls' := [(0, .inr (.inr x0)), (1, .inl x1), (2, .inl x2)]) (st' := [.inl (-2 : Int32)]) (m2 := m) (by decide +kernel) rfl trivial ?_
        replace H := Option.some.inj H
        subst H
        exact jS.iret rfl (by decide +kernel)
def c_X9_isQuery (F : Nat) (m : jMe) (x0 : Nat) (x1 : Int32) : Option (Int32) :=
  (if x1 < 0 then some (0 : Int32) else jgd (jK m x0 = 41) <| (if (jshl (1 : Int32) (jI m x0 11)) ≤ x1 then some (0 : Int32) else some (1 : Int32)))
theorem ec_X9_isQuery {X : jX} {l : Launch} {d : Nat} (O : jOk X) (hd : 2 ≤ d) {F : Nat} {m : jMe} {x0 : Nat} {x1 : Int32} {r : Int32} (H : c_X9_isQuery F m x0 x1 = some r) : jH X l d jm_X9_isQuery [.inr (.inr x0), .inl x1] m (some (.inl r)) m := by
  refine jH.of jpl_RX9 rfl (Nat.le_of_ble_eq_true rfl) ?_
  show jS X l d jm_X9_isQuery m _ _ (0, [(0, .inr (.inr x0)), (1, .inl x1)], [], m)
  unfold c_X9_isQuery at H
  refine jS.adv O [(.iload_n 1, 0, 0, 0, 0, 0, 0)] (pc' := 1) (ls' := [(0, .inr (.inr x0)), (1, .inl x1)]) (st' := [.inl x1]) (m2 := m) (by decide +kernel) rfl trivial ?_
  refine jS.br (i := .ifCond .lt 17) (P := x1 < 0) (rest := []) rfl (by decide +kernel) (tgt := 18) (by decide) (fun c1 => ?_) (fun c1 => ?_)
  · replace H := jif_t c1 H
    refine jS.adv O [(.iconst 0, 0, 0, 0, 0, (0 : Int32), 0)] (pc' := 19) (ls' := [(0, .inr (.inr x0)), (1, .inl x1)]) (st' := [.inl (0 : Int32)]) (m2 := m) (by decide +kernel) rfl trivial ?_
    replace H := Option.some.inj H
    subst H
    exact jS.zret rfl (Or.inl rfl) (by decide +kernel)
  · replace H := jif_f c1 H
    obtain ⟨w2, H⟩ := jgd_ok H
    refine jS.adv O [(.iload_n 1, 0, 0, 0, 0, 0, 0), (.iconst 1, 0, 0, 0, 0, (1 : Int32), 0), (.aload_n 0, 0, 0, 0, 0, 0, 0), (.getfield 69, 0, 9, 11, 589, 0, 0), (.ishl, 0, 0, 0, 0, 0, 0)] (pc' := 11) (ls' := [(0, .inr (.inr x0)), (1, .inl x1)]) (st' := [.inl (jshl (1 : Int32) (jI m x0 11)), .inl x1]) (m2 := m) (by decide +kernel) rfl ⟨w2, trivial⟩ ?_
    refine jS.br (i := .if_icmp .ge 7) (P := (jshl (1 : Int32) (jI m x0 11)) ≤ x1) (rest := []) rfl (by decide +kernel) (tgt := 18) (by decide) (fun c3 => ?_) (fun c3 => ?_)
    · replace H := jif_t c3 H
      refine jS.adv O [(.iconst 0, 0, 0, 0, 0, (0 : Int32), 0)] (pc' := 19) (ls' := [(0, .inr (.inr x0)), (1, .inl x1)]) (st' := [.inl (0 : Int32)]) (m2 := m) (by decide +kernel) rfl trivial ?_
      replace H := Option.some.inj H
      subst H
      exact jS.zret rfl (Or.inl rfl) (by decide +kernel)
    · replace H := jif_f c3 H
      refine jS.adv O [(.iconst 1, 0, 0, 0, 0, (1 : Int32), 0), (.goto 4, 0, 19, 0, 0, 0, 0)] (pc' := 19) (ls' := [(0, .inr (.inr x0)), (1, .inl x1)]) (st' := [.inl (1 : Int32)]) (m2 := m) (by decide +kernel) rfl trivial ?_
      replace H := Option.some.inj H
      subst H
      exact jS.zret rfl (Or.inr rfl) (by decide +kernel)
def c_X9_query (F : Nat) (m : jMe) (x0 : Nat) (x1 : Int32) : Option (Int32 × jMe) :=
  jgd (jK m x0 = 41) <| jb (c_X9_isQuery F m x0 x1) fun t3 => (if t3 = 0 then some ((-2 : Int32), m) else jb (c_J6_bitCount_0f7a4 F (jsI (jsI m x0 15 x1) x0 10 (1 : Int32)) (jI (jsI (jsI m x0 15 x1) x0 10 (1 : Int32)) x0 15)) fun t6 => some (t6, (jsI (jsI m x0 15 x1) x0 10 (1 : Int32))))
theorem ec_X9_query {X : jX} {l : Launch} {d : Nat} (O : jOk X) (hd : 3 ≤ d) {F : Nat} {m : jMe} {x0 : Nat} {x1 : Int32} {r : Int32 × jMe} (H : c_X9_query F m x0 x1 = some r) : jH X l d jm_X9_query [.inr (.inr x0), .inl x1] m (some (.inl r.1)) r.2 := by
  refine jH.of jpl_RX9 rfl (Nat.le_of_ble_eq_true rfl) ?_
  show jS X l d jm_X9_query m _ _ (0, [(0, .inr (.inr x0)), (1, .inl x1)], [], m)
  unfold c_X9_query at H
  obtain ⟨w1, H⟩ := jgd_ok H
  refine jS.adv O [(.aload_n 0, 0, 0, 0, 0, 0, 0), (.iload_n 1, 0, 0, 0, 0, 0, 0)] (pc' := 2) (ls' := [(0, .inr (.inr x0)), (1, .inl x1)]) (st' := [.inl x1, .inr (.inr x0)]) (m2 := m) (by decide +kernel) rfl trivial ?_
  obtain ⟨t3, w2, H⟩ := jb_ok H
  refine jS.step (c' := (5, [(0, .inr (.inr x0)), (1, .inl x1)], [.inl t3], m)) (jSt.callV (c := 9) (As := [.inl x1]) (rest := []) O (ec_X9_isQuery (d := 2) O (Nat.le_refl _) w2) w1 (by decide) rfl (by omega) jmw_X9_isQuery jmv_X9_isQuery jmn_X9_isQuery (idx := 182) (jW_of 849 (by decide +kernel) rfl) (Nat.le_of_ble_eq_true rfl) (by decide +kernel)) ?_
  refine jS.br (i := .ifCond .ne 6) (P := ¬ t3 = 0) (rest := []) rfl (by decide +kernel) (tgt := 11) (by decide) (fun c4 => ?_) (fun c4 => ?_)
  · replace H := jif_f c4 H
    refine jS.adv O [(.aload_n 0, 0, 0, 0, 0, 0, 0), (.iload_n 1, 0, 0, 0, 0, 0, 0), (.putfield 82, 0, 9, 15, 593, 0, 0), (.aload_n 0, 0, 0, 0, 0, 0, 0), (.iconst 1, 0, 0, 0, 0, (1 : Int32), 0), (.putfield 65, 0, 9, 10, 588, 0, 0), (.aload_n 0, 0, 0, 0, 0, 0, 0), (.getfield 82, 0, 9, 15, 593, 0, 0)] (pc' := 25) (ls' := [(0, .inr (.inr x0)), (1, .inl x1)]) (st' := [.inl (jI (jsI (jsI m x0 15 x1) x0 10 (1 : Int32)) x0 15)]) (m2 := (jsI (jsI m x0 15 x1) x0 10 (1 : Int32))) (by decide +kernel) rfl ⟨w1, ⟨w1, Or.inr rfl⟩, w1, trivial⟩ ?_
    obtain ⟨t6, w5, H⟩ := jb_ok H
    refine jS.step (c' := (28, [(0, .inr (.inr x0)), (1, .inl x1)], [.inl t6], (jsI (jsI m x0 15 x1) x0 10 (1 : Int32)))) (jSt.callS (As := [.inl (jI (jsI (jsI m x0 15 x1) x0 10 (1 : Int32)) x0 15)]) (rest := []) O (ec_J6_bitCount_0f7a4 (d := 2) O (Nat.le_refl _) w5) (by omega) jmw_J6_bitCount_0f7a4 jmv_J6_bitCount_0f7a4 jmn_J6_bitCount_0f7a4 (idx := 90) (jW_of 631 (by decide +kernel) rfl) (Nat.le_of_ble_eq_true rfl) (by decide +kernel)) ?_
    replace H := Option.some.inj H
    subst H
    exact jS.iret rfl (by decide +kernel)
  · replace H := jif_t (Classical.not_not.mp c4) H
    refine jS.adv O [(.bipush (-2), 0, 0, 0, 0, (-2 : Int32), 0)] (pc' := 10) (ls' := [(0, .inr (.inr x0)), (1, .inl x1)]) (st' := [.inl (-2 : Int32)]) (m2 := m) (by decide +kernel) rfl trivial ?_
    replace H := Option.some.inj H
    subst H
    exact jS.iret rfl (by decide +kernel)
def c_X9_askedAttributes_l4_b (F : Nat) (B : Nat → Int32 → Int32 → Option (Int32)) (m : jMe) (y0 : Nat) (y1 : Int32) (y2 : Int32) : Option (Int32) :=
  jgd (jK m y0 = 41) <| (if (jI m y0 11) ≤ y2 then some (y1) else jb (c_X9_isAsked F m y0 y2) fun t4 => (if t4 = 0 then B y0 (y1 ||| (0 : Int32)) (y2 + (1 : Int32)) else jgd (jK m (jP m y0 0) = 5) <| jgd (jin y2 (jZ m (jP m y0 0)) = true) <| jgd (jK m (jP m (jP m y0 0) y2.toNatClampNeg) = 36) <| B y0 (y1 ||| (jI m (jP m (jP m y0 0) y2.toNatClampNeg) 3)) (y2 + (1 : Int32))))
theorem ec_X9_askedAttributes_l4_b {X : jX} {l : Launch} {d : Nat} (O : jOk X) (hd : 4 ≤ d) {F : Nat} {m0 m' : jMe} {v : Option jAV} {m : jMe} {B : Nat → Int32 → Int32 → Option (Int32)} (hB : ∀ (y0 : Nat) (y1 : Int32) (y2 : Int32) (r : Int32), B y0 y1 y2 = some r → (jS X l d jm_X9_askedAttributes m0 v m' (42, [(1, .inl r)], [], m)) → jS X l d jm_X9_askedAttributes m0 v m' (4, [(0, .inr (.inr y0)), (1, .inl y1), (2, .inl y2)], [], m)) {y0 : Nat} {y1 : Int32} {y2 : Int32} {r : Int32} (H : c_X9_askedAttributes_l4_b F B m y0 y1 y2 = some r) (h2 : jS X l d jm_X9_askedAttributes m0 v m' (42, [(1, .inl r)], [], m)) : jS X l d jm_X9_askedAttributes m0 v m' (4, [(0, .inr (.inr y0)), (1, .inl y1), (2, .inl y2)], [], m) := by
  unfold c_X9_askedAttributes_l4_b at H
  obtain ⟨w1, H⟩ := jgd_ok H
  refine jS.adv O [(.iload_n 2, 0, 0, 0, 0, 0, 0), (.aload_n 0, 0, 0, 0, 0, 0, 0), (.getfield 69, 0, 9, 11, 589, 0, 0)] (pc' := 9) (ls' := [(0, .inr (.inr y0)), (1, .inl y1), (2, .inl y2)]) (st' := [.inl (jI m y0 11), .inl y2]) (m2 := m) (by decide +kernel) rfl ⟨w1, trivial⟩ ?_
  refine jS.br (i := .if_icmp .ge 33) (P := (jI m y0 11) ≤ y2) (rest := []) rfl (by decide +kernel) (tgt := 42) (by decide) (fun c2 => ?_) (fun c2 => ?_)
  · replace H := jif_t c2 H
    replace H := Option.some.inj H
    subst H
    refine jS.loc' [1] (ls' := [(1, .inl y1)]) rfl ?_
    exact h2
  · replace H := jif_f c2 H
    refine jS.adv O [(.iload_n 1, 0, 0, 0, 0, 0, 0), (.aload_n 0, 0, 0, 0, 0, 0, 0), (.iload_n 2, 0, 0, 0, 0, 0, 0)] (pc' := 15) (ls' := [(0, .inr (.inr y0)), (1, .inl y1), (2, .inl y2)]) (st' := [.inl y2, .inr (.inr y0), .inl y1]) (m2 := m) (by decide +kernel) rfl trivial ?_
    obtain ⟨t4, w3, H⟩ := jb_ok H
    refine jS.step (c' := (18, [(0, .inr (.inr y0)), (1, .inl y1), (2, .inl y2)], [.inl t4, .inl y1], m)) (jSt.callV (c := 9) (As := [.inl y2]) (rest := [.inl y1]) O (ec_X9_isAsked (d := 3) O (Nat.le_refl _) w3) w1 (by decide) rfl (by omega) jmw_X9_isAsked jmv_X9_isAsked jmn_X9_isAsked (idx := 257) (jW_of 841 (by decide +kernel) rfl) (Nat.le_of_ble_eq_true rfl) (by decide +kernel)) ?_
    refine jS.br (i := .ifCond .eq 15) (P := t4 = 0) (rest := [.inl y1]) rfl (by decide +kernel) (tgt := 33) (by decide) (fun c5 => ?_) (fun c5 => ?_)
    · replace H := jif_t c5 H
      refine jS.adv O [(.iconst 0, 0, 0, 0, 0, (0 : Int32), 0), (.ior, 0, 0, 0, 0, 0, 0), (.istore_n 1, 0, 0, 0, 0, 0, 0), (.iinc 2 1, 0, 0, 0, 0, (1 : Int32), 0), (.goto (-35), 0, 4, 0, 0, 0, 0)] (pc' := 4) (ls' := [(2, .inl (y2 + (1 : Int32))), (1, .inl (y1 ||| (0 : Int32))), (0, .inr (.inr y0))]) (st' := []) (m2 := m) (by decide +kernel) rfl trivial ?_
      refine jS.loc' [2, 1, 0] (ls' := [(0, .inr (.inr y0)), (1, .inl (y1 ||| (0 : Int32))), (2, .inl (y2 + (1 : Int32)))]) rfl ?_
      exact hB _ _ _ _ H h2
    · replace H := jif_f c5 H
      obtain ⟨w6, H⟩ := jgd_ok H
      obtain ⟨w7, H⟩ := jgd_ok H
      obtain ⟨w8, H⟩ := jgd_ok H
      refine jS.adv O [(.aload_n 0, 0, 0, 0, 0, 0, 0), (.getfield 11, 0, 9, 0, 578, 0, 0), (.iload_n 2, 0, 0, 0, 0, 0, 0), (.aaload, 0, 5, 0, 0, 0, 0), (.getfield 159, 0, 4, 3, 503, 0, 0), (.goto 4, 0, 34, 0, 0, 0, 0), (.ior, 0, 0, 0, 0, 0, 0), (.istore_n 1, 0, 0, 0, 0, 0, 0), (.iinc 2 1, 0, 0, 0, 0, (1 : Int32), 0), (.goto (-35), 0, 4, 0, 0, 0, 0)] (pc' := 4) (ls' := [(2, .inl (y2 + (1 : Int32))), (1, .inl (y1 ||| (jI m (jP m (jP m y0 0) y2.toNatClampNeg) 3))), (0, .inr (.inr y0))]) (st' := []) (m2 := m) (by decide +kernel) rfl ⟨w1, ⟨w6, jib_ok w7⟩, w8, trivial⟩ ?_
      refine jS.loc' [2, 1, 0] (ls' := [(0, .inr (.inr y0)), (1, .inl (y1 ||| (jI m (jP m (jP m y0 0) y2.toNatClampNeg) 3))), (2, .inl (y2 + (1 : Int32)))]) rfl ?_
      exact hB _ _ _ _ H h2
def c_X9_askedAttributes_l4 (F : Nat) (m : jMe) : Nat → Nat → Int32 → Int32 → Option (Int32)
  | 0, _, _, _ => none
  | n + 1, y0, y1, y2 => c_X9_askedAttributes_l4_b F (fun y0 y1 y2 => c_X9_askedAttributes_l4 F m n y0 y1 y2) m y0 y1 y2
theorem ec_X9_askedAttributes_l4 {X : jX} {l : Launch} {d : Nat} (O : jOk X) (hd : 4 ≤ d) {F : Nat} {m0 m' : jMe} {v : Option jAV} {m : jMe} : ∀ (n : Nat) {y0 : Nat} {y1 : Int32} {y2 : Int32} {r : Int32} (H : c_X9_askedAttributes_l4 F m n y0 y1 y2 = some r) (h2 : jS X l d jm_X9_askedAttributes m0 v m' (42, [(1, .inl r)], [], m)), jS X l d jm_X9_askedAttributes m0 v m' (4, [(0, .inr (.inr y0)), (1, .inl y1), (2, .inl y2)], [], m) := by
  intro n
  induction n with
  | zero =>
    intro y0 y1 y2 r H h2
    cases (show none = some r from H)
  | succ n ih =>
    intro y0 y1 y2 r H h2
    exact ec_X9_askedAttributes_l4_b O hd (B := (fun y0 y1 y2 => c_X9_askedAttributes_l4 F m n y0 y1 y2)) (fun y0 y1 y2 r H h2 => ih H h2) H h2
def c_X9_askedAttributes (F : Nat) (m : jMe) (x0 : Nat) : Option (Int32) :=
  jb (c_X9_askedAttributes_l4 F m F x0 (0 : Int32) (0 : Int32)) fun e10 => some e10
theorem ec_X9_askedAttributes {X : jX} {l : Launch} {d : Nat} (O : jOk X) (hd : 4 ≤ d) {F : Nat} {m : jMe} {x0 : Nat} {r : Int32} (H : c_X9_askedAttributes F m x0 = some r) : jH X l d jm_X9_askedAttributes [.inr (.inr x0)] m (some (.inl r)) m := by
  refine jH.of jpl_RX9 rfl (Nat.le_of_ble_eq_true rfl) ?_
  show jS X l d jm_X9_askedAttributes m _ _ (0, [(0, .inr (.inr x0))], [], m)
  unfold c_X9_askedAttributes at H
  refine jS.adv O [(.iconst 0, 0, 0, 0, 0, (0 : Int32), 0), (.istore_n 1, 0, 0, 0, 0, 0, 0), (.iconst 0, 0, 0, 0, 0, (0 : Int32), 0), (.istore_n 2, 0, 0, 0, 0, 0, 0)] (pc' := 4) (ls' := [(2, .inl (0 : Int32)), (1, .inl (0 : Int32)), (0, .inr (.inr x0))]) (st' := []) (m2 := m) (by decide +kernel) rfl trivial ?_
  refine jS.loc' [2, 1, 0] (ls' := [(0, .inr (.inr x0)), (1, .inl (0 : Int32)), (2, .inl (0 : Int32))]) rfl ?_
  obtain ⟨e10, w11, H⟩ := jb_ok H
  refine ec_X9_askedAttributes_l4 O hd F w11 ?_
  refine jS.adv O [(.iload_n 1, 0, 0, 0, 0, 0, 0)] (pc' := 43) (ls' := [(1, .inl e10)]) (st' := [.inl e10]) (m2 := m) (by decide +kernel) rfl trivial ?_
  replace H := Option.some.inj H
  subst H
  exact jS.iret rfl (by decide +kernel)
def c_X9_shape (F : Nat) (m : jMe) (x0 : Nat) (x1 : Int32) : Option (Int32 × jMe) :=
  (if x1 < 0 then some ((-2 : Int32), m) else (if x1 ≤ (4 : Int32) then jgd (jK m x0 = 41) <| (if (jI m x0 15) = 0 then some ((-3 : Int32), m) else jb (c_X9_current F m x0) fun t6 => (if x1 = (0 : Int32) then jgd (jK t6.2 t6.1 = 34) <| jgd (jK t6.2 (jP t6.2 t6.1 0) = 40) <| some ((jI t6.2 (jP t6.2 t6.1 0) 6), t6.2) else if x1 = (1 : Int32) then jgd (jK t6.2 t6.1 = 34) <| jgd (jK t6.2 (jP t6.2 t6.1 0) = 40) <| some ((jI t6.2 (jP t6.2 t6.1 0) 7), t6.2) else if x1 = (2 : Int32) then jgd (jK t6.2 t6.1 = 34) <| jgd (jK t6.2 (jP t6.2 t6.1 0) = 40) <| some ((jI t6.2 (jP t6.2 t6.1 0) 5), t6.2) else if x1 = (3 : Int32) then jgd (jK t6.2 t6.1 = 34) <| (if (jI t6.2 t6.1 5) = 0 then some ((0 : Int32), t6.2) else some ((1 : Int32), t6.2)) else jgd (jK t6.2 x0 = 41) <| jb (c_X9_askedAttributes F t6.2 x0) fun t21 => some (t21, t6.2))) else some ((-2 : Int32), m)))
theorem ec_X9_shape {X : jX} {l : Launch} {d : Nat} (O : jOk X) (hd : 8 ≤ d) {F : Nat} {m : jMe} {x0 : Nat} {x1 : Int32} {r : Int32 × jMe} (H : c_X9_shape F m x0 x1 = some r) : jH X l d jm_X9_shape [.inr (.inr x0), .inl x1] m (some (.inl r.1)) r.2 := by
  refine jH.of jpl_RX9 rfl (Nat.le_of_ble_eq_true rfl) ?_
  show jS X l d jm_X9_shape m _ _ (0, [(0, .inr (.inr x0)), (1, .inl x1)], [], m)
  unfold c_X9_shape at H
  refine jS.adv O [(.iload_n 1, 0, 0, 0, 0, 0, 0)] (pc' := 1) (ls' := [(0, .inr (.inr x0)), (1, .inl x1)]) (st' := [.inl x1]) (m2 := m) (by decide +kernel) rfl trivial ?_
  refine jS.br (i := .ifCond .lt 8) (P := x1 < 0) (rest := []) rfl (by decide +kernel) (tgt := 9) (by decide) (fun c1 => ?_) (fun c1 => ?_)
  · replace H := jif_t c1 H
    refine jS.adv O [(.bipush (-2), 0, 0, 0, 0, (-2 : Int32), 0)] (pc' := 11) (ls' := [(0, .inr (.inr x0)), (1, .inl x1)]) (st' := [.inl (-2 : Int32)]) (m2 := m) (by decide +kernel) rfl trivial ?_
    replace H := Option.some.inj H
    subst H
    exact jS.iret rfl (by decide +kernel)
  · replace H := jif_f c1 H
    refine jS.adv O [(.iload_n 1, 0, 0, 0, 0, 0, 0), (.iconst 4, 0, 0, 0, 0, (4 : Int32), 0)] (pc' := 6) (ls' := [(0, .inr (.inr x0)), (1, .inl x1)]) (st' := [.inl (4 : Int32), .inl x1]) (m2 := m) (by decide +kernel) rfl trivial ?_
    refine jS.br (i := .if_icmp .le 6) (P := x1 ≤ (4 : Int32)) (rest := []) rfl (by decide +kernel) (tgt := 12) (by decide) (fun c2 => ?_) (fun c2 => ?_)
    · replace H := jif_t c2 H
      obtain ⟨w3, H⟩ := jgd_ok H
      refine jS.adv O [(.aload_n 0, 0, 0, 0, 0, 0, 0), (.getfield 82, 0, 9, 15, 593, 0, 0)] (pc' := 16) (ls' := [(0, .inr (.inr x0)), (1, .inl x1)]) (st' := [.inl (jI m x0 15)]) (m2 := m) (by decide +kernel) rfl ⟨w3, trivial⟩ ?_
      refine jS.br (i := .ifCond .ne 6) (P := ¬ (jI m x0 15) = 0) (rest := []) rfl (by decide +kernel) (tgt := 22) (by decide) (fun c4 => ?_) (fun c4 => ?_)
      · replace H := jif_f c4 H
        refine jS.adv O [(.aload_n 0, 0, 0, 0, 0, 0, 0)] (pc' := 23) (ls' := [(0, .inr (.inr x0)), (1, .inl x1)]) (st' := [.inr (.inr x0)]) (m2 := m) (by decide +kernel) rfl trivial ?_
        obtain ⟨t6, w5, H⟩ := jb_ok H
        refine jS.step (c' := (26, [(0, .inr (.inr x0)), (1, .inl x1)], [.inr (.inr t6.1)], t6.2)) (jSt.callV (c := 9) (As := []) (rest := []) O (ec_X9_current (d := 7) O (Nat.le_refl _) w5) w3 (by decide) rfl (by omega) jmw_X9_current jmv_X9_current jmn_X9_current (idx := 165) (jW_of 762 (by decide +kernel) rfl) (Nat.le_of_ble_eq_true rfl) (by decide +kernel)) ?_
        refine jS.adv O [(.astore_n 2, 0, 0, 0, 0, 0, 0), (.iload_n 1, 0, 0, 0, 0, 0, 0)] (pc' := 28) (ls' := [(2, .inr (.inr t6.1)), (0, .inr (.inr x0)), (1, .inl x1)]) (st' := [.inl x1]) (m2 := t6.2) (by decide +kernel) rfl trivial ?_
        by_cases c7 : x1 = (0 : Int32)
        · replace H := jif_t c7 H
          refine jS.tswIn (dflt := 69) (lo := 0) (hi := 3) (offs := #[32, 40, 48, 56]) (off := 32) c7 (len := 32) (tgt := 60) (by decide +kernel) (by decide) (by decide) rfl (by decide) ?_
          obtain ⟨w8, H⟩ := jgd_ok H
          obtain ⟨w9, H⟩ := jgd_ok H
          refine jS.adv O [(.aload_n 2, 0, 0, 0, 0, 0, 0), (.getfield 169, 0, 2, 0, 425, 0, 0), (.getfield 185, 0, 8, 6, 401, 0, 0)] (pc' := 67) (ls' := [(2, .inr (.inr t6.1)), (0, .inr (.inr x0)), (1, .inl x1)]) (st' := [.inl (jI t6.2 (jP t6.2 t6.1 0) 6)]) (m2 := t6.2) (by decide +kernel) rfl ⟨w8, w9, trivial⟩ ?_
          replace H := Option.some.inj H
          subst H
          exact jS.iret rfl (by decide +kernel)
        replace H := jif_f c7 H
        by_cases c10 : x1 = (1 : Int32)
        · replace H := jif_t c10 H
          refine jS.tswIn (dflt := 69) (lo := 0) (hi := 3) (offs := #[32, 40, 48, 56]) (off := 40) c10 (len := 32) (tgt := 68) (by decide +kernel) (by decide) (by decide) rfl (by decide) ?_
          obtain ⟨w11, H⟩ := jgd_ok H
          obtain ⟨w12, H⟩ := jgd_ok H
          refine jS.adv O [(.aload_n 2, 0, 0, 0, 0, 0, 0), (.getfield 169, 0, 2, 0, 425, 0, 0), (.getfield 187, 0, 8, 7, 404, 0, 0)] (pc' := 75) (ls' := [(2, .inr (.inr t6.1)), (0, .inr (.inr x0)), (1, .inl x1)]) (st' := [.inl (jI t6.2 (jP t6.2 t6.1 0) 7)]) (m2 := t6.2) (by decide +kernel) rfl ⟨w11, w12, trivial⟩ ?_
          replace H := Option.some.inj H
          subst H
          exact jS.iret rfl (by decide +kernel)
        replace H := jif_f c10 H
        by_cases c13 : x1 = (2 : Int32)
        · replace H := jif_t c13 H
          refine jS.tswIn (dflt := 69) (lo := 0) (hi := 3) (offs := #[32, 40, 48, 56]) (off := 48) c13 (len := 32) (tgt := 76) (by decide +kernel) (by decide) (by decide) rfl (by decide) ?_
          obtain ⟨w14, H⟩ := jgd_ok H
          obtain ⟨w15, H⟩ := jgd_ok H
          refine jS.adv O [(.aload_n 2, 0, 0, 0, 0, 0, 0), (.getfield 169, 0, 2, 0, 425, 0, 0), (.getfield 190, 0, 8, 5, 398, 0, 0)] (pc' := 83) (ls' := [(2, .inr (.inr t6.1)), (0, .inr (.inr x0)), (1, .inl x1)]) (st' := [.inl (jI t6.2 (jP t6.2 t6.1 0) 5)]) (m2 := t6.2) (by decide +kernel) rfl ⟨w14, w15, trivial⟩ ?_
          replace H := Option.some.inj H
          subst H
          exact jS.iret rfl (by decide +kernel)
        replace H := jif_f c13 H
        by_cases c16 : x1 = (3 : Int32)
        · replace H := jif_t c16 H
          refine jS.tswIn (dflt := 69) (lo := 0) (hi := 3) (offs := #[32, 40, 48, 56]) (off := 56) c16 (len := 32) (tgt := 84) (by decide +kernel) (by decide) (by decide) rfl (by decide) ?_
          obtain ⟨w17, H⟩ := jgd_ok H
          refine jS.adv O [(.aload_n 2, 0, 0, 0, 0, 0, 0), (.getfield 193, 0, 2, 5, 434, 0, 0)] (pc' := 88) (ls' := [(2, .inr (.inr t6.1)), (0, .inr (.inr x0)), (1, .inl x1)]) (st' := [.inl (jI t6.2 t6.1 5)]) (m2 := t6.2) (by decide +kernel) rfl ⟨w17, trivial⟩ ?_
          refine jS.br (i := .ifCond .eq 7) (P := (jI t6.2 t6.1 5) = 0) (rest := []) rfl (by decide +kernel) (tgt := 95) (by decide) (fun c18 => ?_) (fun c18 => ?_)
          · replace H := jif_t c18 H
            refine jS.adv O [(.iconst 0, 0, 0, 0, 0, (0 : Int32), 0)] (pc' := 96) (ls' := [(2, .inr (.inr t6.1)), (0, .inr (.inr x0)), (1, .inl x1)]) (st' := [.inl (0 : Int32)]) (m2 := t6.2) (by decide +kernel) rfl trivial ?_
            replace H := Option.some.inj H
            subst H
            exact jS.iret rfl (by decide +kernel)
          · replace H := jif_f c18 H
            refine jS.adv O [(.iconst 1, 0, 0, 0, 0, (1 : Int32), 0), (.goto 4, 0, 96, 0, 0, 0, 0)] (pc' := 96) (ls' := [(2, .inr (.inr t6.1)), (0, .inr (.inr x0)), (1, .inl x1)]) (st' := [.inl (1 : Int32)]) (m2 := t6.2) (by decide +kernel) rfl trivial ?_
            replace H := Option.some.inj H
            subst H
            exact jS.iret rfl (by decide +kernel)
        replace H := jif_f c16 H
        refine jS.tswOut (dflt := 69) (lo := 0) (hi := 3) (offs := #[32, 40, 48, 56]) (by have q := jsw_out (x := x1) (vs := [(0 : Int32), (1 : Int32), (2 : Int32), (3 : Int32)]) (lo := 0) (n := 4) (by decide) (List.forall_mem_cons.mpr ⟨c7, List.forall_mem_cons.mpr ⟨c10, List.forall_mem_cons.mpr ⟨c13, List.forall_mem_cons.mpr ⟨c16, List.forall_mem_nil _⟩⟩⟩⟩); first | exact q | omega) (len := 32) (tgt := 97) (by decide +kernel) (by decide) ?_
        obtain ⟨w19, H⟩ := jgd_ok H
        refine jS.adv O [(.aload_n 0, 0, 0, 0, 0, 0, 0)] (pc' := 98) (ls' := [(2, .inr (.inr t6.1)), (0, .inr (.inr x0)), (1, .inl x1)]) (st' := [.inr (.inr x0)]) (m2 := t6.2) (by decide +kernel) rfl trivial ?_
        obtain ⟨t21, w20, H⟩ := jb_ok H
        refine jS.step (c' := (101, [(2, .inr (.inr t6.1)), (0, .inr (.inr x0)), (1, .inl x1)], [.inl t21], t6.2)) (jSt.callV (c := 9) (As := []) (rest := []) O (ec_X9_askedAttributes (d := 4) O (Nat.le_refl _) w20) w19 (by decide) rfl (by omega) jmw_X9_askedAttributes jmv_X9_askedAttributes jmn_X9_askedAttributes (idx := 196) (jW_of 857 (by decide +kernel) rfl) (Nat.le_of_ble_eq_true rfl) (by decide +kernel)) ?_
        replace H := Option.some.inj H
        subst H
        exact jS.iret rfl (by decide +kernel)
      · replace H := jif_t (Classical.not_not.mp c4) H
        refine jS.adv O [(.bipush (-3), 0, 0, 0, 0, (-3 : Int32), 0)] (pc' := 21) (ls' := [(0, .inr (.inr x0)), (1, .inl x1)]) (st' := [.inl (-3 : Int32)]) (m2 := m) (by decide +kernel) rfl trivial ?_
        replace H := Option.some.inj H
        subst H
        exact jS.iret rfl (by decide +kernel)
    · replace H := jif_f c2 H
      refine jS.adv O [(.bipush (-2), 0, 0, 0, 0, (-2 : Int32), 0)] (pc' := 11) (ls' := [(0, .inr (.inr x0)), (1, .inl x1)]) (st' := [.inl (-2 : Int32)]) (m2 := m) (by decide +kernel) rfl trivial ?_
      replace H := Option.some.inj H
      subst H
      exact jS.iret rfl (by decide +kernel)
def c_X9_feed (F : Nat) (m : jMe) (x0 : Nat) (x1 : Int32) : Option (Int32 × jMe) :=
  (if x1 < 0 then some ((-2 : Int32), m) else (if x1 ≤ (255 : Int32) then jgd (jK m x0 = 41) <| jgd (jK m (jP m x0 3) = 35) <| jb (c_X3_take F m (jP m x0 3) x1) fun t6 => (if t6.1 = 0 then some ((-4 : Int32), t6.2) else jgd (jK t6.2 x0 = 41) <| jgd (jK t6.2 (jP t6.2 x0 3) = 35) <| some ((jI t6.2 (jP t6.2 x0 3) 2), t6.2)) else some ((-2 : Int32), m)))
theorem ec_X9_feed {X : jX} {l : Launch} {d : Nat} (O : jOk X) (hd : 3 ≤ d) {F : Nat} {m : jMe} {x0 : Nat} {x1 : Int32} {r : Int32 × jMe} (H : c_X9_feed F m x0 x1 = some r) : jH X l d jm_X9_feed [.inr (.inr x0), .inl x1] m (some (.inl r.1)) r.2 := by
  refine jH.of jpl_RX9 rfl (Nat.le_of_ble_eq_true rfl) ?_
  show jS X l d jm_X9_feed m _ _ (0, [(0, .inr (.inr x0)), (1, .inl x1)], [], m)
  unfold c_X9_feed at H
  refine jS.adv O [(.iload_n 1, 0, 0, 0, 0, 0, 0)] (pc' := 1) (ls' := [(0, .inr (.inr x0)), (1, .inl x1)]) (st' := [.inl x1]) (m2 := m) (by decide +kernel) rfl trivial ?_
  refine jS.br (i := .ifCond .lt 10) (P := x1 < 0) (rest := []) rfl (by decide +kernel) (tgt := 11) (by decide) (fun c1 => ?_) (fun c1 => ?_)
  · replace H := jif_t c1 H
    refine jS.adv O [(.bipush (-2), 0, 0, 0, 0, (-2 : Int32), 0)] (pc' := 13) (ls' := [(0, .inr (.inr x0)), (1, .inl x1)]) (st' := [.inl (-2 : Int32)]) (m2 := m) (by decide +kernel) rfl trivial ?_
    replace H := Option.some.inj H
    subst H
    exact jS.iret rfl (by decide +kernel)
  · replace H := jif_f c1 H
    refine jS.adv O [(.iload_n 1, 0, 0, 0, 0, 0, 0), (.sipush 255, 0, 0, 0, 0, (255 : Int32), 0)] (pc' := 8) (ls' := [(0, .inr (.inr x0)), (1, .inl x1)]) (st' := [.inl (255 : Int32), .inl x1]) (m2 := m) (by decide +kernel) rfl trivial ?_
    refine jS.br (i := .if_icmp .le 6) (P := x1 ≤ (255 : Int32)) (rest := []) rfl (by decide +kernel) (tgt := 14) (by decide) (fun c2 => ?_) (fun c2 => ?_)
    · replace H := jif_t c2 H
      obtain ⟨w3, H⟩ := jgd_ok H
      obtain ⟨w4, H⟩ := jgd_ok H
      refine jS.adv O [(.aload_n 0, 0, 0, 0, 0, 0, 0), (.getfield 30, 0, 9, 3, 581, 0, 0), (.iload_n 1, 0, 0, 0, 0, 0, 0)] (pc' := 19) (ls' := [(0, .inr (.inr x0)), (1, .inl x1)]) (st' := [.inl x1, .inr (.inr (jP m x0 3))]) (m2 := m) (by decide +kernel) rfl ⟨w3, trivial⟩ ?_
      obtain ⟨t6, w5, H⟩ := jb_ok H
      refine jS.step (c' := (22, [(0, .inr (.inr x0)), (1, .inl x1)], [.inl t6.1], t6.2)) (jSt.callV (c := 3) (As := [.inl x1]) (rest := []) O (ec_X3_take (d := 2) O (Nat.le_refl _) w5) w4 (by decide) rfl (by omega) jmw_X3_take jmv_X3_take jmn_X3_take (idx := 200) (jW_of 865 (by decide +kernel) rfl) (Nat.le_of_ble_eq_true rfl) (by decide +kernel)) ?_
      refine jS.br (i := .ifCond .eq 13) (P := t6.1 = 0) (rest := []) rfl (by decide +kernel) (tgt := 35) (by decide) (fun c7 => ?_) (fun c7 => ?_)
      · replace H := jif_t c7 H
        refine jS.adv O [(.bipush (-4), 0, 0, 0, 0, (-4 : Int32), 0)] (pc' := 37) (ls' := [(0, .inr (.inr x0)), (1, .inl x1)]) (st' := [.inl (-4 : Int32)]) (m2 := t6.2) (by decide +kernel) rfl trivial ?_
        replace H := Option.some.inj H
        subst H
        exact jS.iret rfl (by decide +kernel)
      · replace H := jif_f c7 H
        obtain ⟨w8, H⟩ := jgd_ok H
        obtain ⟨w9, H⟩ := jgd_ok H
        refine jS.adv O [(.aload_n 0, 0, 0, 0, 0, 0, 0), (.getfield 30, 0, 9, 3, 581, 0, 0), (.getfield 203, 0, 3, 2, 285, 0, 0), (.goto 5, 0, 37, 0, 0, 0, 0)] (pc' := 37) (ls' := [(0, .inr (.inr x0)), (1, .inl x1)]) (st' := [.inl (jI t6.2 (jP t6.2 x0 3) 2)]) (m2 := t6.2) (by decide +kernel) rfl ⟨w8, w9, trivial⟩ ?_
        replace H := Option.some.inj H
        subst H
        exact jS.iret rfl (by decide +kernel)
    · replace H := jif_f c2 H
      refine jS.adv O [(.bipush (-2), 0, 0, 0, 0, (-2 : Int32), 0)] (pc' := 13) (ls' := [(0, .inr (.inr x0)), (1, .inl x1)]) (st' := [.inl (-2 : Int32)]) (m2 := m) (by decide +kernel) rfl trivial ?_
      replace H := Option.some.inj H
      subst H
      exact jS.iret rfl (by decide +kernel)
def c_X9_text (F : Nat) (m : jMe) (x0 : Nat) : Option (Int32 × jMe) :=
  jgd (jK m x0 = 41) <| (if (jI m x0 12) < (6 : Int32) then jgd (jK m (jP m x0 3) = 35) <| jb (c_X3_read F m (jP m x0 3)) fun t5 => (if t5.1 = (-1 : Int32) then jgd (jK t5.2 x0 = 41) <| jlet (jnew t5.2 (32 + 7) 0 (jnf 7)) fun m8 => jgd (jK m8 x0 = 41) <| jgd (jK m8 (jP m8 x0 3) = 35) <| jb (c_X7_init F m8 (32 + jN t5.2) (jP m8 (jP m8 x0 3) 1) (jI m8 (jP m8 x0 3) 3)) fun t12 => jgd (jK t12 (jP t5.2 x0 1) = 6) <| jgd (jin (jI t5.2 x0 12) (jZ t12 (jP t5.2 x0 1)) = true) <| jgd (jK t12 (32 + jN t5.2) = 39) <| jgd (jK t12 x0 = 41) <| some (((jI (jsI (jsP t12 (jP t5.2 x0 1) (jI t5.2 x0 12).toNatClampNeg (32 + jN t5.2)) x0 12 ((jI (jsP t12 (jP t5.2 x0 1) (jI t5.2 x0 12).toNatClampNeg (32 + jN t5.2)) x0 12) + (1 : Int32))) x0 12) - (1 : Int32)), (jsI (jsP t12 (jP t5.2 x0 1) (jI t5.2 x0 12).toNatClampNeg (32 + jN t5.2)) x0 12 ((jI (jsP t12 (jP t5.2 x0 1) (jI t5.2 x0 12).toNatClampNeg (32 + jN t5.2)) x0 12) + (1 : Int32)))) else some (((-100 : Int32) - t5.1), t5.2)) else some ((-4 : Int32), m))
theorem ec_X9_text {X : jX} {l : Launch} {d : Nat} (O : jOk X) (hd : 77 ≤ d) {F : Nat} {m : jMe} {x0 : Nat} {r : Int32 × jMe} (H : c_X9_text F m x0 = some r) : jH X l d jm_X9_text [.inr (.inr x0)] m (some (.inl r.1)) r.2 := by
  refine jH.of jpl_RX9 rfl (Nat.le_of_ble_eq_true rfl) ?_
  show jS X l d jm_X9_text m _ _ (0, [(0, .inr (.inr x0))], [], m)
  unfold c_X9_text at H
  obtain ⟨w1, H⟩ := jgd_ok H
  refine jS.adv O [(.aload_n 0, 0, 0, 0, 0, 0, 0), (.getfield 73, 0, 9, 12, 590, 0, 0), (.bipush 6, 0, 0, 0, 0, (6 : Int32), 0)] (pc' := 6) (ls' := [(0, .inr (.inr x0))]) (st' := [.inl (6 : Int32), .inl (jI m x0 12)]) (m2 := m) (by decide +kernel) rfl ⟨w1, trivial⟩ ?_
  refine jS.br (i := .if_icmp .lt 6) (P := (jI m x0 12) < (6 : Int32)) (rest := []) rfl (by decide +kernel) (tgt := 12) (by decide) (fun c2 => ?_) (fun c2 => ?_)
  · replace H := jif_t c2 H
    obtain ⟨w3, H⟩ := jgd_ok H
    refine jS.adv O [(.aload_n 0, 0, 0, 0, 0, 0, 0), (.getfield 30, 0, 9, 3, 581, 0, 0)] (pc' := 16) (ls' := [(0, .inr (.inr x0))]) (st' := [.inr (.inr (jP m x0 3))]) (m2 := m) (by decide +kernel) rfl ⟨w1, trivial⟩ ?_
    obtain ⟨t5, w4, H⟩ := jb_ok H
    refine jS.step (c' := (19, [(0, .inr (.inr x0))], [.inl t5.1], t5.2)) (jSt.callV (c := 3) (As := []) (rest := []) O (ec_X3_read (d := 76) O (Nat.le_refl _) w4) w3 (by decide) rfl (by omega) jmw_X3_read jmv_X3_read jmn_X3_read (idx := 204) (jW_of 873 (by decide +kernel) rfl) (Nat.le_of_ble_eq_true rfl) (by decide +kernel)) ?_
    refine jS.adv O [(.istore_n 1, 0, 0, 0, 0, 0, 0), (.iload_n 1, 0, 0, 0, 0, 0, 0), (.iconst (-1), 0, 0, 0, 0, (-1 : Int32), 0)] (pc' := 22) (ls' := [(1, .inl t5.1), (0, .inr (.inr x0))]) (st' := [.inl (-1 : Int32), .inl t5.1]) (m2 := t5.2) (by decide +kernel) rfl trivial ?_
    refine jS.br (i := .if_icmp .eq 8) (P := t5.1 = (-1 : Int32)) (rest := []) rfl (by decide +kernel) (tgt := 30) (by decide) (fun c6 => ?_) (fun c6 => ?_)
    · replace H := jif_t c6 H
      obtain ⟨w7, H⟩ := jgd_ok H
      obtain ⟨m8, em8, H⟩ := jlet_ok H
      refine jS.adv O [(.aload_n 0, 0, 0, 0, 0, 0, 0), (.getfield 17, 0, 9, 1, 579, 0, 0), (.aload_n 0, 0, 0, 0, 0, 0, 0), (.getfield 73, 0, 9, 12, 590, 0, 0), (.new 15, 0, 7, 271, 547, 0, 0)] (pc' := 41) (ls' := [(1, .inl t5.1), (0, .inr (.inr x0))]) (st' := [.inr (.inr (32 + jN t5.2)), .inl (jI t5.2 x0 12), .inr (.inr (jP t5.2 x0 1))]) (m2 := (jnew t5.2 (32 + 7) 0 (jnf 7))) (by decide +kernel) rfl ⟨w7, w7, trivial⟩ ?_
      refine jS.cast (c' := (41, [(1, .inl t5.1), (0, .inr (.inr x0))], [.inr (.inr (32 + jN t5.2)), .inl (jI t5.2 x0 12), .inr (.inr (jP t5.2 x0 1))], m8)) (by rw [em8]) ?_
      obtain ⟨w9, H⟩ := jgd_ok H
      obtain ⟨w10, H⟩ := jgd_ok H
      refine jS.adv O [(.dup, 0, 0, 0, 0, 0, 0), (.aload_n 0, 0, 0, 0, 0, 0, 0), (.getfield 30, 0, 9, 3, 581, 0, 0), (.getfield 207, 0, 3, 1, 283, 0, 0), (.aload_n 0, 0, 0, 0, 0, 0, 0), (.getfield 30, 0, 9, 3, 581, 0, 0), (.getfield 210, 0, 3, 3, 287, 0, 0)] (pc' := 56) (ls' := [(1, .inl t5.1), (0, .inr (.inr x0))]) (st' := [.inl (jI m8 (jP m8 x0 3) 3), .inr (.inr (jP m8 (jP m8 x0 3) 1)), .inr (.inr (32 + jN t5.2)), .inr (.inr (32 + jN t5.2)), .inl (jI t5.2 x0 12), .inr (.inr (jP t5.2 x0 1))]) (m2 := m8) (by decide +kernel) rfl ⟨w9, w10, w9, w10, trivial⟩ ?_
      obtain ⟨t12, w11, H⟩ := jb_ok H
      refine jS.step (c' := (59, [(1, .inl t5.1), (0, .inr (.inr x0))], [.inr (.inr (32 + jN t5.2)), .inl (jI t5.2 x0 12), .inr (.inr (jP t5.2 x0 1))], t12)) (jSt.callI (As := [.inr (.inr (jP m8 (jP m8 x0 3) 1)), .inl (jI m8 (jP m8 x0 3) 3)]) (rest := [.inr (.inr (32 + jN t5.2)), .inl (jI t5.2 x0 12), .inr (.inr (jP t5.2 x0 1))]) O (ec_X7_init (d := 3) O (Nat.le_refl _) w11) (by omega) (by omega) jmw_X7_init jmv_X7_init jmn_X7_init (idx := 87) (jW_of 548 (by decide +kernel) rfl) (Nat.le_of_ble_eq_true rfl) (by decide +kernel)) ?_
      obtain ⟨w13, H⟩ := jgd_ok H
      obtain ⟨w14, H⟩ := jgd_ok H
      obtain ⟨w15, H⟩ := jgd_ok H
      obtain ⟨w16, H⟩ := jgd_ok H
      refine jS.adv O [(.aastore, 0, 6, 7, 0, 0, 0), (.aload_n 0, 0, 0, 0, 0, 0, 0), (.dup, 0, 0, 0, 0, 0, 0), (.getfield 73, 0, 9, 12, 590, 0, 0), (.iconst 1, 0, 0, 0, 0, (1 : Int32), 0), (.iadd, 0, 0, 0, 0, 0, 0), (.putfield 73, 0, 9, 12, 590, 0, 0), (.aload_n 0, 0, 0, 0, 0, 0, 0), (.getfield 73, 0, 9, 12, 590, 0, 0), (.iconst 1, 0, 0, 0, 0, (1 : Int32), 0), (.isub, 0, 0, 0, 0, 0, 0)] (pc' := 76) (ls' := [(1, .inl t5.1), (0, .inr (.inr x0))]) (st' := [.inl ((jI (jsI (jsP t12 (jP t5.2 x0 1) (jI t5.2 x0 12).toNatClampNeg (32 + jN t5.2)) x0 12 ((jI (jsP t12 (jP t5.2 x0 1) (jI t5.2 x0 12).toNatClampNeg (32 + jN t5.2)) x0 12) + (1 : Int32))) x0 12) - (1 : Int32))]) (m2 := (jsI (jsP t12 (jP t5.2 x0 1) (jI t5.2 x0 12).toNatClampNeg (32 + jN t5.2)) x0 12 ((jI (jsP t12 (jP t5.2 x0 1) (jI t5.2 x0 12).toNatClampNeg (32 + jN t5.2)) x0 12) + (1 : Int32)))) (by decide +kernel) rfl ⟨⟨w13, jib_ok w14, w15⟩, w16, w16, w16, trivial⟩ ?_
      replace H := Option.some.inj H
      subst H
      exact jS.iret rfl (by decide +kernel)
    · replace H := jif_f c6 H
      refine jS.adv O [(.bipush (-100), 0, 0, 0, 0, (-100 : Int32), 0), (.iload_n 1, 0, 0, 0, 0, 0, 0), (.isub, 0, 0, 0, 0, 0, 0)] (pc' := 29) (ls' := [(1, .inl t5.1), (0, .inr (.inr x0))]) (st' := [.inl ((-100 : Int32) - t5.1)]) (m2 := t5.2) (by decide +kernel) rfl trivial ?_
      replace H := Option.some.inj H
      subst H
      exact jS.iret rfl (by decide +kernel)
  · replace H := jif_f c2 H
    refine jS.adv O [(.bipush (-4), 0, 0, 0, 0, (-4 : Int32), 0)] (pc' := 11) (ls' := [(0, .inr (.inr x0))]) (st' := [.inl (-4 : Int32)]) (m2 := m) (by decide +kernel) rfl trivial ?_
    replace H := Option.some.inj H
    subst H
    exact jS.iret rfl (by decide +kernel)
def c_X9_force (F : Nat) (m : jMe) (x0 : Nat) (x1 : Int32) : Option (Int32 × jMe) :=
  (if x1 < 0 then some ((-2 : Int32), m) else jgd (jK m x0 = 41) <| (if x1 < (jI m x0 12) then some ((jI m x0 14), (jsI (jsI m x0 14 x1) x0 10 (1 : Int32))) else some ((-2 : Int32), m)))
theorem ec_X9_force {X : jX} {l : Launch} {d : Nat} (O : jOk X) (hd : 2 ≤ d) {F : Nat} {m : jMe} {x0 : Nat} {x1 : Int32} {r : Int32 × jMe} (H : c_X9_force F m x0 x1 = some r) : jH X l d jm_X9_force [.inr (.inr x0), .inl x1] m (some (.inl r.1)) r.2 := by
  refine jH.of jpl_RX9 rfl (Nat.le_of_ble_eq_true rfl) ?_
  show jS X l d jm_X9_force m _ _ (0, [(0, .inr (.inr x0)), (1, .inl x1)], [], m)
  unfold c_X9_force at H
  refine jS.adv O [(.iload_n 1, 0, 0, 0, 0, 0, 0)] (pc' := 1) (ls' := [(0, .inr (.inr x0)), (1, .inl x1)]) (st' := [.inl x1]) (m2 := m) (by decide +kernel) rfl trivial ?_
  refine jS.br (i := .ifCond .lt 11) (P := x1 < 0) (rest := []) rfl (by decide +kernel) (tgt := 12) (by decide) (fun c1 => ?_) (fun c1 => ?_)
  · replace H := jif_t c1 H
    refine jS.adv O [(.bipush (-2), 0, 0, 0, 0, (-2 : Int32), 0)] (pc' := 14) (ls' := [(0, .inr (.inr x0)), (1, .inl x1)]) (st' := [.inl (-2 : Int32)]) (m2 := m) (by decide +kernel) rfl trivial ?_
    replace H := Option.some.inj H
    subst H
    exact jS.iret rfl (by decide +kernel)
  · replace H := jif_f c1 H
    obtain ⟨w2, H⟩ := jgd_ok H
    refine jS.adv O [(.iload_n 1, 0, 0, 0, 0, 0, 0), (.aload_n 0, 0, 0, 0, 0, 0, 0), (.getfield 73, 0, 9, 12, 590, 0, 0)] (pc' := 9) (ls' := [(0, .inr (.inr x0)), (1, .inl x1)]) (st' := [.inl (jI m x0 12), .inl x1]) (m2 := m) (by decide +kernel) rfl ⟨w2, trivial⟩ ?_
    refine jS.br (i := .if_icmp .lt 6) (P := x1 < (jI m x0 12)) (rest := []) rfl (by decide +kernel) (tgt := 15) (by decide) (fun c3 => ?_) (fun c3 => ?_)
    · replace H := jif_t c3 H
      refine jS.adv O [(.aload_n 0, 0, 0, 0, 0, 0, 0), (.getfield 79, 0, 9, 14, 592, 0, 0), (.istore_n 2, 0, 0, 0, 0, 0, 0), (.aload_n 0, 0, 0, 0, 0, 0, 0), (.iload_n 1, 0, 0, 0, 0, 0, 0), (.putfield 79, 0, 9, 14, 592, 0, 0), (.aload_n 0, 0, 0, 0, 0, 0, 0), (.iconst 1, 0, 0, 0, 0, (1 : Int32), 0), (.putfield 65, 0, 9, 10, 588, 0, 0), (.iload_n 2, 0, 0, 0, 0, 0, 0)] (pc' := 31) (ls' := [(2, .inl (jI m x0 14)), (0, .inr (.inr x0)), (1, .inl x1)]) (st' := [.inl (jI m x0 14)]) (m2 := (jsI (jsI m x0 14 x1) x0 10 (1 : Int32))) (by decide +kernel) rfl ⟨w2, w2, ⟨w2, Or.inr rfl⟩, trivial⟩ ?_
      replace H := Option.some.inj H
      subst H
      exact jS.iret rfl (by decide +kernel)
    · replace H := jif_f c3 H
      refine jS.adv O [(.bipush (-2), 0, 0, 0, 0, (-2 : Int32), 0)] (pc' := 14) (ls' := [(0, .inr (.inr x0)), (1, .inl x1)]) (st' := [.inl (-2 : Int32)]) (m2 := m) (by decide +kernel) rfl trivial ?_
      replace H := Option.some.inj H
      subst H
      exact jS.iret rfl (by decide +kernel)
def c_X9_weight (F : Nat) (m : jMe) (x0 : Nat) (x1 : Int32) (x2 : Int32) : Option (Int64 × jMe) :=
  jgd (jK m x0 = 41) <| jb (c_X9_isRow F m x0 x1 x2) fun t3 => (if t3 = 0 then some ((-4611686018427387904 : Int64), m) else jb (c_X9_current F m x0) fun t6 => jgd (jK t6.2 t6.1 = 34) <| jb (c_X2_isTold F t6.2 t6.1) fun t9 => (if t9 = 0 then some ((-4611686018427387904 : Int64), t6.2) else jgd (jK t6.2 x0 = 41) <| jb (c_X9_current F t6.2 x0) fun t13 => jgd (jK t13.2 t13.1 = 34) <| jgd (jK t13.2 (jP t13.2 t13.1 0) = 40) <| jb (c_X9_isIn F t13.2 (jI t13.2 (jP t13.2 t13.1 0) 6) x1) fun t17 => (if t17 = 0 then some ((-4611686018427387904 : Int64), t13.2) else jgd (jK t13.2 x0 = 41) <| jb (c_X9_current F t13.2 x0) fun t21 => jgd (jK t21.2 t21.1 = 34) <| jgd (jK t21.2 (jP t21.2 t21.1 1) = 2) <| jgd (jin ((x1 * (8 : Int32)) + x2) (jZ t21.2 (jP t21.2 t21.1 1)) = true) <| some ((jL t21.2 (jP t21.2 t21.1 1) ((x1 * (8 : Int32)) + x2).toNatClampNeg), t21.2))))
theorem ec_X9_weight {X : jX} {l : Launch} {d : Nat} (O : jOk X) (hd : 8 ≤ d) {F : Nat} {m : jMe} {x0 : Nat} {x1 : Int32} {x2 : Int32} {r : Int64 × jMe} (H : c_X9_weight F m x0 x1 x2 = some r) : jH X l d jm_X9_weight [.inr (.inr x0), .inl x1, .inl x2] m (some (.inr (.inl r.1))) r.2 := by
  refine jH.of jpl_RX9 rfl (Nat.le_of_ble_eq_true rfl) ?_
  show jS X l d jm_X9_weight m _ _ (0, [(0, .inr (.inr x0)), (1, .inl x1), (2, .inl x2)], [], m)
  unfold c_X9_weight at H
  obtain ⟨w1, H⟩ := jgd_ok H
  refine jS.adv O [(.aload_n 0, 0, 0, 0, 0, 0, 0), (.iload_n 1, 0, 0, 0, 0, 0, 0), (.iload_n 2, 0, 0, 0, 0, 0, 0)] (pc' := 3) (ls' := [(0, .inr (.inr x0)), (1, .inl x1), (2, .inl x2)]) (st' := [.inl x2, .inl x1, .inr (.inr x0)]) (m2 := m) (by decide +kernel) rfl trivial ?_
  obtain ⟨t3, w2, H⟩ := jb_ok H
  refine jS.step (c' := (6, [(0, .inr (.inr x0)), (1, .inl x1), (2, .inl x2)], [.inl t3], m)) (jSt.callV (c := 9) (As := [.inl x1, .inl x2]) (rest := []) O (ec_X9_isRow (d := 3) O (Nat.le_refl _) w2) w1 (by decide) rfl (by omega) jmw_X9_isRow jmv_X9_isRow jmn_X9_isRow (idx := 108) (jW_of 703 (by decide +kernel) rfl) (Nat.le_of_ble_eq_true rfl) (by decide +kernel)) ?_
  refine jS.br (i := .ifCond .eq 30) (P := t3 = 0) (rest := []) rfl (by decide +kernel) (tgt := 36) (by decide) (fun c4 => ?_) (fun c4 => ?_)
  · replace H := jif_t c4 H
    refine jS.adv O [(.ldc2_w 154, 0, 757, 0, 0, 0, (-4611686018427387904 : Int64))] (pc' := 39) (ls' := [(0, .inr (.inr x0)), (1, .inl x1), (2, .inl x2)]) (st' := [.inr (.inl (-4611686018427387904 : Int64))]) (m2 := m) (by decide +kernel) rfl trivial ?_
    replace H := Option.some.inj H
    subst H
    exact jS.lret rfl (by decide +kernel)
  · replace H := jif_f c4 H
    refine jS.adv O [(.aload_n 0, 0, 0, 0, 0, 0, 0)] (pc' := 10) (ls' := [(0, .inr (.inr x0)), (1, .inl x1), (2, .inl x2)]) (st' := [.inr (.inr x0)]) (m2 := m) (by decide +kernel) rfl trivial ?_
    obtain ⟨t6, w5, H⟩ := jb_ok H
    refine jS.step (c' := (13, [(0, .inr (.inr x0)), (1, .inl x1), (2, .inl x2)], [.inr (.inr t6.1)], t6.2)) (jSt.callV (c := 9) (As := []) (rest := []) O (ec_X9_current (d := 7) O (Nat.le_refl _) w5) w1 (by decide) rfl (by omega) jmw_X9_current jmv_X9_current jmn_X9_current (idx := 165) (jW_of 762 (by decide +kernel) rfl) (Nat.le_of_ble_eq_true rfl) (by decide +kernel)) ?_
    obtain ⟨w7, H⟩ := jgd_ok H
    obtain ⟨t9, w8, H⟩ := jb_ok H
    refine jS.step (c' := (16, [(0, .inr (.inr x0)), (1, .inl x1), (2, .inl x2)], [.inl t9], t6.2)) (jSt.callV (c := 2) (As := []) (rest := []) O (ec_X2_isTold (d := 2) O (Nat.le_refl _) w8) w7 (by decide) rfl (by omega) jmw_X2_isTold jmv_X2_isTold jmn_X2_isTold (idx := 213) (jW_of 1076 (by decide +kernel) rfl) (Nat.le_of_ble_eq_true rfl) (by decide +kernel)) ?_
    refine jS.br (i := .ifCond .eq 20) (P := t9 = 0) (rest := []) rfl (by decide +kernel) (tgt := 36) (by decide) (fun c10 => ?_) (fun c10 => ?_)
    · replace H := jif_t c10 H
      refine jS.adv O [(.ldc2_w 154, 0, 757, 0, 0, 0, (-4611686018427387904 : Int64))] (pc' := 39) (ls' := [(0, .inr (.inr x0)), (1, .inl x1), (2, .inl x2)]) (st' := [.inr (.inl (-4611686018427387904 : Int64))]) (m2 := t6.2) (by decide +kernel) rfl trivial ?_
      replace H := Option.some.inj H
      subst H
      exact jS.lret rfl (by decide +kernel)
    · replace H := jif_f c10 H
      obtain ⟨w11, H⟩ := jgd_ok H
      refine jS.adv O [(.aload_n 0, 0, 0, 0, 0, 0, 0)] (pc' := 20) (ls' := [(0, .inr (.inr x0)), (1, .inl x1), (2, .inl x2)]) (st' := [.inr (.inr x0)]) (m2 := t6.2) (by decide +kernel) rfl trivial ?_
      obtain ⟨t13, w12, H⟩ := jb_ok H
      refine jS.step (c' := (23, [(0, .inr (.inr x0)), (1, .inl x1), (2, .inl x2)], [.inr (.inr t13.1)], t13.2)) (jSt.callV (c := 9) (As := []) (rest := []) O (ec_X9_current (d := 7) O (Nat.le_refl _) w12) w11 (by decide) rfl (by omega) jmw_X9_current jmv_X9_current jmn_X9_current (idx := 165) (jW_of 762 (by decide +kernel) rfl) (Nat.le_of_ble_eq_true rfl) (by decide +kernel)) ?_
      obtain ⟨w14, H⟩ := jgd_ok H
      obtain ⟨w15, H⟩ := jgd_ok H
      refine jS.adv O [(.getfield 169, 0, 2, 0, 425, 0, 0), (.getfield 185, 0, 8, 6, 401, 0, 0), (.iload_n 1, 0, 0, 0, 0, 0, 0)] (pc' := 30) (ls' := [(0, .inr (.inr x0)), (1, .inl x1), (2, .inl x2)]) (st' := [.inl x1, .inl (jI t13.2 (jP t13.2 t13.1 0) 6)]) (m2 := t13.2) (by decide +kernel) rfl ⟨w14, w15, trivial⟩ ?_
      obtain ⟨t17, w16, H⟩ := jb_ok H
      refine jS.step (c' := (33, [(0, .inr (.inr x0)), (1, .inl x1), (2, .inl x2)], [.inl t17], t13.2)) (jSt.callS (As := [.inl (jI t13.2 (jP t13.2 t13.1 0) 6), .inl x1]) (rest := []) O (ec_X9_isIn (d := 2) O (Nat.le_refl _) w16) (by omega) jmw_X9_isIn jmv_X9_isIn jmn_X9_isIn (idx := 140) (jW_of 744 (by decide +kernel) rfl) (Nat.le_of_ble_eq_true rfl) (by decide +kernel)) ?_
      refine jS.br (i := .ifCond .ne 7) (P := ¬ t17 = 0) (rest := []) rfl (by decide +kernel) (tgt := 40) (by decide) (fun c18 => ?_) (fun c18 => ?_)
      · replace H := jif_f c18 H
        obtain ⟨w19, H⟩ := jgd_ok H
        refine jS.adv O [(.aload_n 0, 0, 0, 0, 0, 0, 0)] (pc' := 41) (ls' := [(0, .inr (.inr x0)), (1, .inl x1), (2, .inl x2)]) (st' := [.inr (.inr x0)]) (m2 := t13.2) (by decide +kernel) rfl trivial ?_
        obtain ⟨t21, w20, H⟩ := jb_ok H
        refine jS.step (c' := (44, [(0, .inr (.inr x0)), (1, .inl x1), (2, .inl x2)], [.inr (.inr t21.1)], t21.2)) (jSt.callV (c := 9) (As := []) (rest := []) O (ec_X9_current (d := 7) O (Nat.le_refl _) w20) w19 (by decide) rfl (by omega) jmw_X9_current jmv_X9_current jmn_X9_current (idx := 165) (jW_of 762 (by decide +kernel) rfl) (Nat.le_of_ble_eq_true rfl) (by decide +kernel)) ?_
        obtain ⟨w22, H⟩ := jgd_ok H
        obtain ⟨w23, H⟩ := jgd_ok H
        obtain ⟨w24, H⟩ := jgd_ok H
        refine jS.adv O [(.getfield 216, 0, 2, 1, 427, 0, 0), (.iload_n 1, 0, 0, 0, 0, 0, 0), (.bipush 8, 0, 0, 0, 0, (8 : Int32), 0), (.imul, 0, 0, 0, 0, 0, 0), (.iload_n 2, 0, 0, 0, 0, 0, 0), (.iadd, 0, 0, 0, 0, 0, 0), (.laload, 0, 0, 0, 0, 0, 0)] (pc' := 54) (ls' := [(0, .inr (.inr x0)), (1, .inl x1), (2, .inl x2)]) (st' := [.inr (.inl (jL t21.2 (jP t21.2 t21.1 1) ((x1 * (8 : Int32)) + x2).toNatClampNeg))]) (m2 := t21.2) (by decide +kernel) rfl ⟨w22, ⟨w23, jib_ok w24⟩, trivial⟩ ?_
        replace H := Option.some.inj H
        subst H
        exact jS.lret rfl (by decide +kernel)
      · replace H := jif_t (Classical.not_not.mp c18) H
        refine jS.adv O [(.ldc2_w 154, 0, 757, 0, 0, 0, (-4611686018427387904 : Int64))] (pc' := 39) (ls' := [(0, .inr (.inr x0)), (1, .inl x1), (2, .inl x2)]) (st' := [.inr (.inl (-4611686018427387904 : Int64))]) (m2 := t13.2) (by decide +kernel) rfl trivial ?_
        replace H := Option.some.inj H
        subst H
        exact jS.lret rfl (by decide +kernel)
def c_X9_bound (F : Nat) (m : jMe) (x0 : Nat) (x1 : Int32) : Option (Int64 × jMe) :=
  jgd (jK m x0 = 41) <| jb (c_X9_isRelation F m x0 x1) fun t3 => (if t3 = 0 then some ((-4611686018427387904 : Int64), m) else jb (c_X9_current F m x0) fun t6 => jgd (jK t6.2 t6.1 = 34) <| jb (c_X2_isTold F t6.2 t6.1) fun t9 => (if t9 = 0 then some ((-4611686018427387904 : Int64), t6.2) else jgd (jK t6.2 x0 = 41) <| jb (c_X9_current F t6.2 x0) fun t13 => jgd (jK t13.2 t13.1 = 34) <| jgd (jK t13.2 (jP t13.2 t13.1 0) = 40) <| jb (c_X9_isIn F t13.2 (jI t13.2 (jP t13.2 t13.1 0) 7) x1) fun t17 => (if t17 = 0 then some ((-4611686018427387904 : Int64), t13.2) else jgd (jK t13.2 x0 = 41) <| jb (c_X9_current F t13.2 x0) fun t21 => jgd (jK t21.2 t21.1 = 34) <| jgd (jK t21.2 (jP t21.2 t21.1 2) = 2) <| jgd (jin x1 (jZ t21.2 (jP t21.2 t21.1 2)) = true) <| some ((jL t21.2 (jP t21.2 t21.1 2) x1.toNatClampNeg), t21.2))))
theorem ec_X9_bound {X : jX} {l : Launch} {d : Nat} (O : jOk X) (hd : 8 ≤ d) {F : Nat} {m : jMe} {x0 : Nat} {x1 : Int32} {r : Int64 × jMe} (H : c_X9_bound F m x0 x1 = some r) : jH X l d jm_X9_bound [.inr (.inr x0), .inl x1] m (some (.inr (.inl r.1))) r.2 := by
  refine jH.of jpl_RX9 rfl (Nat.le_of_ble_eq_true rfl) ?_
  show jS X l d jm_X9_bound m _ _ (0, [(0, .inr (.inr x0)), (1, .inl x1)], [], m)
  unfold c_X9_bound at H
  obtain ⟨w1, H⟩ := jgd_ok H
  refine jS.adv O [(.aload_n 0, 0, 0, 0, 0, 0, 0), (.iload_n 1, 0, 0, 0, 0, 0, 0)] (pc' := 2) (ls' := [(0, .inr (.inr x0)), (1, .inl x1)]) (st' := [.inl x1, .inr (.inr x0)]) (m2 := m) (by decide +kernel) rfl trivial ?_
  obtain ⟨t3, w2, H⟩ := jb_ok H
  refine jS.step (c' := (5, [(0, .inr (.inr x0)), (1, .inl x1)], [.inl t3], m)) (jSt.callV (c := 9) (As := [.inl x1]) (rest := []) O (ec_X9_isRelation (d := 2) O (Nat.le_refl _) w2) w1 (by decide) rfl (by omega) jmw_X9_isRelation jmv_X9_isRelation jmn_X9_isRelation (idx := 100) (jW_of 648 (by decide +kernel) rfl) (Nat.le_of_ble_eq_true rfl) (by decide +kernel)) ?_
  refine jS.br (i := .ifCond .eq 30) (P := t3 = 0) (rest := []) rfl (by decide +kernel) (tgt := 35) (by decide) (fun c4 => ?_) (fun c4 => ?_)
  · replace H := jif_t c4 H
    refine jS.adv O [(.ldc2_w 154, 0, 757, 0, 0, 0, (-4611686018427387904 : Int64))] (pc' := 38) (ls' := [(0, .inr (.inr x0)), (1, .inl x1)]) (st' := [.inr (.inl (-4611686018427387904 : Int64))]) (m2 := m) (by decide +kernel) rfl trivial ?_
    replace H := Option.some.inj H
    subst H
    exact jS.lret rfl (by decide +kernel)
  · replace H := jif_f c4 H
    refine jS.adv O [(.aload_n 0, 0, 0, 0, 0, 0, 0)] (pc' := 9) (ls' := [(0, .inr (.inr x0)), (1, .inl x1)]) (st' := [.inr (.inr x0)]) (m2 := m) (by decide +kernel) rfl trivial ?_
    obtain ⟨t6, w5, H⟩ := jb_ok H
    refine jS.step (c' := (12, [(0, .inr (.inr x0)), (1, .inl x1)], [.inr (.inr t6.1)], t6.2)) (jSt.callV (c := 9) (As := []) (rest := []) O (ec_X9_current (d := 7) O (Nat.le_refl _) w5) w1 (by decide) rfl (by omega) jmw_X9_current jmv_X9_current jmn_X9_current (idx := 165) (jW_of 762 (by decide +kernel) rfl) (Nat.le_of_ble_eq_true rfl) (by decide +kernel)) ?_
    obtain ⟨w7, H⟩ := jgd_ok H
    obtain ⟨t9, w8, H⟩ := jb_ok H
    refine jS.step (c' := (15, [(0, .inr (.inr x0)), (1, .inl x1)], [.inl t9], t6.2)) (jSt.callV (c := 2) (As := []) (rest := []) O (ec_X2_isTold (d := 2) O (Nat.le_refl _) w8) w7 (by decide) rfl (by omega) jmw_X2_isTold jmv_X2_isTold jmn_X2_isTold (idx := 213) (jW_of 1076 (by decide +kernel) rfl) (Nat.le_of_ble_eq_true rfl) (by decide +kernel)) ?_
    refine jS.br (i := .ifCond .eq 20) (P := t9 = 0) (rest := []) rfl (by decide +kernel) (tgt := 35) (by decide) (fun c10 => ?_) (fun c10 => ?_)
    · replace H := jif_t c10 H
      refine jS.adv O [(.ldc2_w 154, 0, 757, 0, 0, 0, (-4611686018427387904 : Int64))] (pc' := 38) (ls' := [(0, .inr (.inr x0)), (1, .inl x1)]) (st' := [.inr (.inl (-4611686018427387904 : Int64))]) (m2 := t6.2) (by decide +kernel) rfl trivial ?_
      replace H := Option.some.inj H
      subst H
      exact jS.lret rfl (by decide +kernel)
    · replace H := jif_f c10 H
      obtain ⟨w11, H⟩ := jgd_ok H
      refine jS.adv O [(.aload_n 0, 0, 0, 0, 0, 0, 0)] (pc' := 19) (ls' := [(0, .inr (.inr x0)), (1, .inl x1)]) (st' := [.inr (.inr x0)]) (m2 := t6.2) (by decide +kernel) rfl trivial ?_
      obtain ⟨t13, w12, H⟩ := jb_ok H
      refine jS.step (c' := (22, [(0, .inr (.inr x0)), (1, .inl x1)], [.inr (.inr t13.1)], t13.2)) (jSt.callV (c := 9) (As := []) (rest := []) O (ec_X9_current (d := 7) O (Nat.le_refl _) w12) w11 (by decide) rfl (by omega) jmw_X9_current jmv_X9_current jmn_X9_current (idx := 165) (jW_of 762 (by decide +kernel) rfl) (Nat.le_of_ble_eq_true rfl) (by decide +kernel)) ?_
      obtain ⟨w14, H⟩ := jgd_ok H
      obtain ⟨w15, H⟩ := jgd_ok H
      refine jS.adv O [(.getfield 169, 0, 2, 0, 425, 0, 0), (.getfield 187, 0, 8, 7, 404, 0, 0), (.iload_n 1, 0, 0, 0, 0, 0, 0)] (pc' := 29) (ls' := [(0, .inr (.inr x0)), (1, .inl x1)]) (st' := [.inl x1, .inl (jI t13.2 (jP t13.2 t13.1 0) 7)]) (m2 := t13.2) (by decide +kernel) rfl ⟨w14, w15, trivial⟩ ?_
      obtain ⟨t17, w16, H⟩ := jb_ok H
      refine jS.step (c' := (32, [(0, .inr (.inr x0)), (1, .inl x1)], [.inl t17], t13.2)) (jSt.callS (As := [.inl (jI t13.2 (jP t13.2 t13.1 0) 7), .inl x1]) (rest := []) O (ec_X9_isIn (d := 2) O (Nat.le_refl _) w16) (by omega) jmw_X9_isIn jmv_X9_isIn jmn_X9_isIn (idx := 140) (jW_of 744 (by decide +kernel) rfl) (Nat.le_of_ble_eq_true rfl) (by decide +kernel)) ?_
      refine jS.br (i := .ifCond .ne 7) (P := ¬ t17 = 0) (rest := []) rfl (by decide +kernel) (tgt := 39) (by decide) (fun c18 => ?_) (fun c18 => ?_)
      · replace H := jif_f c18 H
        obtain ⟨w19, H⟩ := jgd_ok H
        refine jS.adv O [(.aload_n 0, 0, 0, 0, 0, 0, 0)] (pc' := 40) (ls' := [(0, .inr (.inr x0)), (1, .inl x1)]) (st' := [.inr (.inr x0)]) (m2 := t13.2) (by decide +kernel) rfl trivial ?_
        obtain ⟨t21, w20, H⟩ := jb_ok H
        refine jS.step (c' := (43, [(0, .inr (.inr x0)), (1, .inl x1)], [.inr (.inr t21.1)], t21.2)) (jSt.callV (c := 9) (As := []) (rest := []) O (ec_X9_current (d := 7) O (Nat.le_refl _) w20) w19 (by decide) rfl (by omega) jmw_X9_current jmv_X9_current jmn_X9_current (idx := 165) (jW_of 762 (by decide +kernel) rfl) (Nat.le_of_ble_eq_true rfl) (by decide +kernel)) ?_
        obtain ⟨w22, H⟩ := jgd_ok H
        obtain ⟨w23, H⟩ := jgd_ok H
        obtain ⟨w24, H⟩ := jgd_ok H
        refine jS.adv O [(.getfield 220, 0, 2, 2, 429, 0, 0), (.iload_n 1, 0, 0, 0, 0, 0, 0), (.laload, 0, 0, 0, 0, 0, 0)] (pc' := 48) (ls' := [(0, .inr (.inr x0)), (1, .inl x1)]) (st' := [.inr (.inl (jL t21.2 (jP t21.2 t21.1 2) x1.toNatClampNeg))]) (m2 := t21.2) (by decide +kernel) rfl ⟨w22, ⟨w23, jib_ok w24⟩, trivial⟩ ?_
        replace H := Option.some.inj H
        subst H
        exact jS.lret rfl (by decide +kernel)
      · replace H := jif_t (Classical.not_not.mp c18) H
        refine jS.adv O [(.ldc2_w 154, 0, 757, 0, 0, 0, (-4611686018427387904 : Int64))] (pc' := 38) (ls' := [(0, .inr (.inr x0)), (1, .inl x1)]) (st' := [.inr (.inl (-4611686018427387904 : Int64))]) (m2 := t13.2) (by decide +kernel) rfl trivial ?_
        replace H := Option.some.inj H
        subst H
        exact jS.lret rfl (by decide +kernel)
def c_X9_space (F : Nat) (m : jMe) (x0 : Nat) : Option (Int64 × jMe) :=
  jgd (jK m x0 = 41) <| jb (c_X9_current F m x0) fun t3 => jgd (jK t3.2 t3.1 = 34) <| jb (c_X2_isTold F t3.2 t3.1) fun t6 => (if t6 = 0 then some ((-4611686018427387904 : Int64), t3.2) else jgd (jK t3.2 x0 = 41) <| jb (c_X9_current F t3.2 x0) fun t10 => jgd (jK t10.2 t10.1 = 34) <| some ((jL t10.2 t10.1 6), t10.2))
theorem ec_X9_space {X : jX} {l : Launch} {d : Nat} (O : jOk X) (hd : 8 ≤ d) {F : Nat} {m : jMe} {x0 : Nat} {r : Int64 × jMe} (H : c_X9_space F m x0 = some r) : jH X l d jm_X9_space [.inr (.inr x0)] m (some (.inr (.inl r.1))) r.2 := by
  refine jH.of jpl_RX9 rfl (Nat.le_of_ble_eq_true rfl) ?_
  show jS X l d jm_X9_space m _ _ (0, [(0, .inr (.inr x0))], [], m)
  unfold c_X9_space at H
  obtain ⟨w1, H⟩ := jgd_ok H
  refine jS.adv O [(.aload_n 0, 0, 0, 0, 0, 0, 0)] (pc' := 1) (ls' := [(0, .inr (.inr x0))]) (st' := [.inr (.inr x0)]) (m2 := m) (by decide +kernel) rfl trivial ?_
  obtain ⟨t3, w2, H⟩ := jb_ok H
  refine jS.step (c' := (4, [(0, .inr (.inr x0))], [.inr (.inr t3.1)], t3.2)) (jSt.callV (c := 9) (As := []) (rest := []) O (ec_X9_current (d := 7) O (Nat.le_refl _) w2) w1 (by decide) rfl (by omega) jmw_X9_current jmv_X9_current jmn_X9_current (idx := 165) (jW_of 762 (by decide +kernel) rfl) (Nat.le_of_ble_eq_true rfl) (by decide +kernel)) ?_
  obtain ⟨w4, H⟩ := jgd_ok H
  obtain ⟨t6, w5, H⟩ := jb_ok H
  refine jS.step (c' := (7, [(0, .inr (.inr x0))], [.inl t6], t3.2)) (jSt.callV (c := 2) (As := []) (rest := []) O (ec_X2_isTold (d := 2) O (Nat.le_refl _) w5) w4 (by decide) rfl (by omega) jmw_X2_isTold jmv_X2_isTold jmn_X2_isTold (idx := 213) (jW_of 1076 (by decide +kernel) rfl) (Nat.le_of_ble_eq_true rfl) (by decide +kernel)) ?_
  refine jS.br (i := .ifCond .eq 13) (P := t6 = 0) (rest := []) rfl (by decide +kernel) (tgt := 20) (by decide) (fun c7 => ?_) (fun c7 => ?_)
  · replace H := jif_t c7 H
    refine jS.adv O [(.ldc2_w 154, 0, 757, 0, 0, 0, (-4611686018427387904 : Int64))] (pc' := 23) (ls' := [(0, .inr (.inr x0))]) (st' := [.inr (.inl (-4611686018427387904 : Int64))]) (m2 := t3.2) (by decide +kernel) rfl trivial ?_
    replace H := Option.some.inj H
    subst H
    exact jS.lret rfl (by decide +kernel)
  · replace H := jif_f c7 H
    obtain ⟨w8, H⟩ := jgd_ok H
    refine jS.adv O [(.aload_n 0, 0, 0, 0, 0, 0, 0)] (pc' := 11) (ls' := [(0, .inr (.inr x0))]) (st' := [.inr (.inr x0)]) (m2 := t3.2) (by decide +kernel) rfl trivial ?_
    obtain ⟨t10, w9, H⟩ := jb_ok H
    refine jS.step (c' := (14, [(0, .inr (.inr x0))], [.inr (.inr t10.1)], t10.2)) (jSt.callV (c := 9) (As := []) (rest := []) O (ec_X9_current (d := 7) O (Nat.le_refl _) w9) w8 (by decide) rfl (by omega) jmw_X9_current jmv_X9_current jmn_X9_current (idx := 165) (jW_of 762 (by decide +kernel) rfl) (Nat.le_of_ble_eq_true rfl) (by decide +kernel)) ?_
    obtain ⟨w11, H⟩ := jgd_ok H
    refine jS.adv O [(.getfield 223, 0, 2, 6, 436, 0, 0), (.goto 6, 0, 23, 0, 0, 0, 0)] (pc' := 23) (ls' := [(0, .inr (.inr x0))]) (st' := [.inr (.inl (jL t10.2 t10.1 6))]) (m2 := t10.2) (by decide +kernel) rfl ⟨w11, trivial⟩ ?_
    replace H := Option.some.inj H
    subst H
    exact jS.lret rfl (by decide +kernel)
def c_X9_answers (F : Nat) (m : jMe) (x0 : Nat) : Option (Int64 × jMe) :=
  jgd (jK m x0 = 41) <| jb (c_X9_current F m x0) fun t3 => jgd (jK t3.2 t3.1 = 34) <| jb (c_X2_isTold F t3.2 t3.1) fun t6 => (if t6 = 0 then some ((-4611686018427387904 : Int64), t3.2) else jgd (jK t3.2 x0 = 41) <| jb (c_X9_current F t3.2 x0) fun t10 => jgd (jK t10.2 t10.1 = 34) <| jb (c_X2_tally F t10.2 t10.1) fun t13 => some (t13.1, t13.2))
theorem ec_X9_answers {X : jX} {l : Launch} {d : Nat} (O : jOk X) (hd : 69 ≤ d) {F : Nat} {m : jMe} {x0 : Nat} {r : Int64 × jMe} (H : c_X9_answers F m x0 = some r) : jH X l d jm_X9_answers [.inr (.inr x0)] m (some (.inr (.inl r.1))) r.2 := by
  refine jH.of jpl_RX9 rfl (Nat.le_of_ble_eq_true rfl) ?_
  show jS X l d jm_X9_answers m _ _ (0, [(0, .inr (.inr x0))], [], m)
  unfold c_X9_answers at H
  obtain ⟨w1, H⟩ := jgd_ok H
  refine jS.adv O [(.aload_n 0, 0, 0, 0, 0, 0, 0)] (pc' := 1) (ls' := [(0, .inr (.inr x0))]) (st' := [.inr (.inr x0)]) (m2 := m) (by decide +kernel) rfl trivial ?_
  obtain ⟨t3, w2, H⟩ := jb_ok H
  refine jS.step (c' := (4, [(0, .inr (.inr x0))], [.inr (.inr t3.1)], t3.2)) (jSt.callV (c := 9) (As := []) (rest := []) O (ec_X9_current (d := 7) O (Nat.le_refl _) w2) w1 (by decide) rfl (by omega) jmw_X9_current jmv_X9_current jmn_X9_current (idx := 165) (jW_of 762 (by decide +kernel) rfl) (Nat.le_of_ble_eq_true rfl) (by decide +kernel)) ?_
  obtain ⟨w4, H⟩ := jgd_ok H
  obtain ⟨t6, w5, H⟩ := jb_ok H
  refine jS.step (c' := (7, [(0, .inr (.inr x0))], [.inl t6], t3.2)) (jSt.callV (c := 2) (As := []) (rest := []) O (ec_X2_isTold (d := 2) O (Nat.le_refl _) w5) w4 (by decide) rfl (by omega) jmw_X2_isTold jmv_X2_isTold jmn_X2_isTold (idx := 213) (jW_of 1076 (by decide +kernel) rfl) (Nat.le_of_ble_eq_true rfl) (by decide +kernel)) ?_
  refine jS.br (i := .ifCond .eq 13) (P := t6 = 0) (rest := []) rfl (by decide +kernel) (tgt := 20) (by decide) (fun c7 => ?_) (fun c7 => ?_)
  · replace H := jif_t c7 H
    refine jS.adv O [(.ldc2_w 154, 0, 757, 0, 0, 0, (-4611686018427387904 : Int64))] (pc' := 23) (ls' := [(0, .inr (.inr x0))]) (st' := [.inr (.inl (-4611686018427387904 : Int64))]) (m2 := t3.2) (by decide +kernel) rfl trivial ?_
    replace H := Option.some.inj H
    subst H
    exact jS.lret rfl (by decide +kernel)
  · replace H := jif_f c7 H
    obtain ⟨w8, H⟩ := jgd_ok H
    refine jS.adv O [(.aload_n 0, 0, 0, 0, 0, 0, 0)] (pc' := 11) (ls' := [(0, .inr (.inr x0))]) (st' := [.inr (.inr x0)]) (m2 := t3.2) (by decide +kernel) rfl trivial ?_
    obtain ⟨t10, w9, H⟩ := jb_ok H
    refine jS.step (c' := (14, [(0, .inr (.inr x0))], [.inr (.inr t10.1)], t10.2)) (jSt.callV (c := 9) (As := []) (rest := []) O (ec_X9_current (d := 7) O (Nat.le_refl _) w9) w8 (by decide) rfl (by omega) jmw_X9_current jmv_X9_current jmn_X9_current (idx := 165) (jW_of 762 (by decide +kernel) rfl) (Nat.le_of_ble_eq_true rfl) (by decide +kernel)) ?_
    obtain ⟨w11, H⟩ := jgd_ok H
    obtain ⟨t13, w12, H⟩ := jb_ok H
    refine jS.step (c' := (17, [(0, .inr (.inr x0))], [.inr (.inl t13.1)], t13.2)) (jSt.callV (c := 2) (As := []) (rest := []) O (ec_X2_tally (d := 68) O (Nat.le_refl _) w12) w11 (by decide) rfl (by omega) jmw_X2_tally jmv_X2_tally jmn_X2_tally (idx := 227) (jW_of 1092 (by decide +kernel) rfl) (Nat.le_of_ble_eq_true rfl) (by decide +kernel)) ?_
    refine jS.adv O [(.goto 6, 0, 23, 0, 0, 0, 0)] (pc' := 23) (ls' := [(0, .inr (.inr x0))]) (st' := [.inr (.inl t13.1)]) (m2 := t13.2) (by decide +kernel) rfl trivial ?_
    replace H := Option.some.inj H
    subst H
    exact jS.lret rfl (by decide +kernel)
def c_X9_at (F : Nat) (m : jMe) (x0 : Nat) (x1 : Int64) (x3 : Int32) : Option (Int32 × jMe) :=
  (if x3 < 0 then some ((-2 : Int32), m) else (if x3 ≤ (7 : Int32) then jgd (jK m x0 = 41) <| (if (jI m x0 15) = 0 then some ((-3 : Int32), m) else jb (c_X9_current F m x0) fun t6 => jgd (jK t6.2 t6.1 = 34) <| (if (jI t6.2 t6.1 5) = 0 then (if (lg_cmp x1 (0 : Int64)) < 0 then some ((-2 : Int32), t6.2) else (if (lg_cmp x1 (jL t6.2 t6.1 6)) < 0 then jb (c_X2_lead F t6.2 t6.1 x1) fun t12 => (if x3 = 0 then (if t12.1 = 0 then some ((0 : Int32), t12.2) else some ((1 : Int32), t12.2)) else (if t12.1 = 0 then some ((-1 : Int32), t12.2) else (if x3 = (1 : Int32) then jgd (jK t12.2 t6.1 = 34) <| jb (c_X2_digits F t12.2 t6.1) fun t21 => some (t21, t12.2) else jgd (jK t12.2 t6.1 = 34) <| jb (c_X2_answerValue F t12.2 t6.1 (x3 - (2 : Int32))) fun t18 => some (t18, t12.2)))) else some ((-2 : Int32), t6.2))) else some ((-5 : Int32), t6.2))) else some ((-2 : Int32), m)))
theorem ec_X9_at {X : jX} {l : Launch} {d : Nat} (O : jOk X) (hd : 8 ≤ d) {F : Nat} {m : jMe} {x0 : Nat} {x1 : Int64} {x3 : Int32} {r : Int32 × jMe} (H : c_X9_at F m x0 x1 x3 = some r) : jH X l d jm_X9_at [.inr (.inr x0), .inr (.inl x1), .inl x3] m (some (.inl r.1)) r.2 := by
  refine jH.of jpl_RX9 rfl (Nat.le_of_ble_eq_true rfl) ?_
  show jS X l d jm_X9_at m _ _ (0, [(0, .inr (.inr x0)), (1, .inr (.inl x1)), (3, .inl x3)], [], m)
  unfold c_X9_at at H
  refine jS.adv O [(.iload_n 3, 0, 0, 0, 0, 0, 0)] (pc' := 1) (ls' := [(0, .inr (.inr x0)), (1, .inr (.inl x1)), (3, .inl x3)]) (st' := [.inl x3]) (m2 := m) (by decide +kernel) rfl trivial ?_
  refine jS.br (i := .ifCond .lt 9) (P := x3 < 0) (rest := []) rfl (by decide +kernel) (tgt := 10) (by decide) (fun c1 => ?_) (fun c1 => ?_)
  · replace H := jif_t c1 H
    refine jS.adv O [(.bipush (-2), 0, 0, 0, 0, (-2 : Int32), 0)] (pc' := 12) (ls' := [(0, .inr (.inr x0)), (1, .inr (.inl x1)), (3, .inl x3)]) (st' := [.inl (-2 : Int32)]) (m2 := m) (by decide +kernel) rfl trivial ?_
    replace H := Option.some.inj H
    subst H
    exact jS.iret rfl (by decide +kernel)
  · replace H := jif_f c1 H
    refine jS.adv O [(.iload_n 3, 0, 0, 0, 0, 0, 0), (.bipush 7, 0, 0, 0, 0, (7 : Int32), 0)] (pc' := 7) (ls' := [(0, .inr (.inr x0)), (1, .inr (.inl x1)), (3, .inl x3)]) (st' := [.inl (7 : Int32), .inl x3]) (m2 := m) (by decide +kernel) rfl trivial ?_
    refine jS.br (i := .if_icmp .le 6) (P := x3 ≤ (7 : Int32)) (rest := []) rfl (by decide +kernel) (tgt := 13) (by decide) (fun c2 => ?_) (fun c2 => ?_)
    · replace H := jif_t c2 H
      obtain ⟨w3, H⟩ := jgd_ok H
      refine jS.adv O [(.aload_n 0, 0, 0, 0, 0, 0, 0), (.getfield 82, 0, 9, 15, 593, 0, 0)] (pc' := 17) (ls' := [(0, .inr (.inr x0)), (1, .inr (.inl x1)), (3, .inl x3)]) (st' := [.inl (jI m x0 15)]) (m2 := m) (by decide +kernel) rfl ⟨w3, trivial⟩ ?_
      refine jS.br (i := .ifCond .ne 6) (P := ¬ (jI m x0 15) = 0) (rest := []) rfl (by decide +kernel) (tgt := 23) (by decide) (fun c4 => ?_) (fun c4 => ?_)
      · replace H := jif_f c4 H
        refine jS.adv O [(.aload_n 0, 0, 0, 0, 0, 0, 0)] (pc' := 24) (ls' := [(0, .inr (.inr x0)), (1, .inr (.inl x1)), (3, .inl x3)]) (st' := [.inr (.inr x0)]) (m2 := m) (by decide +kernel) rfl trivial ?_
        obtain ⟨t6, w5, H⟩ := jb_ok H
        refine jS.step (c' := (27, [(0, .inr (.inr x0)), (1, .inr (.inl x1)), (3, .inl x3)], [.inr (.inr t6.1)], t6.2)) (jSt.callV (c := 9) (As := []) (rest := []) O (ec_X9_current (d := 7) O (Nat.le_refl _) w5) w3 (by decide) rfl (by omega) jmw_X9_current jmv_X9_current jmn_X9_current (idx := 165) (jW_of 762 (by decide +kernel) rfl) (Nat.le_of_ble_eq_true rfl) (by decide +kernel)) ?_
        obtain ⟨w7, H⟩ := jgd_ok H
        refine jS.adv O [(.astore 4, 0, 0, 0, 0, 0, 0), (.aload 4, 0, 0, 0, 0, 0, 0), (.getfield 193, 0, 2, 5, 434, 0, 0)] (pc' := 34) (ls' := [(4, .inr (.inr t6.1)), (0, .inr (.inr x0)), (1, .inr (.inl x1)), (3, .inl x3)]) (st' := [.inl (jI t6.2 t6.1 5)]) (m2 := t6.2) (by decide +kernel) rfl ⟨w7, trivial⟩ ?_
        refine jS.br (i := .ifCond .eq 6) (P := (jI t6.2 t6.1 5) = 0) (rest := []) rfl (by decide +kernel) (tgt := 40) (by decide) (fun c8 => ?_) (fun c8 => ?_)
        · replace H := jif_t c8 H
          refine jS.adv O [(.lload_n 1, 0, 0, 0, 0, 0, 0), (.lconst 0, 0, 0, 0, 0, 0, (0 : Int64)), (.lcmp, 0, 0, 0, 0, 0, 0)] (pc' := 43) (ls' := [(4, .inr (.inr t6.1)), (0, .inr (.inr x0)), (1, .inr (.inl x1)), (3, .inl x3)]) (st' := [.inl (lg_cmp x1 (0 : Int64))]) (m2 := t6.2) (by decide +kernel) rfl trivial ?_
          refine jS.br (i := .ifCond .lt 13) (P := (lg_cmp x1 (0 : Int64)) < 0) (rest := []) rfl (by decide +kernel) (tgt := 56) (by decide) (fun c9 => ?_) (fun c9 => ?_)
          · replace H := jif_t c9 H
            refine jS.adv O [(.bipush (-2), 0, 0, 0, 0, (-2 : Int32), 0)] (pc' := 58) (ls' := [(4, .inr (.inr t6.1)), (0, .inr (.inr x0)), (1, .inr (.inl x1)), (3, .inl x3)]) (st' := [.inl (-2 : Int32)]) (m2 := t6.2) (by decide +kernel) rfl trivial ?_
            replace H := Option.some.inj H
            subst H
            exact jS.iret rfl (by decide +kernel)
          · replace H := jif_f c9 H
            refine jS.adv O [(.lload_n 1, 0, 0, 0, 0, 0, 0), (.aload 4, 0, 0, 0, 0, 0, 0), (.getfield 223, 0, 2, 6, 436, 0, 0), (.lcmp, 0, 0, 0, 0, 0, 0)] (pc' := 53) (ls' := [(4, .inr (.inr t6.1)), (0, .inr (.inr x0)), (1, .inr (.inl x1)), (3, .inl x3)]) (st' := [.inl (lg_cmp x1 (jL t6.2 t6.1 6))]) (m2 := t6.2) (by decide +kernel) rfl ⟨w7, trivial⟩ ?_
            refine jS.br (i := .ifCond .lt 6) (P := (lg_cmp x1 (jL t6.2 t6.1 6)) < 0) (rest := []) rfl (by decide +kernel) (tgt := 59) (by decide) (fun c10 => ?_) (fun c10 => ?_)
            · replace H := jif_t c10 H
              refine jS.adv O [(.aload 4, 0, 0, 0, 0, 0, 0), (.lload_n 1, 0, 0, 0, 0, 0, 0)] (pc' := 62) (ls' := [(4, .inr (.inr t6.1)), (0, .inr (.inr x0)), (1, .inr (.inl x1)), (3, .inl x3)]) (st' := [.inr (.inl x1), .inr (.inr t6.1)]) (m2 := t6.2) (by decide +kernel) rfl trivial ?_
              obtain ⟨t12, w11, H⟩ := jb_ok H
              refine jS.step (c' := (65, [(4, .inr (.inr t6.1)), (0, .inr (.inr x0)), (1, .inr (.inl x1)), (3, .inl x3)], [.inl t12.1], t12.2)) (jSt.callV (c := 2) (As := [.inr (.inl x1)]) (rest := []) O (ec_X2_lead (d := 4) O (Nat.le_refl _) w11) w7 (by decide) rfl (by omega) jmw_X2_lead jmv_X2_lead jmn_X2_lead (idx := 231) (jW_of 1108 (by decide +kernel) rfl) (Nat.le_of_ble_eq_true rfl) (by decide +kernel)) ?_
              refine jS.adv O [(.istore 5, 0, 0, 0, 0, 0, 0), (.iload_n 3, 0, 0, 0, 0, 0, 0)] (pc' := 68) (ls' := [(5, .inl t12.1), (4, .inr (.inr t6.1)), (0, .inr (.inr x0)), (1, .inr (.inl x1)), (3, .inl x3)]) (st' := [.inl x3]) (m2 := t12.2) (by decide +kernel) rfl trivial ?_
              refine jS.br (i := .ifCond .ne 14) (P := ¬ x3 = 0) (rest := []) rfl (by decide +kernel) (tgt := 82) (by decide) (fun c13 => ?_) (fun c13 => ?_)
              · replace H := jif_f c13 H
                refine jS.adv O [(.iload 5, 0, 0, 0, 0, 0, 0)] (pc' := 84) (ls' := [(5, .inl t12.1), (4, .inr (.inr t6.1)), (0, .inr (.inr x0)), (1, .inr (.inl x1)), (3, .inl x3)]) (st' := [.inl t12.1]) (m2 := t12.2) (by decide +kernel) rfl trivial ?_
                refine jS.br (i := .ifCond .ne 5) (P := ¬ t12.1 = 0) (rest := []) rfl (by decide +kernel) (tgt := 89) (by decide) (fun c14 => ?_) (fun c14 => ?_)
                · replace H := jif_f c14 H
                  refine jS.adv O [(.iload_n 3, 0, 0, 0, 0, 0, 0), (.iconst 1, 0, 0, 0, 0, (1 : Int32), 0)] (pc' := 91) (ls' := [(5, .inl t12.1), (4, .inr (.inr t6.1)), (0, .inr (.inr x0)), (1, .inr (.inl x1)), (3, .inl x3)]) (st' := [.inl (1 : Int32), .inl x3]) (m2 := t12.2) (by decide +kernel) rfl trivial ?_
                  refine jS.br (i := .if_icmp .ne 11) (P := ¬ x3 = (1 : Int32)) (rest := []) rfl (by decide +kernel) (tgt := 102) (by decide) (fun c15 => ?_) (fun c15 => ?_)
                  · replace H := jif_f c15 H
                    obtain ⟨w16, H⟩ := jgd_ok H
                    refine jS.adv O [(.aload 4, 0, 0, 0, 0, 0, 0), (.iload_n 3, 0, 0, 0, 0, 0, 0), (.iconst 2, 0, 0, 0, 0, (2 : Int32), 0), (.isub, 0, 0, 0, 0, 0, 0)] (pc' := 107) (ls' := [(5, .inl t12.1), (4, .inr (.inr t6.1)), (0, .inr (.inr x0)), (1, .inr (.inl x1)), (3, .inl x3)]) (st' := [.inl (x3 - (2 : Int32)), .inr (.inr t6.1)]) (m2 := t12.2) (by decide +kernel) rfl trivial ?_
                    obtain ⟨t18, w17, H⟩ := jb_ok H
                    refine jS.step (c' := (110, [(5, .inl t12.1), (4, .inr (.inr t6.1)), (0, .inr (.inr x0)), (1, .inr (.inl x1)), (3, .inl x3)], [.inl t18], t12.2)) (jSt.callV (c := 2) (As := [.inl (x3 - (2 : Int32))]) (rest := []) O (ec_X2_answerValue (d := 2) O (Nat.le_refl _) w17) w16 (by decide) rfl (by omega) jmw_X2_answerValue jmv_X2_answerValue jmn_X2_answerValue (idx := 238) (jW_of 1132 (by decide +kernel) rfl) (Nat.le_of_ble_eq_true rfl) (by decide +kernel)) ?_
                    replace H := Option.some.inj H
                    subst H
                    exact jS.iret rfl (by decide +kernel)
                  · replace H := jif_t (Classical.not_not.mp c15) H
                    obtain ⟨w19, H⟩ := jgd_ok H
                    refine jS.adv O [(.aload 4, 0, 0, 0, 0, 0, 0)] (pc' := 96) (ls' := [(5, .inl t12.1), (4, .inr (.inr t6.1)), (0, .inr (.inr x0)), (1, .inr (.inl x1)), (3, .inl x3)]) (st' := [.inr (.inr t6.1)]) (m2 := t12.2) (by decide +kernel) rfl trivial ?_
                    obtain ⟨t21, w20, H⟩ := jb_ok H
                    refine jS.step (c' := (99, [(5, .inl t12.1), (4, .inr (.inr t6.1)), (0, .inr (.inr x0)), (1, .inr (.inl x1)), (3, .inl x3)], [.inl t21], t12.2)) (jSt.callV (c := 2) (As := []) (rest := []) O (ec_X2_digits (d := 3) O (Nat.le_refl _) w20) w19 (by decide) rfl (by omega) jmw_X2_digits jmv_X2_digits jmn_X2_digits (idx := 235) (jW_of 1128 (by decide +kernel) rfl) (Nat.le_of_ble_eq_true rfl) (by decide +kernel)) ?_
                    refine jS.adv O [(.goto 11, 0, 110, 0, 0, 0, 0)] (pc' := 110) (ls' := [(5, .inl t12.1), (4, .inr (.inr t6.1)), (0, .inr (.inr x0)), (1, .inr (.inl x1)), (3, .inl x3)]) (st' := [.inl t21]) (m2 := t12.2) (by decide +kernel) rfl trivial ?_
                    replace H := Option.some.inj H
                    subst H
                    exact jS.iret rfl (by decide +kernel)
                · replace H := jif_t (Classical.not_not.mp c14) H
                  refine jS.adv O [(.iconst (-1), 0, 0, 0, 0, (-1 : Int32), 0)] (pc' := 88) (ls' := [(5, .inl t12.1), (4, .inr (.inr t6.1)), (0, .inr (.inr x0)), (1, .inr (.inl x1)), (3, .inl x3)]) (st' := [.inl (-1 : Int32)]) (m2 := t12.2) (by decide +kernel) rfl trivial ?_
                  replace H := Option.some.inj H
                  subst H
                  exact jS.iret rfl (by decide +kernel)
              · replace H := jif_t (Classical.not_not.mp c13) H
                refine jS.adv O [(.iload 5, 0, 0, 0, 0, 0, 0)] (pc' := 73) (ls' := [(5, .inl t12.1), (4, .inr (.inr t6.1)), (0, .inr (.inr x0)), (1, .inr (.inl x1)), (3, .inl x3)]) (st' := [.inl t12.1]) (m2 := t12.2) (by decide +kernel) rfl trivial ?_
                refine jS.br (i := .ifCond .eq 7) (P := t12.1 = 0) (rest := []) rfl (by decide +kernel) (tgt := 80) (by decide) (fun c22 => ?_) (fun c22 => ?_)
                · replace H := jif_t c22 H
                  refine jS.adv O [(.iconst 0, 0, 0, 0, 0, (0 : Int32), 0)] (pc' := 81) (ls' := [(5, .inl t12.1), (4, .inr (.inr t6.1)), (0, .inr (.inr x0)), (1, .inr (.inl x1)), (3, .inl x3)]) (st' := [.inl (0 : Int32)]) (m2 := t12.2) (by decide +kernel) rfl trivial ?_
                  replace H := Option.some.inj H
                  subst H
                  exact jS.iret rfl (by decide +kernel)
                · replace H := jif_f c22 H
                  refine jS.adv O [(.iconst 1, 0, 0, 0, 0, (1 : Int32), 0), (.goto 4, 0, 81, 0, 0, 0, 0)] (pc' := 81) (ls' := [(5, .inl t12.1), (4, .inr (.inr t6.1)), (0, .inr (.inr x0)), (1, .inr (.inl x1)), (3, .inl x3)]) (st' := [.inl (1 : Int32)]) (m2 := t12.2) (by decide +kernel) rfl trivial ?_
                  replace H := Option.some.inj H
                  subst H
                  exact jS.iret rfl (by decide +kernel)
            · replace H := jif_f c10 H
              refine jS.adv O [(.bipush (-2), 0, 0, 0, 0, (-2 : Int32), 0)] (pc' := 58) (ls' := [(4, .inr (.inr t6.1)), (0, .inr (.inr x0)), (1, .inr (.inl x1)), (3, .inl x3)]) (st' := [.inl (-2 : Int32)]) (m2 := t6.2) (by decide +kernel) rfl trivial ?_
              replace H := Option.some.inj H
              subst H
              exact jS.iret rfl (by decide +kernel)
        · replace H := jif_f c8 H
          refine jS.adv O [(.bipush (-5), 0, 0, 0, 0, (-5 : Int32), 0)] (pc' := 39) (ls' := [(4, .inr (.inr t6.1)), (0, .inr (.inr x0)), (1, .inr (.inl x1)), (3, .inl x3)]) (st' := [.inl (-5 : Int32)]) (m2 := t6.2) (by decide +kernel) rfl trivial ?_
          replace H := Option.some.inj H
          subst H
          exact jS.iret rfl (by decide +kernel)
      · replace H := jif_t (Classical.not_not.mp c4) H
        refine jS.adv O [(.bipush (-3), 0, 0, 0, 0, (-3 : Int32), 0)] (pc' := 22) (ls' := [(0, .inr (.inr x0)), (1, .inr (.inl x1)), (3, .inl x3)]) (st' := [.inl (-3 : Int32)]) (m2 := m) (by decide +kernel) rfl trivial ?_
        replace H := Option.some.inj H
        subst H
        exact jS.iret rfl (by decide +kernel)
    · replace H := jif_f c2 H
      refine jS.adv O [(.bipush (-2), 0, 0, 0, 0, (-2 : Int32), 0)] (pc' := 12) (ls' := [(0, .inr (.inr x0)), (1, .inr (.inl x1)), (3, .inl x3)]) (st' := [.inl (-2 : Int32)]) (m2 := m) (by decide +kernel) rfl trivial ?_
      replace H := Option.some.inj H
      subst H
      exact jS.iret rfl (by decide +kernel)
def c_X9_find (F : Nat) (m : jMe) (x0 : Nat) (x1 : Int32) : Option (Int64 × jMe) :=
  jgd (jK m x0 = 41) <| jb (c_X9_current F m x0) fun t3 => jgd (jK t3.2 t3.1 = 34) <| jb (c_X2_isTold F t3.2 t3.1) fun t6 => (if t6 = 0 then some ((-4611686018427387904 : Int64), t3.2) else jgd (jK t3.2 x0 = 41) <| jb (c_X9_current F t3.2 x0) fun t10 => jgd (jK t10.2 t10.1 = 34) <| jb (c_X2_placeOf F t10.2 t10.1 x1) fun t13 => some (t13.1, t13.2))
theorem ec_X9_find {X : jX} {l : Launch} {d : Nat} (O : jOk X) (hd : 8 ≤ d) {F : Nat} {m : jMe} {x0 : Nat} {x1 : Int32} {r : Int64 × jMe} (H : c_X9_find F m x0 x1 = some r) : jH X l d jm_X9_find [.inr (.inr x0), .inl x1] m (some (.inr (.inl r.1))) r.2 := by
  refine jH.of jpl_RX9 rfl (Nat.le_of_ble_eq_true rfl) ?_
  show jS X l d jm_X9_find m _ _ (0, [(0, .inr (.inr x0)), (1, .inl x1)], [], m)
  unfold c_X9_find at H
  obtain ⟨w1, H⟩ := jgd_ok H
  refine jS.adv O [(.aload_n 0, 0, 0, 0, 0, 0, 0)] (pc' := 1) (ls' := [(0, .inr (.inr x0)), (1, .inl x1)]) (st' := [.inr (.inr x0)]) (m2 := m) (by decide +kernel) rfl trivial ?_
  obtain ⟨t3, w2, H⟩ := jb_ok H
  refine jS.step (c' := (4, [(0, .inr (.inr x0)), (1, .inl x1)], [.inr (.inr t3.1)], t3.2)) (jSt.callV (c := 9) (As := []) (rest := []) O (ec_X9_current (d := 7) O (Nat.le_refl _) w2) w1 (by decide) rfl (by omega) jmw_X9_current jmv_X9_current jmn_X9_current (idx := 165) (jW_of 762 (by decide +kernel) rfl) (Nat.le_of_ble_eq_true rfl) (by decide +kernel)) ?_
  obtain ⟨w4, H⟩ := jgd_ok H
  obtain ⟨t6, w5, H⟩ := jb_ok H
  refine jS.step (c' := (7, [(0, .inr (.inr x0)), (1, .inl x1)], [.inl t6], t3.2)) (jSt.callV (c := 2) (As := []) (rest := []) O (ec_X2_isTold (d := 2) O (Nat.le_refl _) w5) w4 (by decide) rfl (by omega) jmw_X2_isTold jmv_X2_isTold jmn_X2_isTold (idx := 213) (jW_of 1076 (by decide +kernel) rfl) (Nat.le_of_ble_eq_true rfl) (by decide +kernel)) ?_
  refine jS.br (i := .ifCond .eq 14) (P := t6 = 0) (rest := []) rfl (by decide +kernel) (tgt := 21) (by decide) (fun c7 => ?_) (fun c7 => ?_)
  · replace H := jif_t c7 H
    refine jS.adv O [(.ldc2_w 154, 0, 757, 0, 0, 0, (-4611686018427387904 : Int64))] (pc' := 24) (ls' := [(0, .inr (.inr x0)), (1, .inl x1)]) (st' := [.inr (.inl (-4611686018427387904 : Int64))]) (m2 := t3.2) (by decide +kernel) rfl trivial ?_
    replace H := Option.some.inj H
    subst H
    exact jS.lret rfl (by decide +kernel)
  · replace H := jif_f c7 H
    obtain ⟨w8, H⟩ := jgd_ok H
    refine jS.adv O [(.aload_n 0, 0, 0, 0, 0, 0, 0)] (pc' := 11) (ls' := [(0, .inr (.inr x0)), (1, .inl x1)]) (st' := [.inr (.inr x0)]) (m2 := t3.2) (by decide +kernel) rfl trivial ?_
    obtain ⟨t10, w9, H⟩ := jb_ok H
    refine jS.step (c' := (14, [(0, .inr (.inr x0)), (1, .inl x1)], [.inr (.inr t10.1)], t10.2)) (jSt.callV (c := 9) (As := []) (rest := []) O (ec_X9_current (d := 7) O (Nat.le_refl _) w9) w8 (by decide) rfl (by omega) jmw_X9_current jmv_X9_current jmn_X9_current (idx := 165) (jW_of 762 (by decide +kernel) rfl) (Nat.le_of_ble_eq_true rfl) (by decide +kernel)) ?_
    obtain ⟨w11, H⟩ := jgd_ok H
    refine jS.adv O [(.iload_n 1, 0, 0, 0, 0, 0, 0)] (pc' := 15) (ls' := [(0, .inr (.inr x0)), (1, .inl x1)]) (st' := [.inl x1, .inr (.inr t10.1)]) (m2 := t10.2) (by decide +kernel) rfl trivial ?_
    obtain ⟨t13, w12, H⟩ := jb_ok H
    refine jS.step (c' := (18, [(0, .inr (.inr x0)), (1, .inl x1)], [.inr (.inl t13.1)], t13.2)) (jSt.callV (c := 2) (As := [.inl x1]) (rest := []) O (ec_X2_placeOf (d := 4) O (Nat.le_refl _) w12) w11 (by decide) rfl (by omega) jmw_X2_placeOf jmv_X2_placeOf jmn_X2_placeOf (idx := 241) (jW_of 1140 (by decide +kernel) rfl) (Nat.le_of_ble_eq_true rfl) (by decide +kernel)) ?_
    refine jS.adv O [(.goto 6, 0, 24, 0, 0, 0, 0)] (pc' := 24) (ls' := [(0, .inr (.inr x0)), (1, .inl x1)]) (st' := [.inr (.inl t13.1)]) (m2 := t13.2) (by decide +kernel) rfl trivial ?_
    replace H := Option.some.inj H
    subst H
    exact jS.lret rfl (by decide +kernel)
def c_X9_draw (F : Nat) (m : jMe) (x0 : Nat) (x1 : Int32) (x2 : Int32) : Option (Int32 × jMe) :=
  (if x2 < 0 then some ((-2 : Int32), m) else (if x2 ≤ (1 : Int32) then jgd (jK m x0 = 41) <| (if (jI m x0 15) = 0 then some ((-3 : Int32), m) else jb (c_X9_current F m x0) fun t6 => jgd (jK t6.2 t6.1 = 34) <| (if (jI t6.2 t6.1 5) = 0 then (if (lg_cmp (jL t6.2 t6.1 6) (0 : Int64)) = 0 then some ((-3 : Int32), t6.2) else jb (c_X2_drawn F t6.2 t6.1 x1) fun t11 => (if x2 = 0 then some (t11.1, t11.2) else jgd (jK t11.2 t6.1 = 34) <| some ((jI t11.2 t6.1 7), t11.2))) else some ((-5 : Int32), t6.2))) else some ((-2 : Int32), m)))
theorem ec_X9_draw {X : jX} {l : Launch} {d : Nat} (O : jOk X) (hd : 8 ≤ d) {F : Nat} {m : jMe} {x0 : Nat} {x1 : Int32} {x2 : Int32} {r : Int32 × jMe} (H : c_X9_draw F m x0 x1 x2 = some r) : jH X l d jm_X9_draw [.inr (.inr x0), .inl x1, .inl x2] m (some (.inl r.1)) r.2 := by
  refine jH.of jpl_RX9 rfl (Nat.le_of_ble_eq_true rfl) ?_
  show jS X l d jm_X9_draw m _ _ (0, [(0, .inr (.inr x0)), (1, .inl x1), (2, .inl x2)], [], m)
  unfold c_X9_draw at H
  refine jS.adv O [(.iload_n 2, 0, 0, 0, 0, 0, 0)] (pc' := 1) (ls' := [(0, .inr (.inr x0)), (1, .inl x1), (2, .inl x2)]) (st' := [.inl x2]) (m2 := m) (by decide +kernel) rfl trivial ?_
  refine jS.br (i := .ifCond .lt 8) (P := x2 < 0) (rest := []) rfl (by decide +kernel) (tgt := 9) (by decide) (fun c1 => ?_) (fun c1 => ?_)
  · replace H := jif_t c1 H
    refine jS.adv O [(.bipush (-2), 0, 0, 0, 0, (-2 : Int32), 0)] (pc' := 11) (ls' := [(0, .inr (.inr x0)), (1, .inl x1), (2, .inl x2)]) (st' := [.inl (-2 : Int32)]) (m2 := m) (by decide +kernel) rfl trivial ?_
    replace H := Option.some.inj H
    subst H
    exact jS.iret rfl (by decide +kernel)
  · replace H := jif_f c1 H
    refine jS.adv O [(.iload_n 2, 0, 0, 0, 0, 0, 0), (.iconst 1, 0, 0, 0, 0, (1 : Int32), 0)] (pc' := 6) (ls' := [(0, .inr (.inr x0)), (1, .inl x1), (2, .inl x2)]) (st' := [.inl (1 : Int32), .inl x2]) (m2 := m) (by decide +kernel) rfl trivial ?_
    refine jS.br (i := .if_icmp .le 6) (P := x2 ≤ (1 : Int32)) (rest := []) rfl (by decide +kernel) (tgt := 12) (by decide) (fun c2 => ?_) (fun c2 => ?_)
    · replace H := jif_t c2 H
      obtain ⟨w3, H⟩ := jgd_ok H
      refine jS.adv O [(.aload_n 0, 0, 0, 0, 0, 0, 0), (.getfield 82, 0, 9, 15, 593, 0, 0)] (pc' := 16) (ls' := [(0, .inr (.inr x0)), (1, .inl x1), (2, .inl x2)]) (st' := [.inl (jI m x0 15)]) (m2 := m) (by decide +kernel) rfl ⟨w3, trivial⟩ ?_
      refine jS.br (i := .ifCond .ne 6) (P := ¬ (jI m x0 15) = 0) (rest := []) rfl (by decide +kernel) (tgt := 22) (by decide) (fun c4 => ?_) (fun c4 => ?_)
      · replace H := jif_f c4 H
        refine jS.adv O [(.aload_n 0, 0, 0, 0, 0, 0, 0)] (pc' := 23) (ls' := [(0, .inr (.inr x0)), (1, .inl x1), (2, .inl x2)]) (st' := [.inr (.inr x0)]) (m2 := m) (by decide +kernel) rfl trivial ?_
        obtain ⟨t6, w5, H⟩ := jb_ok H
        refine jS.step (c' := (26, [(0, .inr (.inr x0)), (1, .inl x1), (2, .inl x2)], [.inr (.inr t6.1)], t6.2)) (jSt.callV (c := 9) (As := []) (rest := []) O (ec_X9_current (d := 7) O (Nat.le_refl _) w5) w3 (by decide) rfl (by omega) jmw_X9_current jmv_X9_current jmn_X9_current (idx := 165) (jW_of 762 (by decide +kernel) rfl) (Nat.le_of_ble_eq_true rfl) (by decide +kernel)) ?_
        obtain ⟨w7, H⟩ := jgd_ok H
        refine jS.adv O [(.astore_n 3, 0, 0, 0, 0, 0, 0), (.aload_n 3, 0, 0, 0, 0, 0, 0), (.getfield 193, 0, 2, 5, 434, 0, 0)] (pc' := 31) (ls' := [(3, .inr (.inr t6.1)), (0, .inr (.inr x0)), (1, .inl x1), (2, .inl x2)]) (st' := [.inl (jI t6.2 t6.1 5)]) (m2 := t6.2) (by decide +kernel) rfl ⟨w7, trivial⟩ ?_
        refine jS.br (i := .ifCond .eq 6) (P := (jI t6.2 t6.1 5) = 0) (rest := []) rfl (by decide +kernel) (tgt := 37) (by decide) (fun c8 => ?_) (fun c8 => ?_)
        · replace H := jif_t c8 H
          refine jS.adv O [(.aload_n 3, 0, 0, 0, 0, 0, 0), (.getfield 223, 0, 2, 6, 436, 0, 0), (.lconst 0, 0, 0, 0, 0, 0, (0 : Int64)), (.lcmp, 0, 0, 0, 0, 0, 0)] (pc' := 43) (ls' := [(3, .inr (.inr t6.1)), (0, .inr (.inr x0)), (1, .inl x1), (2, .inl x2)]) (st' := [.inl (lg_cmp (jL t6.2 t6.1 6) (0 : Int64))]) (m2 := t6.2) (by decide +kernel) rfl ⟨w7, trivial⟩ ?_
          refine jS.br (i := .ifCond .ne 6) (P := ¬ (lg_cmp (jL t6.2 t6.1 6) (0 : Int64)) = 0) (rest := []) rfl (by decide +kernel) (tgt := 49) (by decide) (fun c9 => ?_) (fun c9 => ?_)
          · replace H := jif_f c9 H
            refine jS.adv O [(.aload_n 3, 0, 0, 0, 0, 0, 0), (.iload_n 1, 0, 0, 0, 0, 0, 0)] (pc' := 51) (ls' := [(3, .inr (.inr t6.1)), (0, .inr (.inr x0)), (1, .inl x1), (2, .inl x2)]) (st' := [.inl x1, .inr (.inr t6.1)]) (m2 := t6.2) (by decide +kernel) rfl trivial ?_
            obtain ⟨t11, w10, H⟩ := jb_ok H
            refine jS.step (c' := (54, [(3, .inr (.inr t6.1)), (0, .inr (.inr x0)), (1, .inl x1), (2, .inl x2)], [.inl t11.1], t11.2)) (jSt.callV (c := 2) (As := [.inl x1]) (rest := []) O (ec_X2_drawn (d := 5) O (Nat.le_refl _) w10) w7 (by decide) rfl (by omega) jmw_X2_drawn jmv_X2_drawn jmn_X2_drawn (idx := 244) (jW_of 1161 (by decide +kernel) rfl) (Nat.le_of_ble_eq_true rfl) (by decide +kernel)) ?_
            refine jS.adv O [(.istore 4, 0, 0, 0, 0, 0, 0), (.iload_n 2, 0, 0, 0, 0, 0, 0)] (pc' := 57) (ls' := [(4, .inl t11.1), (3, .inr (.inr t6.1)), (0, .inr (.inr x0)), (1, .inl x1), (2, .inl x2)]) (st' := [.inl x2]) (m2 := t11.2) (by decide +kernel) rfl trivial ?_
            refine jS.br (i := .ifCond .ne 8) (P := ¬ x2 = 0) (rest := []) rfl (by decide +kernel) (tgt := 65) (by decide) (fun c12 => ?_) (fun c12 => ?_)
            · replace H := jif_f c12 H
              obtain ⟨w13, H⟩ := jgd_ok H
              refine jS.adv O [(.aload_n 3, 0, 0, 0, 0, 0, 0), (.getfield 247, 0, 2, 7, 438, 0, 0)] (pc' := 69) (ls' := [(4, .inl t11.1), (3, .inr (.inr t6.1)), (0, .inr (.inr x0)), (1, .inl x1), (2, .inl x2)]) (st' := [.inl (jI t11.2 t6.1 7)]) (m2 := t11.2) (by decide +kernel) rfl ⟨w13, trivial⟩ ?_
              replace H := Option.some.inj H
              subst H
              exact jS.iret rfl (by decide +kernel)
            · replace H := jif_t (Classical.not_not.mp c12) H
              refine jS.adv O [(.iload 4, 0, 0, 0, 0, 0, 0), (.goto 7, 0, 69, 0, 0, 0, 0)] (pc' := 69) (ls' := [(4, .inl t11.1), (3, .inr (.inr t6.1)), (0, .inr (.inr x0)), (1, .inl x1), (2, .inl x2)]) (st' := [.inl t11.1]) (m2 := t11.2) (by decide +kernel) rfl trivial ?_
              replace H := Option.some.inj H
              subst H
              exact jS.iret rfl (by decide +kernel)
          · replace H := jif_t (Classical.not_not.mp c9) H
            refine jS.adv O [(.bipush (-3), 0, 0, 0, 0, (-3 : Int32), 0)] (pc' := 48) (ls' := [(3, .inr (.inr t6.1)), (0, .inr (.inr x0)), (1, .inl x1), (2, .inl x2)]) (st' := [.inl (-3 : Int32)]) (m2 := t6.2) (by decide +kernel) rfl trivial ?_
            replace H := Option.some.inj H
            subst H
            exact jS.iret rfl (by decide +kernel)
        · replace H := jif_f c8 H
          refine jS.adv O [(.bipush (-5), 0, 0, 0, 0, (-5 : Int32), 0)] (pc' := 36) (ls' := [(3, .inr (.inr t6.1)), (0, .inr (.inr x0)), (1, .inl x1), (2, .inl x2)]) (st' := [.inl (-5 : Int32)]) (m2 := t6.2) (by decide +kernel) rfl trivial ?_
          replace H := Option.some.inj H
          subst H
          exact jS.iret rfl (by decide +kernel)
      · replace H := jif_t (Classical.not_not.mp c4) H
        refine jS.adv O [(.bipush (-3), 0, 0, 0, 0, (-3 : Int32), 0)] (pc' := 21) (ls' := [(0, .inr (.inr x0)), (1, .inl x1), (2, .inl x2)]) (st' := [.inl (-3 : Int32)]) (m2 := m) (by decide +kernel) rfl trivial ?_
        replace H := Option.some.inj H
        subst H
        exact jS.iret rfl (by decide +kernel)
    · replace H := jif_f c2 H
      refine jS.adv O [(.bipush (-2), 0, 0, 0, 0, (-2 : Int32), 0)] (pc' := 11) (ls' := [(0, .inr (.inr x0)), (1, .inl x1), (2, .inl x2)]) (st' := [.inl (-2 : Int32)]) (m2 := m) (by decide +kernel) rfl trivial ?_
      replace H := Option.some.inj H
      subst H
      exact jS.iret rfl (by decide +kernel)
def c_X9_shuffle (F : Nat) (m : jMe) (x0 : Nat) (x1 : Int32) (x2 : Int32) (x3 : Int32) : Option (Int64 × jMe) :=
  (if x2 < (1 : Int32) then some ((-4611686018427387904 : Int64), m) else (if (8 : Int32) < x2 then some ((-4611686018427387904 : Int64), m) else (if x3 < 0 then some ((-4611686018427387904 : Int64), m) else (if x2 ≤ x3 then some ((-4611686018427387904 : Int64), m) else jgd (jK m x0 = 41) <| jb (c_X9_current F m x0) fun t7 => jgd (jK t7.2 t7.1 = 34) <| jb (c_X2_isTold F t7.2 t7.1) fun t10 => (if t10 = 0 then some ((-4611686018427387904 : Int64), t7.2) else jgd (jK t7.2 x0 = 41) <| jb (c_X9_current F t7.2 x0) fun t14 => jgd (jK t14.2 t14.1 = 34) <| (if 0 ≤ (lg_cmp (jL t14.2 t14.1 6) (Int32.toInt64 x2)) then jgd (jK t14.2 x0 = 41) <| jb (c_X9_current F t14.2 x0) fun t19 => jgd (jK t19.2 t19.1 = 34) <| jgd (jK t19.2 (jP t14.2 x0 5) = 38) <| jb (c_X6_placed F t19.2 (jP t14.2 x0 5) x1 (jL t19.2 t19.1 6) x3) fun t23 => some (t23.1, t23.2) else some ((-4611686018427387904 : Int64), t14.2)))))))
theorem ec_X9_shuffle {X : jX} {l : Launch} {d : Nat} (O : jOk X) (hd : 8 ≤ d) {F : Nat} {m : jMe} {x0 : Nat} {x1 : Int32} {x2 : Int32} {x3 : Int32} {r : Int64 × jMe} (H : c_X9_shuffle F m x0 x1 x2 x3 = some r) : jH X l d jm_X9_shuffle [.inr (.inr x0), .inl x1, .inl x2, .inl x3] m (some (.inr (.inl r.1))) r.2 := by
  refine jH.of jpl_RX9 rfl (Nat.le_of_ble_eq_true rfl) ?_
  show jS X l d jm_X9_shuffle m _ _ (0, [(0, .inr (.inr x0)), (1, .inl x1), (2, .inl x2), (3, .inl x3)], [], m)
  unfold c_X9_shuffle at H
  refine jS.adv O [(.iload_n 2, 0, 0, 0, 0, 0, 0), (.iconst 1, 0, 0, 0, 0, (1 : Int32), 0)] (pc' := 2) (ls' := [(0, .inr (.inr x0)), (1, .inl x1), (2, .inl x2), (3, .inl x3)]) (st' := [.inl (1 : Int32), .inl x2]) (m2 := m) (by decide +kernel) rfl trivial ?_
  refine jS.br (i := .if_icmp .lt 41) (P := x2 < (1 : Int32)) (rest := []) rfl (by decide +kernel) (tgt := 43) (by decide) (fun c1 => ?_) (fun c1 => ?_)
  · replace H := jif_t c1 H
    refine jS.adv O [(.ldc2_w 154, 0, 757, 0, 0, 0, (-4611686018427387904 : Int64))] (pc' := 46) (ls' := [(0, .inr (.inr x0)), (1, .inl x1), (2, .inl x2), (3, .inl x3)]) (st' := [.inr (.inl (-4611686018427387904 : Int64))]) (m2 := m) (by decide +kernel) rfl trivial ?_
    replace H := Option.some.inj H
    subst H
    exact jS.lret rfl (by decide +kernel)
  · replace H := jif_f c1 H
    refine jS.adv O [(.iload_n 2, 0, 0, 0, 0, 0, 0), (.bipush 8, 0, 0, 0, 0, (8 : Int32), 0)] (pc' := 8) (ls' := [(0, .inr (.inr x0)), (1, .inl x1), (2, .inl x2), (3, .inl x3)]) (st' := [.inl (8 : Int32), .inl x2]) (m2 := m) (by decide +kernel) rfl trivial ?_
    refine jS.br (i := .if_icmp .gt 35) (P := (8 : Int32) < x2) (rest := []) rfl (by decide +kernel) (tgt := 43) (by decide) (fun c2 => ?_) (fun c2 => ?_)
    · replace H := jif_t c2 H
      refine jS.adv O [(.ldc2_w 154, 0, 757, 0, 0, 0, (-4611686018427387904 : Int64))] (pc' := 46) (ls' := [(0, .inr (.inr x0)), (1, .inl x1), (2, .inl x2), (3, .inl x3)]) (st' := [.inr (.inl (-4611686018427387904 : Int64))]) (m2 := m) (by decide +kernel) rfl trivial ?_
      replace H := Option.some.inj H
      subst H
      exact jS.lret rfl (by decide +kernel)
    · replace H := jif_f c2 H
      refine jS.adv O [(.iload_n 3, 0, 0, 0, 0, 0, 0)] (pc' := 12) (ls' := [(0, .inr (.inr x0)), (1, .inl x1), (2, .inl x2), (3, .inl x3)]) (st' := [.inl x3]) (m2 := m) (by decide +kernel) rfl trivial ?_
      refine jS.br (i := .ifCond .lt 31) (P := x3 < 0) (rest := []) rfl (by decide +kernel) (tgt := 43) (by decide) (fun c3 => ?_) (fun c3 => ?_)
      · replace H := jif_t c3 H
        refine jS.adv O [(.ldc2_w 154, 0, 757, 0, 0, 0, (-4611686018427387904 : Int64))] (pc' := 46) (ls' := [(0, .inr (.inr x0)), (1, .inl x1), (2, .inl x2), (3, .inl x3)]) (st' := [.inr (.inl (-4611686018427387904 : Int64))]) (m2 := m) (by decide +kernel) rfl trivial ?_
        replace H := Option.some.inj H
        subst H
        exact jS.lret rfl (by decide +kernel)
      · replace H := jif_f c3 H
        refine jS.adv O [(.iload_n 3, 0, 0, 0, 0, 0, 0), (.iload_n 2, 0, 0, 0, 0, 0, 0)] (pc' := 17) (ls' := [(0, .inr (.inr x0)), (1, .inl x1), (2, .inl x2), (3, .inl x3)]) (st' := [.inl x2, .inl x3]) (m2 := m) (by decide +kernel) rfl trivial ?_
        refine jS.br (i := .if_icmp .ge 26) (P := x2 ≤ x3) (rest := []) rfl (by decide +kernel) (tgt := 43) (by decide) (fun c4 => ?_) (fun c4 => ?_)
        · replace H := jif_t c4 H
          refine jS.adv O [(.ldc2_w 154, 0, 757, 0, 0, 0, (-4611686018427387904 : Int64))] (pc' := 46) (ls' := [(0, .inr (.inr x0)), (1, .inl x1), (2, .inl x2), (3, .inl x3)]) (st' := [.inr (.inl (-4611686018427387904 : Int64))]) (m2 := m) (by decide +kernel) rfl trivial ?_
          replace H := Option.some.inj H
          subst H
          exact jS.lret rfl (by decide +kernel)
        · replace H := jif_f c4 H
          obtain ⟨w5, H⟩ := jgd_ok H
          refine jS.adv O [(.aload_n 0, 0, 0, 0, 0, 0, 0)] (pc' := 21) (ls' := [(0, .inr (.inr x0)), (1, .inl x1), (2, .inl x2), (3, .inl x3)]) (st' := [.inr (.inr x0)]) (m2 := m) (by decide +kernel) rfl trivial ?_
          obtain ⟨t7, w6, H⟩ := jb_ok H
          refine jS.step (c' := (24, [(0, .inr (.inr x0)), (1, .inl x1), (2, .inl x2), (3, .inl x3)], [.inr (.inr t7.1)], t7.2)) (jSt.callV (c := 9) (As := []) (rest := []) O (ec_X9_current (d := 7) O (Nat.le_refl _) w6) w5 (by decide) rfl (by omega) jmw_X9_current jmv_X9_current jmn_X9_current (idx := 165) (jW_of 762 (by decide +kernel) rfl) (Nat.le_of_ble_eq_true rfl) (by decide +kernel)) ?_
          obtain ⟨w8, H⟩ := jgd_ok H
          obtain ⟨t10, w9, H⟩ := jb_ok H
          refine jS.step (c' := (27, [(0, .inr (.inr x0)), (1, .inl x1), (2, .inl x2), (3, .inl x3)], [.inl t10], t7.2)) (jSt.callV (c := 2) (As := []) (rest := []) O (ec_X2_isTold (d := 2) O (Nat.le_refl _) w9) w8 (by decide) rfl (by omega) jmw_X2_isTold jmv_X2_isTold jmn_X2_isTold (idx := 213) (jW_of 1076 (by decide +kernel) rfl) (Nat.le_of_ble_eq_true rfl) (by decide +kernel)) ?_
          refine jS.br (i := .ifCond .eq 16) (P := t10 = 0) (rest := []) rfl (by decide +kernel) (tgt := 43) (by decide) (fun c11 => ?_) (fun c11 => ?_)
          · replace H := jif_t c11 H
            refine jS.adv O [(.ldc2_w 154, 0, 757, 0, 0, 0, (-4611686018427387904 : Int64))] (pc' := 46) (ls' := [(0, .inr (.inr x0)), (1, .inl x1), (2, .inl x2), (3, .inl x3)]) (st' := [.inr (.inl (-4611686018427387904 : Int64))]) (m2 := t7.2) (by decide +kernel) rfl trivial ?_
            replace H := Option.some.inj H
            subst H
            exact jS.lret rfl (by decide +kernel)
          · replace H := jif_f c11 H
            obtain ⟨w12, H⟩ := jgd_ok H
            refine jS.adv O [(.aload_n 0, 0, 0, 0, 0, 0, 0)] (pc' := 31) (ls' := [(0, .inr (.inr x0)), (1, .inl x1), (2, .inl x2), (3, .inl x3)]) (st' := [.inr (.inr x0)]) (m2 := t7.2) (by decide +kernel) rfl trivial ?_
            obtain ⟨t14, w13, H⟩ := jb_ok H
            refine jS.step (c' := (34, [(0, .inr (.inr x0)), (1, .inl x1), (2, .inl x2), (3, .inl x3)], [.inr (.inr t14.1)], t14.2)) (jSt.callV (c := 9) (As := []) (rest := []) O (ec_X9_current (d := 7) O (Nat.le_refl _) w13) w12 (by decide) rfl (by omega) jmw_X9_current jmv_X9_current jmn_X9_current (idx := 165) (jW_of 762 (by decide +kernel) rfl) (Nat.le_of_ble_eq_true rfl) (by decide +kernel)) ?_
            obtain ⟨w15, H⟩ := jgd_ok H
            refine jS.adv O [(.getfield 223, 0, 2, 6, 436, 0, 0), (.iload_n 2, 0, 0, 0, 0, 0, 0), (.i2l, 0, 0, 0, 0, 0, 0), (.lcmp, 0, 0, 0, 0, 0, 0)] (pc' := 40) (ls' := [(0, .inr (.inr x0)), (1, .inl x1), (2, .inl x2), (3, .inl x3)]) (st' := [.inl (lg_cmp (jL t14.2 t14.1 6) (Int32.toInt64 x2))]) (m2 := t14.2) (by decide +kernel) rfl ⟨w15, trivial⟩ ?_
            refine jS.br (i := .ifCond .ge 7) (P := 0 ≤ (lg_cmp (jL t14.2 t14.1 6) (Int32.toInt64 x2))) (rest := []) rfl (by decide +kernel) (tgt := 47) (by decide) (fun c16 => ?_) (fun c16 => ?_)
            · replace H := jif_t c16 H
              obtain ⟨w17, H⟩ := jgd_ok H
              refine jS.adv O [(.aload_n 0, 0, 0, 0, 0, 0, 0), (.getfield 44, 0, 9, 5, 583, 0, 0), (.iload_n 1, 0, 0, 0, 0, 0, 0), (.aload_n 0, 0, 0, 0, 0, 0, 0)] (pc' := 53) (ls' := [(0, .inr (.inr x0)), (1, .inl x1), (2, .inl x2), (3, .inl x3)]) (st' := [.inr (.inr x0), .inl x1, .inr (.inr (jP t14.2 x0 5))]) (m2 := t14.2) (by decide +kernel) rfl ⟨w17, trivial⟩ ?_
              obtain ⟨t19, w18, H⟩ := jb_ok H
              refine jS.step (c' := (56, [(0, .inr (.inr x0)), (1, .inl x1), (2, .inl x2), (3, .inl x3)], [.inr (.inr t19.1), .inl x1, .inr (.inr (jP t14.2 x0 5))], t19.2)) (jSt.callV (c := 9) (As := []) (rest := [.inl x1, .inr (.inr (jP t14.2 x0 5))]) O (ec_X9_current (d := 7) O (Nat.le_refl _) w18) w17 (by decide) rfl (by omega) jmw_X9_current jmv_X9_current jmn_X9_current (idx := 165) (jW_of 762 (by decide +kernel) rfl) (Nat.le_of_ble_eq_true rfl) (by decide +kernel)) ?_
              obtain ⟨w20, H⟩ := jgd_ok H
              obtain ⟨w21, H⟩ := jgd_ok H
              refine jS.adv O [(.getfield 223, 0, 2, 6, 436, 0, 0), (.iload_n 3, 0, 0, 0, 0, 0, 0)] (pc' := 60) (ls' := [(0, .inr (.inr x0)), (1, .inl x1), (2, .inl x2), (3, .inl x3)]) (st' := [.inl x3, .inr (.inl (jL t19.2 t19.1 6)), .inl x1, .inr (.inr (jP t14.2 x0 5))]) (m2 := t19.2) (by decide +kernel) rfl ⟨w20, trivial⟩ ?_
              obtain ⟨t23, w22, H⟩ := jb_ok H
              refine jS.step (c' := (63, [(0, .inr (.inr x0)), (1, .inl x1), (2, .inl x2), (3, .inl x3)], [.inr (.inl t23.1)], t23.2)) (jSt.callV (c := 6) (As := [.inl x1, .inr (.inl (jL t19.2 t19.1 6)), .inl x3]) (rest := []) O (ec_X6_placed (d := 4) O (Nat.le_refl _) w22) w21 (by decide) rfl (by omega) jmw_X6_placed jmv_X6_placed jmn_X6_placed (idx := 250) (jW_of 1184 (by decide +kernel) rfl) (Nat.le_of_ble_eq_true rfl) (by decide +kernel)) ?_
              replace H := Option.some.inj H
              subst H
              exact jS.lret rfl (by decide +kernel)
            · replace H := jif_f c16 H
              refine jS.adv O [(.ldc2_w 154, 0, 757, 0, 0, 0, (-4611686018427387904 : Int64))] (pc' := 46) (ls' := [(0, .inr (.inr x0)), (1, .inl x1), (2, .inl x2), (3, .inl x3)]) (st' := [.inr (.inl (-4611686018427387904 : Int64))]) (m2 := t14.2) (by decide +kernel) rfl trivial ?_
              replace H := Option.some.inj H
              subst H
              exact jS.lret rfl (by decide +kernel)
def c_X9_odds (F : Nat) (m : jMe) (x0 : Nat) (x1 : Int32) (x2 : Int32) (x3 : Int32) : Option (Int64 × jMe) :=
  jgd (jK m x0 = 41) <| jb (c_X9_isRow F m x0 x1 x2) fun t3 => (if t3 = 0 then some ((-4611686018427387904 : Int64), m) else jb (c_X9_isPart F m x3) fun t6 => (if t6 = 0 then some ((-4611686018427387904 : Int64), m) else jb (c_X9_isAsked F m x0 x1) fun t9 => (if t9 = 0 then some ((-4611686018427387904 : Int64), m) else jb (c_X9_current F m x0) fun t12 => jgd (jK t12.2 t12.1 = 34) <| jb (c_X2_isTold F t12.2 t12.1) fun t15 => (if t15 = 0 then some ((-4611686018427387904 : Int64), t12.2) else jgd (jK t12.2 x0 = 41) <| jb (c_X9_current F t12.2 x0) fun t19 => jgd (jK t19.2 t19.1 = 34) <| jb (c_X2_tally F t19.2 t19.1) fun t22 => (if (lg_cmp t22.1 (0 : Int64)) = 0 then some ((-4611686018427387904 : Int64), t22.2) else jgd (jK t22.2 t19.1 = 34) <| jgd (jK t22.2 (jP t22.2 t19.1 4) = 2) <| jgd (jin ((x1 * (8 : Int32)) + x2) (jZ t22.2 (jP t22.2 t19.1 4)) = true) <| jb (c_X9_partOf F t22.2 (jL t22.2 (jP t22.2 t19.1 4) ((x1 * (8 : Int32)) + x2).toNatClampNeg) t22.1 x3) fun t28 => some (t28, t22.2))))))
theorem ec_X9_odds {X : jX} {l : Launch} {d : Nat} (O : jOk X) (hd : 69 ≤ d) {F : Nat} {m : jMe} {x0 : Nat} {x1 : Int32} {x2 : Int32} {x3 : Int32} {r : Int64 × jMe} (H : c_X9_odds F m x0 x1 x2 x3 = some r) : jH X l d jm_X9_odds [.inr (.inr x0), .inl x1, .inl x2, .inl x3] m (some (.inr (.inl r.1))) r.2 := by
  refine jH.of jpl_RX9 rfl (Nat.le_of_ble_eq_true rfl) ?_
  show jS X l d jm_X9_odds m _ _ (0, [(0, .inr (.inr x0)), (1, .inl x1), (2, .inl x2), (3, .inl x3)], [], m)
  unfold c_X9_odds at H
  obtain ⟨w1, H⟩ := jgd_ok H
  refine jS.adv O [(.aload_n 0, 0, 0, 0, 0, 0, 0), (.iload_n 1, 0, 0, 0, 0, 0, 0), (.iload_n 2, 0, 0, 0, 0, 0, 0)] (pc' := 3) (ls' := [(0, .inr (.inr x0)), (1, .inl x1), (2, .inl x2), (3, .inl x3)]) (st' := [.inl x2, .inl x1, .inr (.inr x0)]) (m2 := m) (by decide +kernel) rfl trivial ?_
  obtain ⟨t3, w2, H⟩ := jb_ok H
  refine jS.step (c' := (6, [(0, .inr (.inr x0)), (1, .inl x1), (2, .inl x2), (3, .inl x3)], [.inl t3], m)) (jSt.callV (c := 9) (As := [.inl x1, .inl x2]) (rest := []) O (ec_X9_isRow (d := 3) O (Nat.le_refl _) w2) w1 (by decide) rfl (by omega) jmw_X9_isRow jmv_X9_isRow jmn_X9_isRow (idx := 108) (jW_of 703 (by decide +kernel) rfl) (Nat.le_of_ble_eq_true rfl) (by decide +kernel)) ?_
  refine jS.br (i := .ifCond .eq 28) (P := t3 = 0) (rest := []) rfl (by decide +kernel) (tgt := 34) (by decide) (fun c4 => ?_) (fun c4 => ?_)
  · replace H := jif_t c4 H
    refine jS.adv O [(.ldc2_w 154, 0, 757, 0, 0, 0, (-4611686018427387904 : Int64))] (pc' := 37) (ls' := [(0, .inr (.inr x0)), (1, .inl x1), (2, .inl x2), (3, .inl x3)]) (st' := [.inr (.inl (-4611686018427387904 : Int64))]) (m2 := m) (by decide +kernel) rfl trivial ?_
    replace H := Option.some.inj H
    subst H
    exact jS.lret rfl (by decide +kernel)
  · replace H := jif_f c4 H
    refine jS.adv O [(.iload_n 3, 0, 0, 0, 0, 0, 0)] (pc' := 10) (ls' := [(0, .inr (.inr x0)), (1, .inl x1), (2, .inl x2), (3, .inl x3)]) (st' := [.inl x3]) (m2 := m) (by decide +kernel) rfl trivial ?_
    obtain ⟨t6, w5, H⟩ := jb_ok H
    refine jS.step (c' := (13, [(0, .inr (.inr x0)), (1, .inl x1), (2, .inl x2), (3, .inl x3)], [.inl t6], m)) (jSt.callS (As := [.inl x3]) (rest := []) O (ec_X9_isPart (d := 2) O (Nat.le_refl _) w5) (by omega) jmw_X9_isPart jmv_X9_isPart jmn_X9_isPart (idx := 254) (jW_of 1199 (by decide +kernel) rfl) (Nat.le_of_ble_eq_true rfl) (by decide +kernel)) ?_
    refine jS.br (i := .ifCond .eq 21) (P := t6 = 0) (rest := []) rfl (by decide +kernel) (tgt := 34) (by decide) (fun c7 => ?_) (fun c7 => ?_)
    · replace H := jif_t c7 H
      refine jS.adv O [(.ldc2_w 154, 0, 757, 0, 0, 0, (-4611686018427387904 : Int64))] (pc' := 37) (ls' := [(0, .inr (.inr x0)), (1, .inl x1), (2, .inl x2), (3, .inl x3)]) (st' := [.inr (.inl (-4611686018427387904 : Int64))]) (m2 := m) (by decide +kernel) rfl trivial ?_
      replace H := Option.some.inj H
      subst H
      exact jS.lret rfl (by decide +kernel)
    · replace H := jif_f c7 H
      refine jS.adv O [(.aload_n 0, 0, 0, 0, 0, 0, 0), (.iload_n 1, 0, 0, 0, 0, 0, 0)] (pc' := 18) (ls' := [(0, .inr (.inr x0)), (1, .inl x1), (2, .inl x2), (3, .inl x3)]) (st' := [.inl x1, .inr (.inr x0)]) (m2 := m) (by decide +kernel) rfl trivial ?_
      obtain ⟨t9, w8, H⟩ := jb_ok H
      refine jS.step (c' := (21, [(0, .inr (.inr x0)), (1, .inl x1), (2, .inl x2), (3, .inl x3)], [.inl t9], m)) (jSt.callV (c := 9) (As := [.inl x1]) (rest := []) O (ec_X9_isAsked (d := 3) O (Nat.le_refl _) w8) w1 (by decide) rfl (by omega) jmw_X9_isAsked jmv_X9_isAsked jmn_X9_isAsked (idx := 257) (jW_of 841 (by decide +kernel) rfl) (Nat.le_of_ble_eq_true rfl) (by decide +kernel)) ?_
      refine jS.br (i := .ifCond .eq 13) (P := t9 = 0) (rest := []) rfl (by decide +kernel) (tgt := 34) (by decide) (fun c10 => ?_) (fun c10 => ?_)
      · replace H := jif_t c10 H
        refine jS.adv O [(.ldc2_w 154, 0, 757, 0, 0, 0, (-4611686018427387904 : Int64))] (pc' := 37) (ls' := [(0, .inr (.inr x0)), (1, .inl x1), (2, .inl x2), (3, .inl x3)]) (st' := [.inr (.inl (-4611686018427387904 : Int64))]) (m2 := m) (by decide +kernel) rfl trivial ?_
        replace H := Option.some.inj H
        subst H
        exact jS.lret rfl (by decide +kernel)
      · replace H := jif_f c10 H
        refine jS.adv O [(.aload_n 0, 0, 0, 0, 0, 0, 0)] (pc' := 25) (ls' := [(0, .inr (.inr x0)), (1, .inl x1), (2, .inl x2), (3, .inl x3)]) (st' := [.inr (.inr x0)]) (m2 := m) (by decide +kernel) rfl trivial ?_
        obtain ⟨t12, w11, H⟩ := jb_ok H
        refine jS.step (c' := (28, [(0, .inr (.inr x0)), (1, .inl x1), (2, .inl x2), (3, .inl x3)], [.inr (.inr t12.1)], t12.2)) (jSt.callV (c := 9) (As := []) (rest := []) O (ec_X9_current (d := 7) O (Nat.le_refl _) w11) w1 (by decide) rfl (by omega) jmw_X9_current jmv_X9_current jmn_X9_current (idx := 165) (jW_of 762 (by decide +kernel) rfl) (Nat.le_of_ble_eq_true rfl) (by decide +kernel)) ?_
        obtain ⟨w13, H⟩ := jgd_ok H
        obtain ⟨t15, w14, H⟩ := jb_ok H
        refine jS.step (c' := (31, [(0, .inr (.inr x0)), (1, .inl x1), (2, .inl x2), (3, .inl x3)], [.inl t15], t12.2)) (jSt.callV (c := 2) (As := []) (rest := []) O (ec_X2_isTold (d := 2) O (Nat.le_refl _) w14) w13 (by decide) rfl (by omega) jmw_X2_isTold jmv_X2_isTold jmn_X2_isTold (idx := 213) (jW_of 1076 (by decide +kernel) rfl) (Nat.le_of_ble_eq_true rfl) (by decide +kernel)) ?_
        refine jS.br (i := .ifCond .ne 7) (P := ¬ t15 = 0) (rest := []) rfl (by decide +kernel) (tgt := 38) (by decide) (fun c16 => ?_) (fun c16 => ?_)
        · replace H := jif_f c16 H
          obtain ⟨w17, H⟩ := jgd_ok H
          refine jS.adv O [(.aload_n 0, 0, 0, 0, 0, 0, 0)] (pc' := 39) (ls' := [(0, .inr (.inr x0)), (1, .inl x1), (2, .inl x2), (3, .inl x3)]) (st' := [.inr (.inr x0)]) (m2 := t12.2) (by decide +kernel) rfl trivial ?_
          obtain ⟨t19, w18, H⟩ := jb_ok H
          refine jS.step (c' := (42, [(0, .inr (.inr x0)), (1, .inl x1), (2, .inl x2), (3, .inl x3)], [.inr (.inr t19.1)], t19.2)) (jSt.callV (c := 9) (As := []) (rest := []) O (ec_X9_current (d := 7) O (Nat.le_refl _) w18) w17 (by decide) rfl (by omega) jmw_X9_current jmv_X9_current jmn_X9_current (idx := 165) (jW_of 762 (by decide +kernel) rfl) (Nat.le_of_ble_eq_true rfl) (by decide +kernel)) ?_
          obtain ⟨w20, H⟩ := jgd_ok H
          refine jS.adv O [(.astore 4, 0, 0, 0, 0, 0, 0), (.aload 4, 0, 0, 0, 0, 0, 0)] (pc' := 46) (ls' := [(4, .inr (.inr t19.1)), (0, .inr (.inr x0)), (1, .inl x1), (2, .inl x2), (3, .inl x3)]) (st' := [.inr (.inr t19.1)]) (m2 := t19.2) (by decide +kernel) rfl trivial ?_
          obtain ⟨t22, w21, H⟩ := jb_ok H
          refine jS.step (c' := (49, [(4, .inr (.inr t19.1)), (0, .inr (.inr x0)), (1, .inl x1), (2, .inl x2), (3, .inl x3)], [.inr (.inl t22.1)], t22.2)) (jSt.callV (c := 2) (As := []) (rest := []) O (ec_X2_tally (d := 68) O (Nat.le_refl _) w21) w20 (by decide) rfl (by omega) jmw_X2_tally jmv_X2_tally jmn_X2_tally (idx := 227) (jW_of 1092 (by decide +kernel) rfl) (Nat.le_of_ble_eq_true rfl) (by decide +kernel)) ?_
          refine jS.adv O [(.lstore 5, 0, 0, 0, 0, 0, 0), (.lload 5, 0, 0, 0, 0, 0, 0), (.lconst 0, 0, 0, 0, 0, 0, (0 : Int64)), (.lcmp, 0, 0, 0, 0, 0, 0)] (pc' := 55) (ls' := [(5, .inr (.inl t22.1)), (4, .inr (.inr t19.1)), (0, .inr (.inr x0)), (1, .inl x1), (2, .inl x2), (3, .inl x3)]) (st' := [.inl (lg_cmp t22.1 (0 : Int64))]) (m2 := t22.2) (by decide +kernel) rfl trivial ?_
          refine jS.br (i := .ifCond .ne 9) (P := ¬ (lg_cmp t22.1 (0 : Int64)) = 0) (rest := []) rfl (by decide +kernel) (tgt := 64) (by decide) (fun c23 => ?_) (fun c23 => ?_)
          · replace H := jif_f c23 H
            obtain ⟨w24, H⟩ := jgd_ok H
            obtain ⟨w25, H⟩ := jgd_ok H
            obtain ⟨w26, H⟩ := jgd_ok H
            refine jS.adv O [(.aload 4, 0, 0, 0, 0, 0, 0), (.getfield 260, 0, 2, 4, 432, 0, 0), (.iload_n 1, 0, 0, 0, 0, 0, 0), (.bipush 8, 0, 0, 0, 0, (8 : Int32), 0), (.imul, 0, 0, 0, 0, 0, 0), (.iload_n 2, 0, 0, 0, 0, 0, 0), (.iadd, 0, 0, 0, 0, 0, 0), (.laload, 0, 0, 0, 0, 0, 0), (.lload 5, 0, 0, 0, 0, 0, 0), (.iload_n 3, 0, 0, 0, 0, 0, 0)] (pc' := 79) (ls' := [(5, .inr (.inl t22.1)), (4, .inr (.inr t19.1)), (0, .inr (.inr x0)), (1, .inl x1), (2, .inl x2), (3, .inl x3)]) (st' := [.inl x3, .inr (.inl t22.1), .inr (.inl (jL t22.2 (jP t22.2 t19.1 4) ((x1 * (8 : Int32)) + x2).toNatClampNeg))]) (m2 := t22.2) (by decide +kernel) rfl ⟨w24, ⟨w25, jib_ok w26⟩, trivial⟩ ?_
            obtain ⟨t28, w27, H⟩ := jb_ok H
            refine jS.step (c' := (82, [(5, .inr (.inl t22.1)), (4, .inr (.inr t19.1)), (0, .inr (.inr x0)), (1, .inl x1), (2, .inl x2), (3, .inl x3)], [.inr (.inl t28)], t22.2)) (jSt.callS (As := [.inr (.inl (jL t22.2 (jP t22.2 t19.1 4) ((x1 * (8 : Int32)) + x2).toNatClampNeg)), .inr (.inl t22.1), .inl x3]) (rest := []) O (ec_X9_partOf (d := 3) O (Nat.le_refl _) w27) (by omega) jmw_X9_partOf jmv_X9_partOf jmn_X9_partOf (idx := 263) (jW_of 1202 (by decide +kernel) rfl) (Nat.le_of_ble_eq_true rfl) (by decide +kernel)) ?_
            replace H := Option.some.inj H
            subst H
            exact jS.lret rfl (by decide +kernel)
          · replace H := jif_t (Classical.not_not.mp c23) H
            refine jS.adv O [(.ldc2_w 154, 0, 757, 0, 0, 0, (-4611686018427387904 : Int64)), (.goto 21, 0, 82, 0, 0, 0, 0)] (pc' := 82) (ls' := [(5, .inr (.inl t22.1)), (4, .inr (.inr t19.1)), (0, .inr (.inr x0)), (1, .inl x1), (2, .inl x2), (3, .inl x3)]) (st' := [.inr (.inl (-4611686018427387904 : Int64))]) (m2 := t22.2) (by decide +kernel) rfl trivial ?_
            replace H := Option.some.inj H
            subst H
            exact jS.lret rfl (by decide +kernel)
        · replace H := jif_t (Classical.not_not.mp c16) H
          refine jS.adv O [(.ldc2_w 154, 0, 757, 0, 0, 0, (-4611686018427387904 : Int64))] (pc' := 37) (ls' := [(0, .inr (.inr x0)), (1, .inl x1), (2, .inl x2), (3, .inl x3)]) (st' := [.inr (.inl (-4611686018427387904 : Int64))]) (m2 := t12.2) (by decide +kernel) rfl trivial ?_
          replace H := Option.some.inj H
          subst H
          exact jS.lret rfl (by decide +kernel)
def c_X9_values (F : Nat) (m : jMe) (x0 : Nat) (x1 : Int32) (x2 : Int32) : Option (Int64 × jMe) :=
  (if x1 < 0 then some ((-4611686018427387904 : Int64), m) else (if (6 : Int32) ≤ x1 then some ((-4611686018427387904 : Int64), m) else (if x2 < 0 then some ((-4611686018427387904 : Int64), m) else (if x2 < (10 : Int32) then jgd (jK m x0 = 41) <| jb (c_X9_askedAttributes F m x0) fun t7 => jb (c_X9_isIn F m t7 x1) fun t9 => (if t9 = 0 then some ((-4611686018427387904 : Int64), m) else jb (c_X9_current F m x0) fun t12 => jgd (jK t12.2 t12.1 = 34) <| jb (c_X2_isTold F t12.2 t12.1) fun t15 => (if t15 = 0 then some ((-4611686018427387904 : Int64), t12.2) else jgd (jK t12.2 x0 = 41) <| jb (c_X9_current F t12.2 x0) fun t19 => jgd (jK t19.2 t19.1 = 34) <| jb (c_X2_countWith F t19.2 t19.1 x1 x2) fun t22 => some (t22.1, t22.2))) else some ((-4611686018427387904 : Int64), m)))))
theorem ec_X9_values {X : jX} {l : Launch} {d : Nat} (O : jOk X) (hd : 70 ≤ d) {F : Nat} {m : jMe} {x0 : Nat} {x1 : Int32} {x2 : Int32} {r : Int64 × jMe} (H : c_X9_values F m x0 x1 x2 = some r) : jH X l d jm_X9_values [.inr (.inr x0), .inl x1, .inl x2] m (some (.inr (.inl r.1))) r.2 := by
  refine jH.of jpl_RX9 rfl (Nat.le_of_ble_eq_true rfl) ?_
  show jS X l d jm_X9_values m _ _ (0, [(0, .inr (.inr x0)), (1, .inl x1), (2, .inl x2)], [], m)
  unfold c_X9_values at H
  refine jS.adv O [(.iload_n 1, 0, 0, 0, 0, 0, 0)] (pc' := 1) (ls' := [(0, .inr (.inr x0)), (1, .inl x1), (2, .inl x2)]) (st' := [.inl x1]) (m2 := m) (by decide +kernel) rfl trivial ?_
  refine jS.br (i := .ifCond .lt 19) (P := x1 < 0) (rest := []) rfl (by decide +kernel) (tgt := 20) (by decide) (fun c1 => ?_) (fun c1 => ?_)
  · replace H := jif_t c1 H
    refine jS.adv O [(.ldc2_w 154, 0, 757, 0, 0, 0, (-4611686018427387904 : Int64))] (pc' := 23) (ls' := [(0, .inr (.inr x0)), (1, .inl x1), (2, .inl x2)]) (st' := [.inr (.inl (-4611686018427387904 : Int64))]) (m2 := m) (by decide +kernel) rfl trivial ?_
    replace H := Option.some.inj H
    subst H
    exact jS.lret rfl (by decide +kernel)
  · replace H := jif_f c1 H
    refine jS.adv O [(.iload_n 1, 0, 0, 0, 0, 0, 0), (.bipush 6, 0, 0, 0, 0, (6 : Int32), 0)] (pc' := 7) (ls' := [(0, .inr (.inr x0)), (1, .inl x1), (2, .inl x2)]) (st' := [.inl (6 : Int32), .inl x1]) (m2 := m) (by decide +kernel) rfl trivial ?_
    refine jS.br (i := .if_icmp .ge 13) (P := (6 : Int32) ≤ x1) (rest := []) rfl (by decide +kernel) (tgt := 20) (by decide) (fun c2 => ?_) (fun c2 => ?_)
    · replace H := jif_t c2 H
      refine jS.adv O [(.ldc2_w 154, 0, 757, 0, 0, 0, (-4611686018427387904 : Int64))] (pc' := 23) (ls' := [(0, .inr (.inr x0)), (1, .inl x1), (2, .inl x2)]) (st' := [.inr (.inl (-4611686018427387904 : Int64))]) (m2 := m) (by decide +kernel) rfl trivial ?_
      replace H := Option.some.inj H
      subst H
      exact jS.lret rfl (by decide +kernel)
    · replace H := jif_f c2 H
      refine jS.adv O [(.iload_n 2, 0, 0, 0, 0, 0, 0)] (pc' := 11) (ls' := [(0, .inr (.inr x0)), (1, .inl x1), (2, .inl x2)]) (st' := [.inl x2]) (m2 := m) (by decide +kernel) rfl trivial ?_
      refine jS.br (i := .ifCond .lt 9) (P := x2 < 0) (rest := []) rfl (by decide +kernel) (tgt := 20) (by decide) (fun c3 => ?_) (fun c3 => ?_)
      · replace H := jif_t c3 H
        refine jS.adv O [(.ldc2_w 154, 0, 757, 0, 0, 0, (-4611686018427387904 : Int64))] (pc' := 23) (ls' := [(0, .inr (.inr x0)), (1, .inl x1), (2, .inl x2)]) (st' := [.inr (.inl (-4611686018427387904 : Int64))]) (m2 := m) (by decide +kernel) rfl trivial ?_
        replace H := Option.some.inj H
        subst H
        exact jS.lret rfl (by decide +kernel)
      · replace H := jif_f c3 H
        refine jS.adv O [(.iload_n 2, 0, 0, 0, 0, 0, 0), (.bipush 10, 0, 0, 0, 0, (10 : Int32), 0)] (pc' := 17) (ls' := [(0, .inr (.inr x0)), (1, .inl x1), (2, .inl x2)]) (st' := [.inl (10 : Int32), .inl x2]) (m2 := m) (by decide +kernel) rfl trivial ?_
        refine jS.br (i := .if_icmp .lt 7) (P := x2 < (10 : Int32)) (rest := []) rfl (by decide +kernel) (tgt := 24) (by decide) (fun c4 => ?_) (fun c4 => ?_)
        · replace H := jif_t c4 H
          obtain ⟨w5, H⟩ := jgd_ok H
          refine jS.adv O [(.aload_n 0, 0, 0, 0, 0, 0, 0)] (pc' := 25) (ls' := [(0, .inr (.inr x0)), (1, .inl x1), (2, .inl x2)]) (st' := [.inr (.inr x0)]) (m2 := m) (by decide +kernel) rfl trivial ?_
          obtain ⟨t7, w6, H⟩ := jb_ok H
          refine jS.step (c' := (28, [(0, .inr (.inr x0)), (1, .inl x1), (2, .inl x2)], [.inl t7], m)) (jSt.callV (c := 9) (As := []) (rest := []) O (ec_X9_askedAttributes (d := 4) O (Nat.le_refl _) w6) w5 (by decide) rfl (by omega) jmw_X9_askedAttributes jmv_X9_askedAttributes jmn_X9_askedAttributes (idx := 196) (jW_of 857 (by decide +kernel) rfl) (Nat.le_of_ble_eq_true rfl) (by decide +kernel)) ?_
          refine jS.adv O [(.iload_n 1, 0, 0, 0, 0, 0, 0)] (pc' := 29) (ls' := [(0, .inr (.inr x0)), (1, .inl x1), (2, .inl x2)]) (st' := [.inl x1, .inl t7]) (m2 := m) (by decide +kernel) rfl trivial ?_
          obtain ⟨t9, w8, H⟩ := jb_ok H
          refine jS.step (c' := (32, [(0, .inr (.inr x0)), (1, .inl x1), (2, .inl x2)], [.inl t9], m)) (jSt.callS (As := [.inl t7, .inl x1]) (rest := []) O (ec_X9_isIn (d := 2) O (Nat.le_refl _) w8) (by omega) jmw_X9_isIn jmv_X9_isIn jmn_X9_isIn (idx := 140) (jW_of 744 (by decide +kernel) rfl) (Nat.le_of_ble_eq_true rfl) (by decide +kernel)) ?_
          refine jS.br (i := .ifCond .eq 13) (P := t9 = 0) (rest := []) rfl (by decide +kernel) (tgt := 45) (by decide) (fun c10 => ?_) (fun c10 => ?_)
          · replace H := jif_t c10 H
            refine jS.adv O [(.ldc2_w 154, 0, 757, 0, 0, 0, (-4611686018427387904 : Int64))] (pc' := 48) (ls' := [(0, .inr (.inr x0)), (1, .inl x1), (2, .inl x2)]) (st' := [.inr (.inl (-4611686018427387904 : Int64))]) (m2 := m) (by decide +kernel) rfl trivial ?_
            replace H := Option.some.inj H
            subst H
            exact jS.lret rfl (by decide +kernel)
          · replace H := jif_f c10 H
            refine jS.adv O [(.aload_n 0, 0, 0, 0, 0, 0, 0)] (pc' := 36) (ls' := [(0, .inr (.inr x0)), (1, .inl x1), (2, .inl x2)]) (st' := [.inr (.inr x0)]) (m2 := m) (by decide +kernel) rfl trivial ?_
            obtain ⟨t12, w11, H⟩ := jb_ok H
            refine jS.step (c' := (39, [(0, .inr (.inr x0)), (1, .inl x1), (2, .inl x2)], [.inr (.inr t12.1)], t12.2)) (jSt.callV (c := 9) (As := []) (rest := []) O (ec_X9_current (d := 7) O (Nat.le_refl _) w11) w5 (by decide) rfl (by omega) jmw_X9_current jmv_X9_current jmn_X9_current (idx := 165) (jW_of 762 (by decide +kernel) rfl) (Nat.le_of_ble_eq_true rfl) (by decide +kernel)) ?_
            obtain ⟨w13, H⟩ := jgd_ok H
            obtain ⟨t15, w14, H⟩ := jb_ok H
            refine jS.step (c' := (42, [(0, .inr (.inr x0)), (1, .inl x1), (2, .inl x2)], [.inl t15], t12.2)) (jSt.callV (c := 2) (As := []) (rest := []) O (ec_X2_isTold (d := 2) O (Nat.le_refl _) w14) w13 (by decide) rfl (by omega) jmw_X2_isTold jmv_X2_isTold jmn_X2_isTold (idx := 213) (jW_of 1076 (by decide +kernel) rfl) (Nat.le_of_ble_eq_true rfl) (by decide +kernel)) ?_
            refine jS.br (i := .ifCond .ne 7) (P := ¬ t15 = 0) (rest := []) rfl (by decide +kernel) (tgt := 49) (by decide) (fun c16 => ?_) (fun c16 => ?_)
            · replace H := jif_f c16 H
              obtain ⟨w17, H⟩ := jgd_ok H
              refine jS.adv O [(.aload_n 0, 0, 0, 0, 0, 0, 0)] (pc' := 50) (ls' := [(0, .inr (.inr x0)), (1, .inl x1), (2, .inl x2)]) (st' := [.inr (.inr x0)]) (m2 := t12.2) (by decide +kernel) rfl trivial ?_
              obtain ⟨t19, w18, H⟩ := jb_ok H
              refine jS.step (c' := (53, [(0, .inr (.inr x0)), (1, .inl x1), (2, .inl x2)], [.inr (.inr t19.1)], t19.2)) (jSt.callV (c := 9) (As := []) (rest := []) O (ec_X9_current (d := 7) O (Nat.le_refl _) w18) w17 (by decide) rfl (by omega) jmw_X9_current jmv_X9_current jmn_X9_current (idx := 165) (jW_of 762 (by decide +kernel) rfl) (Nat.le_of_ble_eq_true rfl) (by decide +kernel)) ?_
              obtain ⟨w20, H⟩ := jgd_ok H
              refine jS.adv O [(.iload_n 1, 0, 0, 0, 0, 0, 0), (.iload_n 2, 0, 0, 0, 0, 0, 0)] (pc' := 55) (ls' := [(0, .inr (.inr x0)), (1, .inl x1), (2, .inl x2)]) (st' := [.inl x2, .inl x1, .inr (.inr t19.1)]) (m2 := t19.2) (by decide +kernel) rfl trivial ?_
              obtain ⟨t22, w21, H⟩ := jb_ok H
              refine jS.step (c' := (58, [(0, .inr (.inr x0)), (1, .inl x1), (2, .inl x2)], [.inr (.inl t22.1)], t22.2)) (jSt.callV (c := 2) (As := [.inl x1, .inl x2]) (rest := []) O (ec_X2_countWith (d := 69) O (Nat.le_refl _) w21) w20 (by decide) rfl (by omega) jmw_X2_countWith jmv_X2_countWith jmn_X2_countWith (idx := 267) (jW_of 1212 (by decide +kernel) rfl) (Nat.le_of_ble_eq_true rfl) (by decide +kernel)) ?_
              replace H := Option.some.inj H
              subst H
              exact jS.lret rfl (by decide +kernel)
            · replace H := jif_t (Classical.not_not.mp c16) H
              refine jS.adv O [(.ldc2_w 154, 0, 757, 0, 0, 0, (-4611686018427387904 : Int64))] (pc' := 48) (ls' := [(0, .inr (.inr x0)), (1, .inl x1), (2, .inl x2)]) (st' := [.inr (.inl (-4611686018427387904 : Int64))]) (m2 := t12.2) (by decide +kernel) rfl trivial ?_
              replace H := Option.some.inj H
              subst H
              exact jS.lret rfl (by decide +kernel)
        · replace H := jif_f c4 H
          refine jS.adv O [(.ldc2_w 154, 0, 757, 0, 0, 0, (-4611686018427387904 : Int64))] (pc' := 23) (ls' := [(0, .inr (.inr x0)), (1, .inl x1), (2, .inl x2)]) (st' := [.inr (.inl (-4611686018427387904 : Int64))]) (m2 := m) (by decide +kernel) rfl trivial ?_
          replace H := Option.some.inj H
          subst H
          exact jS.lret rfl (by decide +kernel)
def c_X9_likeliest_l47_b (F : Nat) (B : jMe → Nat → Int32 → Int32 → Int64 → Int32 → Option (jMe × Int32)) (m : jMe) (y0 : Nat) (y1 : Int32) (y2 : Int32) (y3 : Int64) (y5 : Int32) : Option (jMe × Int32) :=
  (if (10 : Int32) ≤ y5 then some (m, y2) else jgd (jK m y0 = 41) <| jb (c_X9_current F m y0) fun t18 => jgd (jK t18.2 t18.1 = 34) <| jb (c_X2_countWith F t18.2 t18.1 y1 y5) fun t21 => (if (lg_cmp t21.1 y3) ≤ 0 then B t21.2 y0 y1 y2 y3 (y5 + (1 : Int32)) else B t21.2 y0 y1 y5 t21.1 (y5 + (1 : Int32))))
theorem ec_X9_likeliest_l47_b {X : jX} {l : Launch} {d : Nat} (O : jOk X) (hd : 70 ≤ d) {F : Nat} {m0 m' : jMe} {v : Option jAV} {B : jMe → Nat → Int32 → Int32 → Int64 → Int32 → Option (jMe × Int32)} (hB : ∀ (m : jMe) (y0 : Nat) (y1 : Int32) (y2 : Int32) (y3 : Int64) (y5 : Int32) (r : jMe × Int32), B m y0 y1 y2 y3 y5 = some r → (jS X l d jm_X9_likeliest m0 v m' (85, [(2, .inl r.2)], [], r.1)) → jS X l d jm_X9_likeliest m0 v m' (47, [(0, .inr (.inr y0)), (1, .inl y1), (2, .inl y2), (3, .inr (.inl y3)), (5, .inl y5)], [], m)) {m : jMe} {y0 : Nat} {y1 : Int32} {y2 : Int32} {y3 : Int64} {y5 : Int32} {r : jMe × Int32} (H : c_X9_likeliest_l47_b F B m y0 y1 y2 y3 y5 = some r) (h2 : jS X l d jm_X9_likeliest m0 v m' (85, [(2, .inl r.2)], [], r.1)) : jS X l d jm_X9_likeliest m0 v m' (47, [(0, .inr (.inr y0)), (1, .inl y1), (2, .inl y2), (3, .inr (.inl y3)), (5, .inl y5)], [], m) := by
  unfold c_X9_likeliest_l47_b at H
  refine jS.adv O [(.iload 5, 0, 0, 0, 0, 0, 0), (.bipush 10, 0, 0, 0, 0, (10 : Int32), 0)] (pc' := 51) (ls' := [(0, .inr (.inr y0)), (1, .inl y1), (2, .inl y2), (3, .inr (.inl y3)), (5, .inl y5)]) (st' := [.inl (10 : Int32), .inl y5]) (m2 := m) (by decide +kernel) rfl trivial ?_
  refine jS.br (i := .if_icmp .ge 34) (P := (10 : Int32) ≤ y5) (rest := []) rfl (by decide +kernel) (tgt := 85) (by decide) (fun c15 => ?_) (fun c15 => ?_)
  · replace H := jif_t c15 H
    replace H := Option.some.inj H
    subst H
    refine jS.loc' [2] (ls' := [(2, .inl y2)]) rfl ?_
    exact h2
  · replace H := jif_f c15 H
    obtain ⟨w16, H⟩ := jgd_ok H
    refine jS.adv O [(.aload_n 0, 0, 0, 0, 0, 0, 0)] (pc' := 55) (ls' := [(0, .inr (.inr y0)), (1, .inl y1), (2, .inl y2), (3, .inr (.inl y3)), (5, .inl y5)]) (st' := [.inr (.inr y0)]) (m2 := m) (by decide +kernel) rfl trivial ?_
    obtain ⟨t18, w17, H⟩ := jb_ok H
    refine jS.step (c' := (58, [(0, .inr (.inr y0)), (1, .inl y1), (2, .inl y2), (3, .inr (.inl y3)), (5, .inl y5)], [.inr (.inr t18.1)], t18.2)) (jSt.callV (c := 9) (As := []) (rest := []) O (ec_X9_current (d := 7) O (Nat.le_refl _) w17) w16 (by decide) rfl (by omega) jmw_X9_current jmv_X9_current jmn_X9_current (idx := 165) (jW_of 762 (by decide +kernel) rfl) (Nat.le_of_ble_eq_true rfl) (by decide +kernel)) ?_
    obtain ⟨w19, H⟩ := jgd_ok H
    refine jS.adv O [(.iload_n 1, 0, 0, 0, 0, 0, 0), (.iload 5, 0, 0, 0, 0, 0, 0)] (pc' := 61) (ls' := [(0, .inr (.inr y0)), (1, .inl y1), (2, .inl y2), (3, .inr (.inl y3)), (5, .inl y5)]) (st' := [.inl y5, .inl y1, .inr (.inr t18.1)]) (m2 := t18.2) (by decide +kernel) rfl trivial ?_
    obtain ⟨t21, w20, H⟩ := jb_ok H
    refine jS.step (c' := (64, [(0, .inr (.inr y0)), (1, .inl y1), (2, .inl y2), (3, .inr (.inl y3)), (5, .inl y5)], [.inr (.inl t21.1)], t21.2)) (jSt.callV (c := 2) (As := [.inl y1, .inl y5]) (rest := []) O (ec_X2_countWith (d := 69) O (Nat.le_refl _) w20) w19 (by decide) rfl (by omega) jmw_X2_countWith jmv_X2_countWith jmn_X2_countWith (idx := 267) (jW_of 1212 (by decide +kernel) rfl) (Nat.le_of_ble_eq_true rfl) (by decide +kernel)) ?_
    refine jS.adv O [(.lstore 6, 0, 0, 0, 0, 0, 0), (.lload 6, 0, 0, 0, 0, 0, 0), (.lload_n 3, 0, 0, 0, 0, 0, 0), (.lcmp, 0, 0, 0, 0, 0, 0)] (pc' := 70) (ls' := [(6, .inr (.inl t21.1)), (0, .inr (.inr y0)), (1, .inl y1), (2, .inl y2), (3, .inr (.inl y3)), (5, .inl y5)]) (st' := [.inl (lg_cmp t21.1 y3)]) (m2 := t21.2) (by decide +kernel) rfl trivial ?_
    refine jS.br (i := .ifCond .le 9) (P := (lg_cmp t21.1 y3) ≤ 0) (rest := []) rfl (by decide +kernel) (tgt := 79) (by decide) (fun c22 => ?_) (fun c22 => ?_)
    · replace H := jif_t c22 H
      refine jS.adv O [(.iinc 5 1, 0, 0, 0, 0, (1 : Int32), 0), (.goto (-35), 0, 47, 0, 0, 0, 0)] (pc' := 47) (ls' := [(5, .inl (y5 + (1 : Int32))), (6, .inr (.inl t21.1)), (0, .inr (.inr y0)), (1, .inl y1), (2, .inl y2), (3, .inr (.inl y3))]) (st' := []) (m2 := t21.2) (by decide +kernel) rfl trivial ?_
      refine jS.loc' [2, 3, 4, 5, 0] (ls' := [(0, .inr (.inr y0)), (1, .inl y1), (2, .inl y2), (3, .inr (.inl y3)), (5, .inl (y5 + (1 : Int32)))]) rfl ?_
      exact hB _ _ _ _ _ _ _ H h2
    · replace H := jif_f c22 H
      refine jS.adv O [(.lload 6, 0, 0, 0, 0, 0, 0), (.lstore_n 3, 0, 0, 0, 0, 0, 0), (.iload 5, 0, 0, 0, 0, 0, 0), (.istore_n 2, 0, 0, 0, 0, 0, 0), (.iinc 5 1, 0, 0, 0, 0, (1 : Int32), 0), (.goto (-35), 0, 47, 0, 0, 0, 0)] (pc' := 47) (ls' := [(5, .inl (y5 + (1 : Int32))), (2, .inl y5), (3, .inr (.inl t21.1)), (6, .inr (.inl t21.1)), (0, .inr (.inr y0)), (1, .inl y1)]) (st' := []) (m2 := t21.2) (by decide +kernel) rfl trivial ?_
      refine jS.loc' [4, 5, 1, 2, 0] (ls' := [(0, .inr (.inr y0)), (1, .inl y1), (2, .inl y5), (3, .inr (.inl t21.1)), (5, .inl (y5 + (1 : Int32)))]) rfl ?_
      exact hB _ _ _ _ _ _ _ H h2
def c_X9_likeliest_l47 (F : Nat) : Nat → jMe → Nat → Int32 → Int32 → Int64 → Int32 → Option (jMe × Int32)
  | 0, _, _, _, _, _, _ => none
  | n + 1, m, y0, y1, y2, y3, y5 => c_X9_likeliest_l47_b F (fun m y0 y1 y2 y3 y5 => c_X9_likeliest_l47 F n m y0 y1 y2 y3 y5) m y0 y1 y2 y3 y5
theorem ec_X9_likeliest_l47 {X : jX} {l : Launch} {d : Nat} (O : jOk X) (hd : 70 ≤ d) {F : Nat} {m0 m' : jMe} {v : Option jAV} : ∀ (n : Nat) {m : jMe} {y0 : Nat} {y1 : Int32} {y2 : Int32} {y3 : Int64} {y5 : Int32} {r : jMe × Int32} (H : c_X9_likeliest_l47 F n m y0 y1 y2 y3 y5 = some r) (h2 : jS X l d jm_X9_likeliest m0 v m' (85, [(2, .inl r.2)], [], r.1)), jS X l d jm_X9_likeliest m0 v m' (47, [(0, .inr (.inr y0)), (1, .inl y1), (2, .inl y2), (3, .inr (.inl y3)), (5, .inl y5)], [], m) := by
  intro n
  induction n with
  | zero =>
    intro m y0 y1 y2 y3 y5 r H h2
    cases (show none = some r from H)
  | succ n ih =>
    intro m y0 y1 y2 y3 y5 r H h2
    exact ec_X9_likeliest_l47_b O hd (B := (fun m y0 y1 y2 y3 y5 => c_X9_likeliest_l47 F n m y0 y1 y2 y3 y5)) (fun m y0 y1 y2 y3 y5 r H h2 => ih H h2) H h2
def c_X9_likeliest (F : Nat) (m : jMe) (x0 : Nat) (x1 : Int32) : Option (Int32 × jMe) :=
  (if x1 < 0 then some ((-2 : Int32), m) else (if x1 < (6 : Int32) then jgd (jK m x0 = 41) <| jb (c_X9_askedAttributes F m x0) fun t5 => jb (c_X9_isIn F m t5 x1) fun t7 => (if t7 = 0 then some ((-3 : Int32), m) else jb (c_X9_current F m x0) fun t10 => jgd (jK t10.2 t10.1 = 34) <| jb (c_X2_isTold F t10.2 t10.1) fun t13 => (if t13 = 0 then some ((-5 : Int32), t10.2) else jb (c_X9_likeliest_l47 F F t10.2 x0 x1 (-1 : Int32) (0 : Int64) (0 : Int32)) fun e24 => some (e24.2, e24.1))) else some ((-2 : Int32), m)))
theorem ec_X9_likeliest {X : jX} {l : Launch} {d : Nat} (O : jOk X) (hd : 70 ≤ d) {F : Nat} {m : jMe} {x0 : Nat} {x1 : Int32} {r : Int32 × jMe} (H : c_X9_likeliest F m x0 x1 = some r) : jH X l d jm_X9_likeliest [.inr (.inr x0), .inl x1] m (some (.inl r.1)) r.2 := by
  refine jH.of jpl_RX9 rfl (Nat.le_of_ble_eq_true rfl) ?_
  show jS X l d jm_X9_likeliest m _ _ (0, [(0, .inr (.inr x0)), (1, .inl x1)], [], m)
  unfold c_X9_likeliest at H
  refine jS.adv O [(.iload_n 1, 0, 0, 0, 0, 0, 0)] (pc' := 1) (ls' := [(0, .inr (.inr x0)), (1, .inl x1)]) (st' := [.inl x1]) (m2 := m) (by decide +kernel) rfl trivial ?_
  refine jS.br (i := .ifCond .lt 9) (P := x1 < 0) (rest := []) rfl (by decide +kernel) (tgt := 10) (by decide) (fun c1 => ?_) (fun c1 => ?_)
  · replace H := jif_t c1 H
    refine jS.adv O [(.bipush (-2), 0, 0, 0, 0, (-2 : Int32), 0)] (pc' := 12) (ls' := [(0, .inr (.inr x0)), (1, .inl x1)]) (st' := [.inl (-2 : Int32)]) (m2 := m) (by decide +kernel) rfl trivial ?_
    replace H := Option.some.inj H
    subst H
    exact jS.iret rfl (by decide +kernel)
  · replace H := jif_f c1 H
    refine jS.adv O [(.iload_n 1, 0, 0, 0, 0, 0, 0), (.bipush 6, 0, 0, 0, 0, (6 : Int32), 0)] (pc' := 7) (ls' := [(0, .inr (.inr x0)), (1, .inl x1)]) (st' := [.inl (6 : Int32), .inl x1]) (m2 := m) (by decide +kernel) rfl trivial ?_
    refine jS.br (i := .if_icmp .lt 6) (P := x1 < (6 : Int32)) (rest := []) rfl (by decide +kernel) (tgt := 13) (by decide) (fun c2 => ?_) (fun c2 => ?_)
    · replace H := jif_t c2 H
      obtain ⟨w3, H⟩ := jgd_ok H
      refine jS.adv O [(.aload_n 0, 0, 0, 0, 0, 0, 0)] (pc' := 14) (ls' := [(0, .inr (.inr x0)), (1, .inl x1)]) (st' := [.inr (.inr x0)]) (m2 := m) (by decide +kernel) rfl trivial ?_
      obtain ⟨t5, w4, H⟩ := jb_ok H
      refine jS.step (c' := (17, [(0, .inr (.inr x0)), (1, .inl x1)], [.inl t5], m)) (jSt.callV (c := 9) (As := []) (rest := []) O (ec_X9_askedAttributes (d := 4) O (Nat.le_refl _) w4) w3 (by decide) rfl (by omega) jmw_X9_askedAttributes jmv_X9_askedAttributes jmn_X9_askedAttributes (idx := 196) (jW_of 857 (by decide +kernel) rfl) (Nat.le_of_ble_eq_true rfl) (by decide +kernel)) ?_
      refine jS.adv O [(.iload_n 1, 0, 0, 0, 0, 0, 0)] (pc' := 18) (ls' := [(0, .inr (.inr x0)), (1, .inl x1)]) (st' := [.inl x1, .inl t5]) (m2 := m) (by decide +kernel) rfl trivial ?_
      obtain ⟨t7, w6, H⟩ := jb_ok H
      refine jS.step (c' := (21, [(0, .inr (.inr x0)), (1, .inl x1)], [.inl t7], m)) (jSt.callS (As := [.inl t5, .inl x1]) (rest := []) O (ec_X9_isIn (d := 2) O (Nat.le_refl _) w6) (by omega) jmw_X9_isIn jmv_X9_isIn jmn_X9_isIn (idx := 140) (jW_of 744 (by decide +kernel) rfl) (Nat.le_of_ble_eq_true rfl) (by decide +kernel)) ?_
      refine jS.br (i := .ifCond .ne 6) (P := ¬ t7 = 0) (rest := []) rfl (by decide +kernel) (tgt := 27) (by decide) (fun c8 => ?_) (fun c8 => ?_)
      · replace H := jif_f c8 H
        refine jS.adv O [(.aload_n 0, 0, 0, 0, 0, 0, 0)] (pc' := 28) (ls' := [(0, .inr (.inr x0)), (1, .inl x1)]) (st' := [.inr (.inr x0)]) (m2 := m) (by decide +kernel) rfl trivial ?_
        obtain ⟨t10, w9, H⟩ := jb_ok H
        refine jS.step (c' := (31, [(0, .inr (.inr x0)), (1, .inl x1)], [.inr (.inr t10.1)], t10.2)) (jSt.callV (c := 9) (As := []) (rest := []) O (ec_X9_current (d := 7) O (Nat.le_refl _) w9) w3 (by decide) rfl (by omega) jmw_X9_current jmv_X9_current jmn_X9_current (idx := 165) (jW_of 762 (by decide +kernel) rfl) (Nat.le_of_ble_eq_true rfl) (by decide +kernel)) ?_
        obtain ⟨w11, H⟩ := jgd_ok H
        obtain ⟨t13, w12, H⟩ := jb_ok H
        refine jS.step (c' := (34, [(0, .inr (.inr x0)), (1, .inl x1)], [.inl t13], t10.2)) (jSt.callV (c := 2) (As := []) (rest := []) O (ec_X2_isTold (d := 2) O (Nat.le_refl _) w12) w11 (by decide) rfl (by omega) jmw_X2_isTold jmv_X2_isTold jmn_X2_isTold (idx := 213) (jW_of 1076 (by decide +kernel) rfl) (Nat.le_of_ble_eq_true rfl) (by decide +kernel)) ?_
        refine jS.br (i := .ifCond .ne 6) (P := ¬ t13 = 0) (rest := []) rfl (by decide +kernel) (tgt := 40) (by decide) (fun c14 => ?_) (fun c14 => ?_)
        · replace H := jif_f c14 H
          refine jS.adv O [(.iconst (-1), 0, 0, 0, 0, (-1 : Int32), 0), (.istore_n 2, 0, 0, 0, 0, 0, 0), (.lconst 0, 0, 0, 0, 0, 0, (0 : Int64)), (.lstore_n 3, 0, 0, 0, 0, 0, 0), (.iconst 0, 0, 0, 0, 0, (0 : Int32), 0), (.istore 5, 0, 0, 0, 0, 0, 0)] (pc' := 47) (ls' := [(5, .inl (0 : Int32)), (3, .inr (.inl (0 : Int64))), (2, .inl (-1 : Int32)), (0, .inr (.inr x0)), (1, .inl x1)]) (st' := []) (m2 := t10.2) (by decide +kernel) rfl trivial ?_
          refine jS.loc' [3, 4, 2, 1, 0] (ls' := [(0, .inr (.inr x0)), (1, .inl x1), (2, .inl (-1 : Int32)), (3, .inr (.inl (0 : Int64))), (5, .inl (0 : Int32))]) rfl ?_
          obtain ⟨e24, w25, H⟩ := jb_ok H
          refine ec_X9_likeliest_l47 O hd F w25 ?_
          refine jS.adv O [(.iload_n 2, 0, 0, 0, 0, 0, 0)] (pc' := 86) (ls' := [(2, .inl e24.2)]) (st' := [.inl e24.2]) (m2 := e24.1) (by decide +kernel) rfl trivial ?_
          replace H := Option.some.inj H
          subst H
          exact jS.iret rfl (by decide +kernel)
        · replace H := jif_t (Classical.not_not.mp c14) H
          refine jS.adv O [(.bipush (-5), 0, 0, 0, 0, (-5 : Int32), 0)] (pc' := 39) (ls' := [(0, .inr (.inr x0)), (1, .inl x1)]) (st' := [.inl (-5 : Int32)]) (m2 := t10.2) (by decide +kernel) rfl trivial ?_
          replace H := Option.some.inj H
          subst H
          exact jS.iret rfl (by decide +kernel)
      · replace H := jif_t (Classical.not_not.mp c8) H
        refine jS.adv O [(.bipush (-3), 0, 0, 0, 0, (-3 : Int32), 0)] (pc' := 26) (ls' := [(0, .inr (.inr x0)), (1, .inl x1)]) (st' := [.inl (-3 : Int32)]) (m2 := m) (by decide +kernel) rfl trivial ?_
        replace H := Option.some.inj H
        subst H
        exact jS.iret rfl (by decide +kernel)
    · replace H := jif_f c2 H
      refine jS.adv O [(.bipush (-2), 0, 0, 0, 0, (-2 : Int32), 0)] (pc' := 12) (ls' := [(0, .inr (.inr x0)), (1, .inl x1)]) (st' := [.inl (-2 : Int32)]) (m2 := m) (by decide +kernel) rfl trivial ?_
      replace H := Option.some.inj H
      subst H
      exact jS.iret rfl (by decide +kernel)
def c_X9_dangling (F : Nat) (m : jMe) (x0 : Nat) (x1 : Int32) : Option (Int32 × jMe) :=
  jgd (jK m x0 = 41) <| jb (c_X9_isRelation F m x0 x1) fun t3 => (if t3 = 0 then some ((-2 : Int32), m) else jb (c_X9_isAsked F m x0 x1) fun t6 => (if t6 = 0 then some ((-3 : Int32), m) else jb (c_X9_current F m x0) fun t9 => jgd (jK t9.2 t9.1 = 34) <| jb (c_X2_isTold F t9.2 t9.1) fun t12 => (if t12 = 0 then some ((-5 : Int32), t9.2) else jgd (jK t9.2 x0 = 41) <| jb (c_X9_current F t9.2 x0) fun t16 => jgd (jK t16.2 t16.1 = 34) <| jb (c_X2_unused F t16.2 t16.1 x1) fun t19 => some (t19.1, t19.2))))
theorem ec_X9_dangling {X : jX} {l : Launch} {d : Nat} (O : jOk X) (hd : 70 ≤ d) {F : Nat} {m : jMe} {x0 : Nat} {x1 : Int32} {r : Int32 × jMe} (H : c_X9_dangling F m x0 x1 = some r) : jH X l d jm_X9_dangling [.inr (.inr x0), .inl x1] m (some (.inl r.1)) r.2 := by
  refine jH.of jpl_RX9 rfl (Nat.le_of_ble_eq_true rfl) ?_
  show jS X l d jm_X9_dangling m _ _ (0, [(0, .inr (.inr x0)), (1, .inl x1)], [], m)
  unfold c_X9_dangling at H
  obtain ⟨w1, H⟩ := jgd_ok H
  refine jS.adv O [(.aload_n 0, 0, 0, 0, 0, 0, 0), (.iload_n 1, 0, 0, 0, 0, 0, 0)] (pc' := 2) (ls' := [(0, .inr (.inr x0)), (1, .inl x1)]) (st' := [.inl x1, .inr (.inr x0)]) (m2 := m) (by decide +kernel) rfl trivial ?_
  obtain ⟨t3, w2, H⟩ := jb_ok H
  refine jS.step (c' := (5, [(0, .inr (.inr x0)), (1, .inl x1)], [.inl t3], m)) (jSt.callV (c := 9) (As := [.inl x1]) (rest := []) O (ec_X9_isRelation (d := 2) O (Nat.le_refl _) w2) w1 (by decide) rfl (by omega) jmw_X9_isRelation jmv_X9_isRelation jmn_X9_isRelation (idx := 100) (jW_of 648 (by decide +kernel) rfl) (Nat.le_of_ble_eq_true rfl) (by decide +kernel)) ?_
  refine jS.br (i := .ifCond .ne 6) (P := ¬ t3 = 0) (rest := []) rfl (by decide +kernel) (tgt := 11) (by decide) (fun c4 => ?_) (fun c4 => ?_)
  · replace H := jif_f c4 H
    refine jS.adv O [(.aload_n 0, 0, 0, 0, 0, 0, 0), (.iload_n 1, 0, 0, 0, 0, 0, 0)] (pc' := 13) (ls' := [(0, .inr (.inr x0)), (1, .inl x1)]) (st' := [.inl x1, .inr (.inr x0)]) (m2 := m) (by decide +kernel) rfl trivial ?_
    obtain ⟨t6, w5, H⟩ := jb_ok H
    refine jS.step (c' := (16, [(0, .inr (.inr x0)), (1, .inl x1)], [.inl t6], m)) (jSt.callV (c := 9) (As := [.inl x1]) (rest := []) O (ec_X9_isAsked (d := 3) O (Nat.le_refl _) w5) w1 (by decide) rfl (by omega) jmw_X9_isAsked jmv_X9_isAsked jmn_X9_isAsked (idx := 257) (jW_of 841 (by decide +kernel) rfl) (Nat.le_of_ble_eq_true rfl) (by decide +kernel)) ?_
    refine jS.br (i := .ifCond .ne 6) (P := ¬ t6 = 0) (rest := []) rfl (by decide +kernel) (tgt := 22) (by decide) (fun c7 => ?_) (fun c7 => ?_)
    · replace H := jif_f c7 H
      refine jS.adv O [(.aload_n 0, 0, 0, 0, 0, 0, 0)] (pc' := 23) (ls' := [(0, .inr (.inr x0)), (1, .inl x1)]) (st' := [.inr (.inr x0)]) (m2 := m) (by decide +kernel) rfl trivial ?_
      obtain ⟨t9, w8, H⟩ := jb_ok H
      refine jS.step (c' := (26, [(0, .inr (.inr x0)), (1, .inl x1)], [.inr (.inr t9.1)], t9.2)) (jSt.callV (c := 9) (As := []) (rest := []) O (ec_X9_current (d := 7) O (Nat.le_refl _) w8) w1 (by decide) rfl (by omega) jmw_X9_current jmv_X9_current jmn_X9_current (idx := 165) (jW_of 762 (by decide +kernel) rfl) (Nat.le_of_ble_eq_true rfl) (by decide +kernel)) ?_
      obtain ⟨w10, H⟩ := jgd_ok H
      obtain ⟨t12, w11, H⟩ := jb_ok H
      refine jS.step (c' := (29, [(0, .inr (.inr x0)), (1, .inl x1)], [.inl t12], t9.2)) (jSt.callV (c := 2) (As := []) (rest := []) O (ec_X2_isTold (d := 2) O (Nat.le_refl _) w11) w10 (by decide) rfl (by omega) jmw_X2_isTold jmv_X2_isTold jmn_X2_isTold (idx := 213) (jW_of 1076 (by decide +kernel) rfl) (Nat.le_of_ble_eq_true rfl) (by decide +kernel)) ?_
      refine jS.br (i := .ifCond .eq 14) (P := t12 = 0) (rest := []) rfl (by decide +kernel) (tgt := 43) (by decide) (fun c13 => ?_) (fun c13 => ?_)
      · replace H := jif_t c13 H
        refine jS.adv O [(.bipush (-5), 0, 0, 0, 0, (-5 : Int32), 0)] (pc' := 45) (ls' := [(0, .inr (.inr x0)), (1, .inl x1)]) (st' := [.inl (-5 : Int32)]) (m2 := t9.2) (by decide +kernel) rfl trivial ?_
        replace H := Option.some.inj H
        subst H
        exact jS.iret rfl (by decide +kernel)
      · replace H := jif_f c13 H
        obtain ⟨w14, H⟩ := jgd_ok H
        refine jS.adv O [(.aload_n 0, 0, 0, 0, 0, 0, 0)] (pc' := 33) (ls' := [(0, .inr (.inr x0)), (1, .inl x1)]) (st' := [.inr (.inr x0)]) (m2 := t9.2) (by decide +kernel) rfl trivial ?_
        obtain ⟨t16, w15, H⟩ := jb_ok H
        refine jS.step (c' := (36, [(0, .inr (.inr x0)), (1, .inl x1)], [.inr (.inr t16.1)], t16.2)) (jSt.callV (c := 9) (As := []) (rest := []) O (ec_X9_current (d := 7) O (Nat.le_refl _) w15) w14 (by decide) rfl (by omega) jmw_X9_current jmv_X9_current jmn_X9_current (idx := 165) (jW_of 762 (by decide +kernel) rfl) (Nat.le_of_ble_eq_true rfl) (by decide +kernel)) ?_
        obtain ⟨w17, H⟩ := jgd_ok H
        refine jS.adv O [(.iload_n 1, 0, 0, 0, 0, 0, 0)] (pc' := 37) (ls' := [(0, .inr (.inr x0)), (1, .inl x1)]) (st' := [.inl x1, .inr (.inr t16.1)]) (m2 := t16.2) (by decide +kernel) rfl trivial ?_
        obtain ⟨t19, w18, H⟩ := jb_ok H
        refine jS.step (c' := (40, [(0, .inr (.inr x0)), (1, .inl x1)], [.inl t19.1], t19.2)) (jSt.callV (c := 2) (As := [.inl x1]) (rest := []) O (ec_X2_unused (d := 69) O (Nat.le_refl _) w18) w17 (by decide) rfl (by omega) jmw_X2_unused jmv_X2_unused jmn_X2_unused (idx := 271) (jW_of 1226 (by decide +kernel) rfl) (Nat.le_of_ble_eq_true rfl) (by decide +kernel)) ?_
        refine jS.adv O [(.goto 5, 0, 45, 0, 0, 0, 0)] (pc' := 45) (ls' := [(0, .inr (.inr x0)), (1, .inl x1)]) (st' := [.inl t19.1]) (m2 := t19.2) (by decide +kernel) rfl trivial ?_
        replace H := Option.some.inj H
        subst H
        exact jS.iret rfl (by decide +kernel)
    · replace H := jif_t (Classical.not_not.mp c7) H
      refine jS.adv O [(.bipush (-3), 0, 0, 0, 0, (-3 : Int32), 0)] (pc' := 21) (ls' := [(0, .inr (.inr x0)), (1, .inl x1)]) (st' := [.inl (-3 : Int32)]) (m2 := m) (by decide +kernel) rfl trivial ?_
      replace H := Option.some.inj H
      subst H
      exact jS.iret rfl (by decide +kernel)
  · replace H := jif_t (Classical.not_not.mp c4) H
    refine jS.adv O [(.bipush (-2), 0, 0, 0, 0, (-2 : Int32), 0)] (pc' := 10) (ls' := [(0, .inr (.inr x0)), (1, .inl x1)]) (st' := [.inl (-2 : Int32)]) (m2 := m) (by decide +kernel) rfl trivial ?_
    replace H := Option.some.inj H
    subst H
    exact jS.iret rfl (by decide +kernel)
def c_X9_without_j91 (F : Nat) (m : jMe) (y0 : Nat) (y1 : Int32) (y2 : Int32) (s0 : Int64) : Option (Int64 × jMe) :=
  jgd (jK m y0 = 41) <| jgd (jK m (jP m y0 0) = 5) <| jgd (jin y1 (jZ m (jP m y0 0)) = true) <| jgd (jK m (jP m (jP m y0 0) y1.toNatClampNeg) = 36) <| jb (c_X4_setLive F m (jP m (jP m y0 0) y1.toNatClampNeg) y2 (1 : Int32)) fun t31 => some (s0, t31)
theorem ec_X9_without_j91 {X : jX} {l : Launch} {d : Nat} (O : jOk X) (hd : 69 ≤ d) {F : Nat} {m0 m : jMe} {y0 : Nat} {y1 : Int32} {y2 : Int32} {s0 : Int64} {r : Int64 × jMe} (H : c_X9_without_j91 F m y0 y1 y2 s0 = some r) : jS X l d jm_X9_without m0 (some (.inr (.inl r.1))) r.2 (91, [(0, .inr (.inr y0)), (1, .inl y1), (2, .inl y2)], [.inr (.inl s0)], m) := by
  unfold c_X9_without_j91 at H
  obtain ⟨w26, H⟩ := jgd_ok H
  obtain ⟨w27, H⟩ := jgd_ok H
  obtain ⟨w28, H⟩ := jgd_ok H
  obtain ⟨w29, H⟩ := jgd_ok H
  refine jS.adv O [(.lstore_n 3, 0, 0, 0, 0, 0, 0), (.aload_n 0, 0, 0, 0, 0, 0, 0), (.getfield 11, 0, 9, 0, 578, 0, 0), (.iload_n 1, 0, 0, 0, 0, 0, 0), (.aaload, 0, 5, 0, 0, 0, 0), (.iload_n 2, 0, 0, 0, 0, 0, 0), (.iconst 1, 0, 0, 0, 0, (1 : Int32), 0)] (pc' := 100) (ls' := [(3, .inr (.inl s0)), (0, .inr (.inr y0)), (1, .inl y1), (2, .inl y2)]) (st' := [.inl (1 : Int32), .inl y2, .inr (.inr (jP m (jP m y0 0) y1.toNatClampNeg))]) (m2 := m) (by decide +kernel) rfl ⟨w26, ⟨w27, jib_ok w28⟩, trivial⟩ ?_
  obtain ⟨t31, w30, H⟩ := jb_ok H
  refine jS.step (c' := (103, [(3, .inr (.inl s0)), (0, .inr (.inr y0)), (1, .inl y1), (2, .inl y2)], [], t31)) (jSt.callV (c := 4) (As := [.inl y2, .inl (1 : Int32)]) (rest := []) O (ec_X4_setLive (d := 2) O (Nat.le_refl _) w30) w29 (by decide) rfl (by omega) jmw_X4_setLive jmv_X4_setLive jmn_X4_setLive (idx := 119) (jW_of 713 (by decide +kernel) rfl) (Nat.le_of_ble_eq_true rfl) (by decide +kernel)) ?_
  refine jS.adv O [(.lload_n 3, 0, 0, 0, 0, 0, 0)] (pc' := 104) (ls' := [(3, .inr (.inl s0)), (0, .inr (.inr y0)), (1, .inl y1), (2, .inl y2)]) (st' := [.inr (.inl s0)]) (m2 := t31) (by decide +kernel) rfl trivial ?_
  replace H := Option.some.inj H
  subst H
  exact jS.lret rfl (by decide +kernel)
def c_X9_without (F : Nat) (m : jMe) (x0 : Nat) (x1 : Int32) (x2 : Int32) : Option (Int64 × jMe) :=
  jgd (jK m x0 = 41) <| jb (c_X9_isRow F m x0 x1 x2) fun t3 => (if t3 = 0 then some ((-4611686018427387904 : Int64), m) else jgd (jK m (jP m x0 0) = 5) <| jgd (jin x1 (jZ m (jP m x0 0)) = true) <| jgd (jK m (jP m (jP m x0 0) x1.toNatClampNeg) = 36) <| jb (c_X4_isLive F m (jP m (jP m x0 0) x1.toNatClampNeg) x2) fun t9 => (if t9 = 0 then some ((-4611686018427387904 : Int64), m) else (if (jI m x0 15) = 0 then some ((-4611686018427387904 : Int64), m) else jgd (jin x1 (jZ m (jP m x0 0)) = true) <| jb (c_X4_setLive F m (jP m (jP m x0 0) x1.toNatClampNeg) x2 (0 : Int32)) fun t14 => jgd (jK t14 x0 = 41) <| jgd (jK t14 (jP t14 x0 1) = 6) <| jgd (jin (jI t14 x0 14) (jZ t14 (jP t14 x0 1)) = true) <| jgd (jK t14 (jP t14 x0 9) = 34) <| jb (c_X2_tell F t14 (jP t14 x0 9) (jP t14 x0 0) (jP t14 (jP t14 x0 1) (jI t14 x0 14).toNatClampNeg) (jI t14 x0 15)) fun t20 => jgd (jK t20 x0 = 41) <| jgd (jK t20 (jP t20 x0 9) = 34) <| (if (jI t20 (jP t20 x0 9) 5) = 0 then jb (c_X2_tally F t20 (jP t20 x0 9)) fun t25 => c_X9_without_j91 F t25.2 x0 x1 x2 t25.1 else c_X9_without_j91 F t20 x0 x1 x2 (-4611686018427387904 : Int64)))))
theorem ec_X9_without {X : jX} {l : Launch} {d : Nat} (O : jOk X) (hd : 69 ≤ d) {F : Nat} {m : jMe} {x0 : Nat} {x1 : Int32} {x2 : Int32} {r : Int64 × jMe} (H : c_X9_without F m x0 x1 x2 = some r) : jH X l d jm_X9_without [.inr (.inr x0), .inl x1, .inl x2] m (some (.inr (.inl r.1))) r.2 := by
  refine jH.of jpl_RX9 rfl (Nat.le_of_ble_eq_true rfl) ?_
  show jS X l d jm_X9_without m _ _ (0, [(0, .inr (.inr x0)), (1, .inl x1), (2, .inl x2)], [], m)
  unfold c_X9_without at H
  obtain ⟨w1, H⟩ := jgd_ok H
  refine jS.adv O [(.aload_n 0, 0, 0, 0, 0, 0, 0), (.iload_n 1, 0, 0, 0, 0, 0, 0), (.iload_n 2, 0, 0, 0, 0, 0, 0)] (pc' := 3) (ls' := [(0, .inr (.inr x0)), (1, .inl x1), (2, .inl x2)]) (st' := [.inl x2, .inl x1, .inr (.inr x0)]) (m2 := m) (by decide +kernel) rfl trivial ?_
  obtain ⟨t3, w2, H⟩ := jb_ok H
  refine jS.step (c' := (6, [(0, .inr (.inr x0)), (1, .inl x1), (2, .inl x2)], [.inl t3], m)) (jSt.callV (c := 9) (As := [.inl x1, .inl x2]) (rest := []) O (ec_X9_isRow (d := 3) O (Nat.le_refl _) w2) w1 (by decide) rfl (by omega) jmw_X9_isRow jmv_X9_isRow jmn_X9_isRow (idx := 108) (jW_of 703 (by decide +kernel) rfl) (Nat.le_of_ble_eq_true rfl) (by decide +kernel)) ?_
  refine jS.br (i := .ifCond .eq 23) (P := t3 = 0) (rest := []) rfl (by decide +kernel) (tgt := 29) (by decide) (fun c4 => ?_) (fun c4 => ?_)
  · replace H := jif_t c4 H
    refine jS.adv O [(.ldc2_w 154, 0, 757, 0, 0, 0, (-4611686018427387904 : Int64))] (pc' := 32) (ls' := [(0, .inr (.inr x0)), (1, .inl x1), (2, .inl x2)]) (st' := [.inr (.inl (-4611686018427387904 : Int64))]) (m2 := m) (by decide +kernel) rfl trivial ?_
    replace H := Option.some.inj H
    subst H
    exact jS.lret rfl (by decide +kernel)
  · replace H := jif_f c4 H
    obtain ⟨w5, H⟩ := jgd_ok H
    obtain ⟨w6, H⟩ := jgd_ok H
    obtain ⟨w7, H⟩ := jgd_ok H
    refine jS.adv O [(.aload_n 0, 0, 0, 0, 0, 0, 0), (.getfield 11, 0, 9, 0, 578, 0, 0), (.iload_n 1, 0, 0, 0, 0, 0, 0), (.aaload, 0, 5, 0, 0, 0, 0), (.iload_n 2, 0, 0, 0, 0, 0, 0)] (pc' := 16) (ls' := [(0, .inr (.inr x0)), (1, .inl x1), (2, .inl x2)]) (st' := [.inl x2, .inr (.inr (jP m (jP m x0 0) x1.toNatClampNeg))]) (m2 := m) (by decide +kernel) rfl ⟨w1, ⟨w5, jib_ok w6⟩, trivial⟩ ?_
    obtain ⟨t9, w8, H⟩ := jb_ok H
    refine jS.step (c' := (19, [(0, .inr (.inr x0)), (1, .inl x1), (2, .inl x2)], [.inl t9], m)) (jSt.callV (c := 4) (As := [.inl x2]) (rest := []) O (ec_X4_isLive (d := 3) O (Nat.le_refl _) w8) w7 (by decide) rfl (by omega) jmw_X4_isLive jmv_X4_isLive jmn_X4_isLive (idx := 112) (jW_of 708 (by decide +kernel) rfl) (Nat.le_of_ble_eq_true rfl) (by decide +kernel)) ?_
    refine jS.br (i := .ifCond .eq 10) (P := t9 = 0) (rest := []) rfl (by decide +kernel) (tgt := 29) (by decide) (fun c10 => ?_) (fun c10 => ?_)
    · replace H := jif_t c10 H
      refine jS.adv O [(.ldc2_w 154, 0, 757, 0, 0, 0, (-4611686018427387904 : Int64))] (pc' := 32) (ls' := [(0, .inr (.inr x0)), (1, .inl x1), (2, .inl x2)]) (st' := [.inr (.inl (-4611686018427387904 : Int64))]) (m2 := m) (by decide +kernel) rfl trivial ?_
      replace H := Option.some.inj H
      subst H
      exact jS.lret rfl (by decide +kernel)
    · replace H := jif_f c10 H
      refine jS.adv O [(.aload_n 0, 0, 0, 0, 0, 0, 0), (.getfield 82, 0, 9, 15, 593, 0, 0)] (pc' := 26) (ls' := [(0, .inr (.inr x0)), (1, .inl x1), (2, .inl x2)]) (st' := [.inl (jI m x0 15)]) (m2 := m) (by decide +kernel) rfl ⟨w1, trivial⟩ ?_
      refine jS.br (i := .ifCond .ne 7) (P := ¬ (jI m x0 15) = 0) (rest := []) rfl (by decide +kernel) (tgt := 33) (by decide) (fun c11 => ?_) (fun c11 => ?_)
      · replace H := jif_f c11 H
        obtain ⟨w12, H⟩ := jgd_ok H
        refine jS.adv O [(.aload_n 0, 0, 0, 0, 0, 0, 0), (.getfield 11, 0, 9, 0, 578, 0, 0), (.iload_n 1, 0, 0, 0, 0, 0, 0), (.aaload, 0, 5, 0, 0, 0, 0), (.iload_n 2, 0, 0, 0, 0, 0, 0), (.iconst 0, 0, 0, 0, 0, (0 : Int32), 0)] (pc' := 41) (ls' := [(0, .inr (.inr x0)), (1, .inl x1), (2, .inl x2)]) (st' := [.inl (0 : Int32), .inl x2, .inr (.inr (jP m (jP m x0 0) x1.toNatClampNeg))]) (m2 := m) (by decide +kernel) rfl ⟨w1, ⟨w5, jib_ok w12⟩, trivial⟩ ?_
        obtain ⟨t14, w13, H⟩ := jb_ok H
        refine jS.step (c' := (44, [(0, .inr (.inr x0)), (1, .inl x1), (2, .inl x2)], [], t14)) (jSt.callV (c := 4) (As := [.inl x2, .inl (0 : Int32)]) (rest := []) O (ec_X4_setLive (d := 2) O (Nat.le_refl _) w13) w7 (by decide) rfl (by omega) jmw_X4_setLive jmv_X4_setLive jmn_X4_setLive (idx := 119) (jW_of 713 (by decide +kernel) rfl) (Nat.le_of_ble_eq_true rfl) (by decide +kernel)) ?_
        obtain ⟨w15, H⟩ := jgd_ok H
        obtain ⟨w16, H⟩ := jgd_ok H
        obtain ⟨w17, H⟩ := jgd_ok H
        obtain ⟨w18, H⟩ := jgd_ok H
        refine jS.adv O [(.aload_n 0, 0, 0, 0, 0, 0, 0), (.getfield 62, 0, 9, 9, 587, 0, 0), (.aload_n 0, 0, 0, 0, 0, 0, 0), (.getfield 11, 0, 9, 0, 578, 0, 0), (.aload_n 0, 0, 0, 0, 0, 0, 0), (.getfield 17, 0, 9, 1, 579, 0, 0), (.aload_n 0, 0, 0, 0, 0, 0, 0), (.getfield 79, 0, 9, 14, 592, 0, 0), (.aaload, 0, 6, 0, 0, 0, 0), (.aload_n 0, 0, 0, 0, 0, 0, 0), (.getfield 82, 0, 9, 15, 593, 0, 0)] (pc' := 65) (ls' := [(0, .inr (.inr x0)), (1, .inl x1), (2, .inl x2)]) (st' := [.inl (jI t14 x0 15), .inr (.inr (jP t14 (jP t14 x0 1) (jI t14 x0 14).toNatClampNeg)), .inr (.inr (jP t14 x0 0)), .inr (.inr (jP t14 x0 9))]) (m2 := t14) (by decide +kernel) rfl ⟨w15, w15, w15, w15, ⟨w16, jib_ok w17⟩, w15, trivial⟩ ?_
        obtain ⟨t20, w19, H⟩ := jb_ok H
        refine jS.step (c' := (68, [(0, .inr (.inr x0)), (1, .inl x1), (2, .inl x2)], [], t20)) (jSt.callV (c := 2) (As := [.inr (.inr (jP t14 x0 0)), .inr (.inr (jP t14 (jP t14 x0 1) (jI t14 x0 14).toNatClampNeg)), .inl (jI t14 x0 15)]) (rest := []) O (ec_X2_tell (d := 6) O (Nat.le_refl _) w19) w18 (by decide) rfl (by omega) jmw_X2_tell jmv_X2_tell jmn_X2_tell (idx := 274) (jW_of 766 (by decide +kernel) rfl) (Nat.le_of_ble_eq_true rfl) (by decide +kernel)) ?_
        obtain ⟨w21, H⟩ := jgd_ok H
        obtain ⟨w22, H⟩ := jgd_ok H
        refine jS.adv O [(.aload_n 0, 0, 0, 0, 0, 0, 0), (.getfield 62, 0, 9, 9, 587, 0, 0), (.getfield 193, 0, 2, 5, 434, 0, 0)] (pc' := 75) (ls' := [(0, .inr (.inr x0)), (1, .inl x1), (2, .inl x2)]) (st' := [.inl (jI t20 (jP t20 x0 9) 5)]) (m2 := t20) (by decide +kernel) rfl ⟨w21, w22, trivial⟩ ?_
        refine jS.br (i := .ifCond .eq 9) (P := (jI t20 (jP t20 x0 9) 5) = 0) (rest := []) rfl (by decide +kernel) (tgt := 84) (by decide) (fun c23 => ?_) (fun c23 => ?_)
        · replace H := jif_t c23 H
          refine jS.adv O [(.aload_n 0, 0, 0, 0, 0, 0, 0), (.getfield 62, 0, 9, 9, 587, 0, 0)] (pc' := 88) (ls' := [(0, .inr (.inr x0)), (1, .inl x1), (2, .inl x2)]) (st' := [.inr (.inr (jP t20 x0 9))]) (m2 := t20) (by decide +kernel) rfl ⟨w21, trivial⟩ ?_
          obtain ⟨t25, w24, H⟩ := jb_ok H
          refine jS.step (c' := (91, [(0, .inr (.inr x0)), (1, .inl x1), (2, .inl x2)], [.inr (.inl t25.1)], t25.2)) (jSt.callV (c := 2) (As := []) (rest := []) O (ec_X2_tally (d := 68) O (Nat.le_refl _) w24) w22 (by decide) rfl (by omega) jmw_X2_tally jmv_X2_tally jmn_X2_tally (idx := 227) (jW_of 1092 (by decide +kernel) rfl) (Nat.le_of_ble_eq_true rfl) (by decide +kernel)) ?_
          refine jS.loc' [0, 1, 2] (ls' := [(0, .inr (.inr x0)), (1, .inl x1), (2, .inl x2)]) rfl ?_
          exact ec_X9_without_j91 O hd H
        · replace H := jif_f c23 H
          refine jS.adv O [(.ldc2_w 154, 0, 757, 0, 0, 0, (-4611686018427387904 : Int64)), (.goto 10, 0, 91, 0, 0, 0, 0)] (pc' := 91) (ls' := [(0, .inr (.inr x0)), (1, .inl x1), (2, .inl x2)]) (st' := [.inr (.inl (-4611686018427387904 : Int64))]) (m2 := t20) (by decide +kernel) rfl trivial ?_
          refine jS.loc' [0, 1, 2] (ls' := [(0, .inr (.inr x0)), (1, .inl x1), (2, .inl x2)]) rfl ?_
          exact ec_X9_without_j91 O hd H
      · replace H := jif_t (Classical.not_not.mp c11) H
        refine jS.adv O [(.ldc2_w 154, 0, 757, 0, 0, 0, (-4611686018427387904 : Int64))] (pc' := 32) (ls' := [(0, .inr (.inr x0)), (1, .inl x1), (2, .inl x2)]) (st' := [.inr (.inl (-4611686018427387904 : Int64))]) (m2 := m) (by decide +kernel) rfl trivial ?_
        replace H := Option.some.inj H
        subst H
        exact jS.lret rfl (by decide +kernel)
def c_X9_key_j84_l39 (F : Nat) (B : jMe → Nat → Int32 → Nat → Int64 → Int32 → Int32 → Option (jMe × Int32 × Nat × Int64 × Int32)) (m : jMe) (y0 : Nat) (y1 : Int32) (y2 : Nat) (y3 : Int64) (y5 : Int32) (y6 : Int32) (s0 : Int32) : Option (jMe × Int32 × Nat × Int64 × Int32) :=
  (if s0 = 0 then B m y0 y1 y2 y3 y5 (y6 + (1 : Int32)) else (if y5 = (-1 : Int32) then B m y0 y1 y2 y3 y6 (y6 + (1 : Int32)) else jgd (jK m y2 = 34) <| jgd (jK m (jP m y2 4) = 2) <| jgd (jin y6 (jZ m (jP m y2 4)) = true) <| jgd (jin y5 (jZ m (jP m y2 4)) = true) <| (if (lg_cmp (jL m (jP m y2 4) y6.toNatClampNeg) (jL m (jP m y2 4) y5.toNatClampNeg)) ≤ 0 then B m y0 y1 y2 y3 y5 (y6 + (1 : Int32)) else B m y0 y1 y2 y3 y6 (y6 + (1 : Int32)))))
theorem ec_X9_key_j84_l39 {X : jX} {l : Launch} {d : Nat} (O : jOk X) (hd : 69 ≤ d) {F : Nat} {m0 m' : jMe} {v : Option jAV} {B : jMe → Nat → Int32 → Nat → Int64 → Int32 → Int32 → Option (jMe × Int32 × Nat × Int64 × Int32)} (hB : ∀ (m : jMe) (y0 : Nat) (y1 : Int32) (y2 : Nat) (y3 : Int64) (y5 : Int32) (y6 : Int32) (r : jMe × Int32 × Nat × Int64 × Int32), B m y0 y1 y2 y3 y5 y6 = some r → (jS X l d jm_X9_key m0 v m' (125, [(1, .inl r.2.1), (2, .inr (.inr r.2.2.1)), (3, .inr (.inl r.2.2.2.1)), (5, .inl r.2.2.2.2)], [], r.1)) → jS X l d jm_X9_key m0 v m' (39, [(0, .inr (.inr y0)), (1, .inl y1), (2, .inr (.inr y2)), (3, .inr (.inl y3)), (5, .inl y5), (6, .inl y6)], [], m)) {m : jMe} {y0 : Nat} {y1 : Int32} {y2 : Nat} {y3 : Int64} {y5 : Int32} {y6 : Int32} {s0 : Int32} {r : jMe × Int32 × Nat × Int64 × Int32} (H : c_X9_key_j84_l39 F B m y0 y1 y2 y3 y5 y6 s0 = some r) (h2 : jS X l d jm_X9_key m0 v m' (125, [(1, .inl r.2.1), (2, .inr (.inr r.2.2.1)), (3, .inr (.inl r.2.2.2.1)), (5, .inl r.2.2.2.2)], [], r.1)) : jS X l d jm_X9_key m0 v m' (84, [(0, .inr (.inr y0)), (1, .inl y1), (2, .inr (.inr y2)), (3, .inr (.inl y3)), (5, .inl y5), (6, .inl y6)], [.inl s0], m) := by
  unfold c_X9_key_j84_l39 at H
  refine jS.adv O [(.istore 7, 0, 0, 0, 0, 0, 0), (.iload 7, 0, 0, 0, 0, 0, 0)] (pc' := 88) (ls' := [(7, .inl s0), (0, .inr (.inr y0)), (1, .inl y1), (2, .inr (.inr y2)), (3, .inr (.inl y3)), (5, .inl y5), (6, .inl y6)]) (st' := [.inl s0]) (m2 := m) (by decide +kernel) rfl trivial ?_
  refine jS.br (i := .ifCond .eq 31) (P := s0 = 0) (rest := []) rfl (by decide +kernel) (tgt := 119) (by decide) (fun c21 => ?_) (fun c21 => ?_)
  · replace H := jif_t c21 H
    refine jS.adv O [(.iinc 6 1, 0, 0, 0, 0, (1 : Int32), 0), (.goto (-83), 0, 39, 0, 0, 0, 0)] (pc' := 39) (ls' := [(6, .inl (y6 + (1 : Int32))), (7, .inl s0), (0, .inr (.inr y0)), (1, .inl y1), (2, .inr (.inr y2)), (3, .inr (.inl y3)), (5, .inl y5)]) (st' := []) (m2 := m) (by decide +kernel) rfl trivial ?_
    refine jS.loc' [2, 3, 4, 5, 6, 0] (ls' := [(0, .inr (.inr y0)), (1, .inl y1), (2, .inr (.inr y2)), (3, .inr (.inl y3)), (5, .inl y5), (6, .inl (y6 + (1 : Int32)))]) rfl ?_
    exact hB _ _ _ _ _ _ _ _ H h2
  · replace H := jif_f c21 H
    refine jS.adv O [(.iload 5, 0, 0, 0, 0, 0, 0), (.iconst (-1), 0, 0, 0, 0, (-1 : Int32), 0)] (pc' := 94) (ls' := [(7, .inl s0), (0, .inr (.inr y0)), (1, .inl y1), (2, .inr (.inr y2)), (3, .inr (.inl y3)), (5, .inl y5), (6, .inl y6)]) (st' := [.inl (-1 : Int32), .inl y5]) (m2 := m) (by decide +kernel) rfl trivial ?_
    refine jS.br (i := .if_icmp .eq 21) (P := y5 = (-1 : Int32)) (rest := []) rfl (by decide +kernel) (tgt := 115) (by decide) (fun c22 => ?_) (fun c22 => ?_)
    · replace H := jif_t c22 H
      refine jS.adv O [(.iload 6, 0, 0, 0, 0, 0, 0), (.istore 5, 0, 0, 0, 0, 0, 0), (.iinc 6 1, 0, 0, 0, 0, (1 : Int32), 0), (.goto (-83), 0, 39, 0, 0, 0, 0)] (pc' := 39) (ls' := [(6, .inl (y6 + (1 : Int32))), (5, .inl y6), (7, .inl s0), (0, .inr (.inr y0)), (1, .inl y1), (2, .inr (.inr y2)), (3, .inr (.inl y3))]) (st' := []) (m2 := m) (by decide +kernel) rfl trivial ?_
      refine jS.loc' [3, 4, 5, 6, 1, 0] (ls' := [(0, .inr (.inr y0)), (1, .inl y1), (2, .inr (.inr y2)), (3, .inr (.inl y3)), (5, .inl y6), (6, .inl (y6 + (1 : Int32)))]) rfl ?_
      exact hB _ _ _ _ _ _ _ _ H h2
    · replace H := jif_f c22 H
      obtain ⟨w23, H⟩ := jgd_ok H
      obtain ⟨w24, H⟩ := jgd_ok H
      obtain ⟨w25, H⟩ := jgd_ok H
      obtain ⟨w26, H⟩ := jgd_ok H
      refine jS.adv O [(.aload_n 2, 0, 0, 0, 0, 0, 0), (.getfield 260, 0, 2, 4, 432, 0, 0), (.iload 6, 0, 0, 0, 0, 0, 0), (.laload, 0, 0, 0, 0, 0, 0), (.aload_n 2, 0, 0, 0, 0, 0, 0), (.getfield 260, 0, 2, 4, 432, 0, 0), (.iload 5, 0, 0, 0, 0, 0, 0), (.laload, 0, 0, 0, 0, 0, 0), (.lcmp, 0, 0, 0, 0, 0, 0)] (pc' := 112) (ls' := [(7, .inl s0), (0, .inr (.inr y0)), (1, .inl y1), (2, .inr (.inr y2)), (3, .inr (.inl y3)), (5, .inl y5), (6, .inl y6)]) (st' := [.inl (lg_cmp (jL m (jP m y2 4) y6.toNatClampNeg) (jL m (jP m y2 4) y5.toNatClampNeg))]) (m2 := m) (by decide +kernel) rfl ⟨w23, ⟨w24, jib_ok w25⟩, w23, ⟨w24, jib_ok w26⟩, trivial⟩ ?_
      refine jS.br (i := .ifCond .le 7) (P := (lg_cmp (jL m (jP m y2 4) y6.toNatClampNeg) (jL m (jP m y2 4) y5.toNatClampNeg)) ≤ 0) (rest := []) rfl (by decide +kernel) (tgt := 119) (by decide) (fun c27 => ?_) (fun c27 => ?_)
      · replace H := jif_t c27 H
        refine jS.adv O [(.iinc 6 1, 0, 0, 0, 0, (1 : Int32), 0), (.goto (-83), 0, 39, 0, 0, 0, 0)] (pc' := 39) (ls' := [(6, .inl (y6 + (1 : Int32))), (7, .inl s0), (0, .inr (.inr y0)), (1, .inl y1), (2, .inr (.inr y2)), (3, .inr (.inl y3)), (5, .inl y5)]) (st' := []) (m2 := m) (by decide +kernel) rfl trivial ?_
        refine jS.loc' [2, 3, 4, 5, 6, 0] (ls' := [(0, .inr (.inr y0)), (1, .inl y1), (2, .inr (.inr y2)), (3, .inr (.inl y3)), (5, .inl y5), (6, .inl (y6 + (1 : Int32)))]) rfl ?_
        exact hB _ _ _ _ _ _ _ _ H h2
      · replace H := jif_f c27 H
        refine jS.adv O [(.iload 6, 0, 0, 0, 0, 0, 0), (.istore 5, 0, 0, 0, 0, 0, 0), (.iinc 6 1, 0, 0, 0, 0, (1 : Int32), 0), (.goto (-83), 0, 39, 0, 0, 0, 0)] (pc' := 39) (ls' := [(6, .inl (y6 + (1 : Int32))), (5, .inl y6), (7, .inl s0), (0, .inr (.inr y0)), (1, .inl y1), (2, .inr (.inr y2)), (3, .inr (.inl y3))]) (st' := []) (m2 := m) (by decide +kernel) rfl trivial ?_
        refine jS.loc' [3, 4, 5, 6, 1, 0] (ls' := [(0, .inr (.inr y0)), (1, .inl y1), (2, .inr (.inr y2)), (3, .inr (.inl y3)), (5, .inl y6), (6, .inl (y6 + (1 : Int32)))]) rfl ?_
        exact hB _ _ _ _ _ _ _ _ H h2
def c_X9_key_l39_b (F : Nat) (B : jMe → Nat → Int32 → Nat → Int64 → Int32 → Int32 → Option (jMe × Int32 × Nat × Int64 × Int32)) (m : jMe) (y0 : Nat) (y1 : Int32) (y2 : Nat) (y3 : Int64) (y5 : Int32) (y6 : Int32) : Option (jMe × Int32 × Nat × Int64 × Int32) :=
  (if (32 : Int32) ≤ y6 then some (m, y1, y2, y3, y5) else jgd (jK m y0 = 41) <| jb (c_X9_isAsked F m y0 (y6 / (8 : Int32))) fun t19 => (if t19 = 0 then c_X9_key_j84_l39 F B m y0 y1 y2 y3 y5 y6 (0 : Int32) else jgd (jK m (jP m y0 0) = 5) <| jgd (jin (y6 / (8 : Int32)) (jZ m (jP m y0 0)) = true) <| jgd (jK m (jP m (jP m y0 0) (y6 / (8 : Int32)).toNatClampNeg) = 36) <| jb (c_X4_isLive F m (jP m (jP m y0 0) (y6 / (8 : Int32)).toNatClampNeg) (jrem y6 (8 : Int32))) fun t32 => (if t32 = 0 then c_X9_key_j84_l39 F B m y0 y1 y2 y3 y5 y6 (0 : Int32) else c_X9_key_j84_l39 F B m y0 y1 y2 y3 y5 y6 (1 : Int32))))
theorem ec_X9_key_l39_b {X : jX} {l : Launch} {d : Nat} (O : jOk X) (hd : 69 ≤ d) {F : Nat} {m0 m' : jMe} {v : Option jAV} {B : jMe → Nat → Int32 → Nat → Int64 → Int32 → Int32 → Option (jMe × Int32 × Nat × Int64 × Int32)} (hB : ∀ (m : jMe) (y0 : Nat) (y1 : Int32) (y2 : Nat) (y3 : Int64) (y5 : Int32) (y6 : Int32) (r : jMe × Int32 × Nat × Int64 × Int32), B m y0 y1 y2 y3 y5 y6 = some r → (jS X l d jm_X9_key m0 v m' (125, [(1, .inl r.2.1), (2, .inr (.inr r.2.2.1)), (3, .inr (.inl r.2.2.2.1)), (5, .inl r.2.2.2.2)], [], r.1)) → jS X l d jm_X9_key m0 v m' (39, [(0, .inr (.inr y0)), (1, .inl y1), (2, .inr (.inr y2)), (3, .inr (.inl y3)), (5, .inl y5), (6, .inl y6)], [], m)) {m : jMe} {y0 : Nat} {y1 : Int32} {y2 : Nat} {y3 : Int64} {y5 : Int32} {y6 : Int32} {r : jMe × Int32 × Nat × Int64 × Int32} (H : c_X9_key_l39_b F B m y0 y1 y2 y3 y5 y6 = some r) (h2 : jS X l d jm_X9_key m0 v m' (125, [(1, .inl r.2.1), (2, .inr (.inr r.2.2.1)), (3, .inr (.inl r.2.2.2.1)), (5, .inl r.2.2.2.2)], [], r.1)) : jS X l d jm_X9_key m0 v m' (39, [(0, .inr (.inr y0)), (1, .inl y1), (2, .inr (.inr y2)), (3, .inr (.inl y3)), (5, .inl y5), (6, .inl y6)], [], m) := by
  unfold c_X9_key_l39_b at H
  refine jS.adv O [(.iload 6, 0, 0, 0, 0, 0, 0), (.bipush 32, 0, 0, 0, 0, (32 : Int32), 0)] (pc' := 43) (ls' := [(0, .inr (.inr y0)), (1, .inl y1), (2, .inr (.inr y2)), (3, .inr (.inl y3)), (5, .inl y5), (6, .inl y6)]) (st' := [.inl (32 : Int32), .inl y6]) (m2 := m) (by decide +kernel) rfl trivial ?_
  refine jS.br (i := .if_icmp .ge 82) (P := (32 : Int32) ≤ y6) (rest := []) rfl (by decide +kernel) (tgt := 125) (by decide) (fun c16 => ?_) (fun c16 => ?_)
  · replace H := jif_t c16 H
    replace H := Option.some.inj H
    subst H
    refine jS.loc' [1, 2, 3, 4] (ls' := [(1, .inl y1), (2, .inr (.inr y2)), (3, .inr (.inl y3)), (5, .inl y5)]) rfl ?_
    exact h2
  · replace H := jif_f c16 H
    obtain ⟨w17, H⟩ := jgd_ok H
    refine jS.adv O [(.aload_n 0, 0, 0, 0, 0, 0, 0), (.iload 6, 0, 0, 0, 0, 0, 0), (.bipush 8, 0, 0, 0, 0, (8 : Int32), 0), (.idiv, 0, 0, 0, 0, 0, 0)] (pc' := 52) (ls' := [(0, .inr (.inr y0)), (1, .inl y1), (2, .inr (.inr y2)), (3, .inr (.inl y3)), (5, .inl y5), (6, .inl y6)]) (st' := [.inl (y6 / (8 : Int32)), .inr (.inr y0)]) (m2 := m) (by decide +kernel) rfl ⟨(by decide), trivial⟩ ?_
    obtain ⟨t19, w18, H⟩ := jb_ok H
    refine jS.step (c' := (55, [(0, .inr (.inr y0)), (1, .inl y1), (2, .inr (.inr y2)), (3, .inr (.inl y3)), (5, .inl y5), (6, .inl y6)], [.inl t19], m)) (jSt.callV (c := 9) (As := [.inl (y6 / (8 : Int32))]) (rest := []) O (ec_X9_isAsked (d := 3) O (Nat.le_refl _) w18) w17 (by decide) rfl (by omega) jmw_X9_isAsked jmv_X9_isAsked jmn_X9_isAsked (idx := 257) (jW_of 841 (by decide +kernel) rfl) (Nat.le_of_ble_eq_true rfl) (by decide +kernel)) ?_
    refine jS.br (i := .ifCond .eq 28) (P := t19 = 0) (rest := []) rfl (by decide +kernel) (tgt := 83) (by decide) (fun c20 => ?_) (fun c20 => ?_)
    · replace H := jif_t c20 H
      refine jS.adv O [(.iconst 0, 0, 0, 0, 0, (0 : Int32), 0)] (pc' := 84) (ls' := [(0, .inr (.inr y0)), (1, .inl y1), (2, .inr (.inr y2)), (3, .inr (.inl y3)), (5, .inl y5), (6, .inl y6)]) (st' := [.inl (0 : Int32)]) (m2 := m) (by decide +kernel) rfl trivial ?_
      refine jS.loc' [0, 1, 2, 3, 4, 5] (ls' := [(0, .inr (.inr y0)), (1, .inl y1), (2, .inr (.inr y2)), (3, .inr (.inl y3)), (5, .inl y5), (6, .inl y6)]) rfl ?_
      exact ec_X9_key_j84_l39 O hd hB H h2
    · replace H := jif_f c20 H
      obtain ⟨w28, H⟩ := jgd_ok H
      obtain ⟨w29, H⟩ := jgd_ok H
      obtain ⟨w30, H⟩ := jgd_ok H
      refine jS.adv O [(.aload_n 0, 0, 0, 0, 0, 0, 0), (.getfield 11, 0, 9, 0, 578, 0, 0), (.iload 6, 0, 0, 0, 0, 0, 0), (.bipush 8, 0, 0, 0, 0, (8 : Int32), 0), (.idiv, 0, 0, 0, 0, 0, 0), (.aaload, 0, 5, 0, 0, 0, 0), (.iload 6, 0, 0, 0, 0, 0, 0), (.bipush 8, 0, 0, 0, 0, (8 : Int32), 0), (.irem, 0, 0, 0, 0, 0, 0)] (pc' := 73) (ls' := [(0, .inr (.inr y0)), (1, .inl y1), (2, .inr (.inr y2)), (3, .inr (.inl y3)), (5, .inl y5), (6, .inl y6)]) (st' := [.inl (jrem y6 (8 : Int32)), .inr (.inr (jP m (jP m y0 0) (y6 / (8 : Int32)).toNatClampNeg))]) (m2 := m) (by decide +kernel) rfl ⟨w17, (by decide), ⟨w28, jib_ok w29⟩, (by decide), trivial⟩ ?_
      obtain ⟨t32, w31, H⟩ := jb_ok H
      refine jS.step (c' := (76, [(0, .inr (.inr y0)), (1, .inl y1), (2, .inr (.inr y2)), (3, .inr (.inl y3)), (5, .inl y5), (6, .inl y6)], [.inl t32], m)) (jSt.callV (c := 4) (As := [.inl (jrem y6 (8 : Int32))]) (rest := []) O (ec_X4_isLive (d := 3) O (Nat.le_refl _) w31) w30 (by decide) rfl (by omega) jmw_X4_isLive jmv_X4_isLive jmn_X4_isLive (idx := 112) (jW_of 708 (by decide +kernel) rfl) (Nat.le_of_ble_eq_true rfl) (by decide +kernel)) ?_
      refine jS.br (i := .ifCond .eq 7) (P := t32 = 0) (rest := []) rfl (by decide +kernel) (tgt := 83) (by decide) (fun c33 => ?_) (fun c33 => ?_)
      · replace H := jif_t c33 H
        refine jS.adv O [(.iconst 0, 0, 0, 0, 0, (0 : Int32), 0)] (pc' := 84) (ls' := [(0, .inr (.inr y0)), (1, .inl y1), (2, .inr (.inr y2)), (3, .inr (.inl y3)), (5, .inl y5), (6, .inl y6)]) (st' := [.inl (0 : Int32)]) (m2 := m) (by decide +kernel) rfl trivial ?_
        refine jS.loc' [0, 1, 2, 3, 4, 5] (ls' := [(0, .inr (.inr y0)), (1, .inl y1), (2, .inr (.inr y2)), (3, .inr (.inl y3)), (5, .inl y5), (6, .inl y6)]) rfl ?_
        exact ec_X9_key_j84_l39 O hd hB H h2
      · replace H := jif_f c33 H
        refine jS.adv O [(.iconst 1, 0, 0, 0, 0, (1 : Int32), 0), (.goto 4, 0, 84, 0, 0, 0, 0)] (pc' := 84) (ls' := [(0, .inr (.inr y0)), (1, .inl y1), (2, .inr (.inr y2)), (3, .inr (.inl y3)), (5, .inl y5), (6, .inl y6)]) (st' := [.inl (1 : Int32)]) (m2 := m) (by decide +kernel) rfl trivial ?_
        refine jS.loc' [0, 1, 2, 3, 4, 5] (ls' := [(0, .inr (.inr y0)), (1, .inl y1), (2, .inr (.inr y2)), (3, .inr (.inl y3)), (5, .inl y5), (6, .inl y6)]) rfl ?_
        exact ec_X9_key_j84_l39 O hd hB H h2
def c_X9_key_l39 (F : Nat) : Nat → jMe → Nat → Int32 → Nat → Int64 → Int32 → Int32 → Option (jMe × Int32 × Nat × Int64 × Int32)
  | 0, _, _, _, _, _, _, _ => none
  | n + 1, m, y0, y1, y2, y3, y5, y6 => c_X9_key_l39_b F (fun m y0 y1 y2 y3 y5 y6 => c_X9_key_l39 F n m y0 y1 y2 y3 y5 y6) m y0 y1 y2 y3 y5 y6
theorem ec_X9_key_l39 {X : jX} {l : Launch} {d : Nat} (O : jOk X) (hd : 69 ≤ d) {F : Nat} {m0 m' : jMe} {v : Option jAV} : ∀ (n : Nat) {m : jMe} {y0 : Nat} {y1 : Int32} {y2 : Nat} {y3 : Int64} {y5 : Int32} {y6 : Int32} {r : jMe × Int32 × Nat × Int64 × Int32} (H : c_X9_key_l39 F n m y0 y1 y2 y3 y5 y6 = some r) (h2 : jS X l d jm_X9_key m0 v m' (125, [(1, .inl r.2.1), (2, .inr (.inr r.2.2.1)), (3, .inr (.inl r.2.2.2.1)), (5, .inl r.2.2.2.2)], [], r.1)), jS X l d jm_X9_key m0 v m' (39, [(0, .inr (.inr y0)), (1, .inl y1), (2, .inr (.inr y2)), (3, .inr (.inl y3)), (5, .inl y5), (6, .inl y6)], [], m) := by
  intro n
  induction n with
  | zero =>
    intro m y0 y1 y2 y3 y5 y6 r H h2
    cases (show none = some r from H)
  | succ n ih =>
    intro m y0 y1 y2 y3 y5 y6 r H h2
    exact ec_X9_key_l39_b O hd (B := (fun m y0 y1 y2 y3 y5 y6 => c_X9_key_l39 F n m y0 y1 y2 y3 y5 y6)) (fun m y0 y1 y2 y3 y5 y6 r H h2 => ih H h2) H h2
def c_X9_key (F : Nat) (m : jMe) (x0 : Nat) (x1 : Int32) : Option (Int64 × jMe) :=
  (if x1 < 0 then some ((-4611686018427387904 : Int64), m) else (if (1 : Int32) < x1 then some ((-4611686018427387904 : Int64), m) else jgd (jK m x0 = 41) <| jb (c_X9_current F m x0) fun t5 => jgd (jK t5.2 t5.1 = 34) <| jb (c_X2_isTold F t5.2 t5.1) fun t8 => (if t8 = 0 then some ((-4611686018427387904 : Int64), t5.2) else jgd (jK t5.2 x0 = 41) <| jb (c_X9_current F t5.2 x0) fun t12 => jgd (jK t12.2 t12.1 = 34) <| jb (c_X2_tally F t12.2 t12.1) fun t15 => jb (c_X9_key_l39 F F t15.2 x0 x1 t12.1 t15.1 (-1 : Int32) (0 : Int32)) fun e35 => (if e35.2.2.2.2 = (-1 : Int32) then some ((-4611686018427387904 : Int64), e35.1) else (if e35.2.1 = 0 then some ((Int32.toInt64 e35.2.2.2.2), e35.1) else jgd (jK e35.1 e35.2.2.1 = 34) <| jgd (jK e35.1 (jP e35.1 e35.2.2.1 4) = 2) <| jgd (jin e35.2.2.2.2 (jZ e35.1 (jP e35.1 e35.2.2.1 4)) = true) <| some ((e35.2.2.2.1 - (jL e35.1 (jP e35.1 e35.2.2.1 4) e35.2.2.2.2.toNatClampNeg)), e35.1))))))
theorem ec_X9_key {X : jX} {l : Launch} {d : Nat} (O : jOk X) (hd : 69 ≤ d) {F : Nat} {m : jMe} {x0 : Nat} {x1 : Int32} {r : Int64 × jMe} (H : c_X9_key F m x0 x1 = some r) : jH X l d jm_X9_key [.inr (.inr x0), .inl x1] m (some (.inr (.inl r.1))) r.2 := by
  refine jH.of jpl_RX9 rfl (Nat.le_of_ble_eq_true rfl) ?_
  show jS X l d jm_X9_key m _ _ (0, [(0, .inr (.inr x0)), (1, .inl x1)], [], m)
  unfold c_X9_key at H
  refine jS.adv O [(.iload_n 1, 0, 0, 0, 0, 0, 0)] (pc' := 1) (ls' := [(0, .inr (.inr x0)), (1, .inl x1)]) (st' := [.inl x1]) (m2 := m) (by decide +kernel) rfl trivial ?_
  refine jS.br (i := .ifCond .lt 18) (P := x1 < 0) (rest := []) rfl (by decide +kernel) (tgt := 19) (by decide) (fun c1 => ?_) (fun c1 => ?_)
  · replace H := jif_t c1 H
    refine jS.adv O [(.ldc2_w 154, 0, 757, 0, 0, 0, (-4611686018427387904 : Int64))] (pc' := 22) (ls' := [(0, .inr (.inr x0)), (1, .inl x1)]) (st' := [.inr (.inl (-4611686018427387904 : Int64))]) (m2 := m) (by decide +kernel) rfl trivial ?_
    replace H := Option.some.inj H
    subst H
    exact jS.lret rfl (by decide +kernel)
  · replace H := jif_f c1 H
    refine jS.adv O [(.iload_n 1, 0, 0, 0, 0, 0, 0), (.iconst 1, 0, 0, 0, 0, (1 : Int32), 0)] (pc' := 6) (ls' := [(0, .inr (.inr x0)), (1, .inl x1)]) (st' := [.inl (1 : Int32), .inl x1]) (m2 := m) (by decide +kernel) rfl trivial ?_
    refine jS.br (i := .if_icmp .gt 13) (P := (1 : Int32) < x1) (rest := []) rfl (by decide +kernel) (tgt := 19) (by decide) (fun c2 => ?_) (fun c2 => ?_)
    · replace H := jif_t c2 H
      refine jS.adv O [(.ldc2_w 154, 0, 757, 0, 0, 0, (-4611686018427387904 : Int64))] (pc' := 22) (ls' := [(0, .inr (.inr x0)), (1, .inl x1)]) (st' := [.inr (.inl (-4611686018427387904 : Int64))]) (m2 := m) (by decide +kernel) rfl trivial ?_
      replace H := Option.some.inj H
      subst H
      exact jS.lret rfl (by decide +kernel)
    · replace H := jif_f c2 H
      obtain ⟨w3, H⟩ := jgd_ok H
      refine jS.adv O [(.aload_n 0, 0, 0, 0, 0, 0, 0)] (pc' := 10) (ls' := [(0, .inr (.inr x0)), (1, .inl x1)]) (st' := [.inr (.inr x0)]) (m2 := m) (by decide +kernel) rfl trivial ?_
      obtain ⟨t5, w4, H⟩ := jb_ok H
      refine jS.step (c' := (13, [(0, .inr (.inr x0)), (1, .inl x1)], [.inr (.inr t5.1)], t5.2)) (jSt.callV (c := 9) (As := []) (rest := []) O (ec_X9_current (d := 7) O (Nat.le_refl _) w4) w3 (by decide) rfl (by omega) jmw_X9_current jmv_X9_current jmn_X9_current (idx := 165) (jW_of 762 (by decide +kernel) rfl) (Nat.le_of_ble_eq_true rfl) (by decide +kernel)) ?_
      obtain ⟨w6, H⟩ := jgd_ok H
      obtain ⟨t8, w7, H⟩ := jb_ok H
      refine jS.step (c' := (16, [(0, .inr (.inr x0)), (1, .inl x1)], [.inl t8], t5.2)) (jSt.callV (c := 2) (As := []) (rest := []) O (ec_X2_isTold (d := 2) O (Nat.le_refl _) w7) w6 (by decide) rfl (by omega) jmw_X2_isTold jmv_X2_isTold jmn_X2_isTold (idx := 213) (jW_of 1076 (by decide +kernel) rfl) (Nat.le_of_ble_eq_true rfl) (by decide +kernel)) ?_
      refine jS.br (i := .ifCond .ne 7) (P := ¬ t8 = 0) (rest := []) rfl (by decide +kernel) (tgt := 23) (by decide) (fun c9 => ?_) (fun c9 => ?_)
      · replace H := jif_f c9 H
        obtain ⟨w10, H⟩ := jgd_ok H
        refine jS.adv O [(.aload_n 0, 0, 0, 0, 0, 0, 0)] (pc' := 24) (ls' := [(0, .inr (.inr x0)), (1, .inl x1)]) (st' := [.inr (.inr x0)]) (m2 := t5.2) (by decide +kernel) rfl trivial ?_
        obtain ⟨t12, w11, H⟩ := jb_ok H
        refine jS.step (c' := (27, [(0, .inr (.inr x0)), (1, .inl x1)], [.inr (.inr t12.1)], t12.2)) (jSt.callV (c := 9) (As := []) (rest := []) O (ec_X9_current (d := 7) O (Nat.le_refl _) w11) w10 (by decide) rfl (by omega) jmw_X9_current jmv_X9_current jmn_X9_current (idx := 165) (jW_of 762 (by decide +kernel) rfl) (Nat.le_of_ble_eq_true rfl) (by decide +kernel)) ?_
        obtain ⟨w13, H⟩ := jgd_ok H
        refine jS.adv O [(.astore_n 2, 0, 0, 0, 0, 0, 0), (.aload_n 2, 0, 0, 0, 0, 0, 0)] (pc' := 29) (ls' := [(2, .inr (.inr t12.1)), (0, .inr (.inr x0)), (1, .inl x1)]) (st' := [.inr (.inr t12.1)]) (m2 := t12.2) (by decide +kernel) rfl trivial ?_
        obtain ⟨t15, w14, H⟩ := jb_ok H
        refine jS.step (c' := (32, [(2, .inr (.inr t12.1)), (0, .inr (.inr x0)), (1, .inl x1)], [.inr (.inl t15.1)], t15.2)) (jSt.callV (c := 2) (As := []) (rest := []) O (ec_X2_tally (d := 68) O (Nat.le_refl _) w14) w13 (by decide) rfl (by omega) jmw_X2_tally jmv_X2_tally jmn_X2_tally (idx := 227) (jW_of 1092 (by decide +kernel) rfl) (Nat.le_of_ble_eq_true rfl) (by decide +kernel)) ?_
        refine jS.adv O [(.lstore_n 3, 0, 0, 0, 0, 0, 0), (.iconst (-1), 0, 0, 0, 0, (-1 : Int32), 0), (.istore 5, 0, 0, 0, 0, 0, 0), (.iconst 0, 0, 0, 0, 0, (0 : Int32), 0), (.istore 6, 0, 0, 0, 0, 0, 0)] (pc' := 39) (ls' := [(6, .inl (0 : Int32)), (5, .inl (-1 : Int32)), (3, .inr (.inl t15.1)), (2, .inr (.inr t12.1)), (0, .inr (.inr x0)), (1, .inl x1)]) (st' := []) (m2 := t15.2) (by decide +kernel) rfl trivial ?_
        refine jS.loc' [4, 5, 3, 2, 1, 0] (ls' := [(0, .inr (.inr x0)), (1, .inl x1), (2, .inr (.inr t12.1)), (3, .inr (.inl t15.1)), (5, .inl (-1 : Int32)), (6, .inl (0 : Int32))]) rfl ?_
        obtain ⟨e35, w36, H⟩ := jb_ok H
        refine ec_X9_key_l39 O hd F w36 ?_
        refine jS.adv O [(.iload 5, 0, 0, 0, 0, 0, 0), (.iconst (-1), 0, 0, 0, 0, (-1 : Int32), 0)] (pc' := 128) (ls' := [(1, .inl e35.2.1), (2, .inr (.inr e35.2.2.1)), (3, .inr (.inl e35.2.2.2.1)), (5, .inl e35.2.2.2.2)]) (st' := [.inl (-1 : Int32), .inl e35.2.2.2.2]) (m2 := e35.1) (by decide +kernel) rfl trivial ?_
        refine jS.br (i := .if_icmp .ne 7) (P := ¬ e35.2.2.2.2 = (-1 : Int32)) (rest := []) rfl (by decide +kernel) (tgt := 135) (by decide) (fun c37 => ?_) (fun c37 => ?_)
        · replace H := jif_f c37 H
          refine jS.adv O [(.iload_n 1, 0, 0, 0, 0, 0, 0)] (pc' := 136) (ls' := [(1, .inl e35.2.1), (2, .inr (.inr e35.2.2.1)), (3, .inr (.inl e35.2.2.2.1)), (5, .inl e35.2.2.2.2)]) (st' := [.inl e35.2.1]) (m2 := e35.1) (by decide +kernel) rfl trivial ?_
          refine jS.br (i := .ifCond .ne 9) (P := ¬ e35.2.1 = 0) (rest := []) rfl (by decide +kernel) (tgt := 145) (by decide) (fun c38 => ?_) (fun c38 => ?_)
          · replace H := jif_f c38 H
            obtain ⟨w39, H⟩ := jgd_ok H
            obtain ⟨w40, H⟩ := jgd_ok H
            obtain ⟨w41, H⟩ := jgd_ok H
            refine jS.adv O [(.lload_n 3, 0, 0, 0, 0, 0, 0), (.aload_n 2, 0, 0, 0, 0, 0, 0), (.getfield 260, 0, 2, 4, 432, 0, 0), (.iload 5, 0, 0, 0, 0, 0, 0), (.laload, 0, 0, 0, 0, 0, 0), (.lsub, 0, 0, 0, 0, 0, 0)] (pc' := 154) (ls' := [(1, .inl e35.2.1), (2, .inr (.inr e35.2.2.1)), (3, .inr (.inl e35.2.2.2.1)), (5, .inl e35.2.2.2.2)]) (st' := [.inr (.inl (e35.2.2.2.1 - (jL e35.1 (jP e35.1 e35.2.2.1 4) e35.2.2.2.2.toNatClampNeg)))]) (m2 := e35.1) (by decide +kernel) rfl ⟨w39, ⟨w40, jib_ok w41⟩, trivial⟩ ?_
            replace H := Option.some.inj H
            subst H
            exact jS.lret rfl (by decide +kernel)
          · replace H := jif_t (Classical.not_not.mp c38) H
            refine jS.adv O [(.iload 5, 0, 0, 0, 0, 0, 0), (.i2l, 0, 0, 0, 0, 0, 0), (.goto 12, 0, 154, 0, 0, 0, 0)] (pc' := 154) (ls' := [(1, .inl e35.2.1), (2, .inr (.inr e35.2.2.1)), (3, .inr (.inl e35.2.2.2.1)), (5, .inl e35.2.2.2.2)]) (st' := [.inr (.inl (Int32.toInt64 e35.2.2.2.2))]) (m2 := e35.1) (by decide +kernel) rfl trivial ?_
            replace H := Option.some.inj H
            subst H
            exact jS.lret rfl (by decide +kernel)
        · replace H := jif_t (Classical.not_not.mp c37) H
          refine jS.adv O [(.ldc2_w 154, 0, 757, 0, 0, 0, (-4611686018427387904 : Int64))] (pc' := 134) (ls' := [(1, .inl e35.2.1), (2, .inr (.inr e35.2.2.1)), (3, .inr (.inl e35.2.2.2.1)), (5, .inl e35.2.2.2.2)]) (st' := [.inr (.inl (-4611686018427387904 : Int64))]) (m2 := e35.1) (by decide +kernel) rfl trivial ?_
          replace H := Option.some.inj H
          subst H
          exact jS.lret rfl (by decide +kernel)
      · replace H := jif_t (Classical.not_not.mp c9) H
        refine jS.adv O [(.ldc2_w 154, 0, 757, 0, 0, 0, (-4611686018427387904 : Int64))] (pc' := 22) (ls' := [(0, .inr (.inr x0)), (1, .inl x1)]) (st' := [.inr (.inl (-4611686018427387904 : Int64))]) (m2 := t5.2) (by decide +kernel) rfl trivial ?_
        replace H := Option.some.inj H
        subst H
        exact jS.lret rfl (by decide +kernel)
def c_X9_isLiveItem (F : Nat) (m : jMe) (x0 : Nat) (x1 : Int64) : Option (Int32) :=
  (if (lg_cmp x1 (0 : Int64)) < 0 then some (0 : Int32) else (if (lg_cmp x1 (32 : Int64)) < 0 then jgd (jK m x0 = 41) <| jb (c_X9_isRelation F m x0 ((Int64.toInt32 x1) / (8 : Int32))) fun t5 => (if t5 = 0 then some (0 : Int32) else jgd (jK m (jP m x0 0) = 5) <| jgd (jin ((Int64.toInt32 x1) / (8 : Int32)) (jZ m (jP m x0 0)) = true) <| jgd (jK m (jP m (jP m x0 0) ((Int64.toInt32 x1) / (8 : Int32)).toNatClampNeg) = 36) <| jb (c_X4_isLive F m (jP m (jP m x0 0) ((Int64.toInt32 x1) / (8 : Int32)).toNatClampNeg) (jrem (Int64.toInt32 x1) (8 : Int32))) fun t11 => (if t11 = 0 then some (0 : Int32) else some (1 : Int32))) else some (0 : Int32)))
theorem ec_X9_isLiveItem {X : jX} {l : Launch} {d : Nat} (O : jOk X) (hd : 4 ≤ d) {F : Nat} {m : jMe} {x0 : Nat} {x1 : Int64} {r : Int32} (H : c_X9_isLiveItem F m x0 x1 = some r) : jH X l d jm_X9_isLiveItem [.inr (.inr x0), .inr (.inl x1)] m (some (.inl r)) m := by
  refine jH.of jpl_RX9 rfl (Nat.le_of_ble_eq_true rfl) ?_
  show jS X l d jm_X9_isLiveItem m _ _ (0, [(0, .inr (.inr x0)), (1, .inr (.inl x1))], [], m)
  unfold c_X9_isLiveItem at H
  refine jS.adv O [(.lload_n 1, 0, 0, 0, 0, 0, 0), (.lconst 0, 0, 0, 0, 0, 0, (0 : Int64)), (.lcmp, 0, 0, 0, 0, 0, 0)] (pc' := 3) (ls' := [(0, .inr (.inr x0)), (1, .inr (.inl x1))]) (st' := [.inl (lg_cmp x1 (0 : Int64))]) (m2 := m) (by decide +kernel) rfl trivial ?_
  refine jS.br (i := .ifCond .lt 11) (P := (lg_cmp x1 (0 : Int64)) < 0) (rest := []) rfl (by decide +kernel) (tgt := 14) (by decide) (fun c1 => ?_) (fun c1 => ?_)
  · replace H := jif_t c1 H
    refine jS.adv O [(.iconst 0, 0, 0, 0, 0, (0 : Int32), 0)] (pc' := 15) (ls' := [(0, .inr (.inr x0)), (1, .inr (.inl x1))]) (st' := [.inl (0 : Int32)]) (m2 := m) (by decide +kernel) rfl trivial ?_
    replace H := Option.some.inj H
    subst H
    exact jS.zret rfl (Or.inl rfl) (by decide +kernel)
  · replace H := jif_f c1 H
    refine jS.adv O [(.lload_n 1, 0, 0, 0, 0, 0, 0), (.ldc2_w 368, 0, 1249, 0, 0, 0, (32 : Int64)), (.lcmp, 0, 0, 0, 0, 0, 0)] (pc' := 11) (ls' := [(0, .inr (.inr x0)), (1, .inr (.inl x1))]) (st' := [.inl (lg_cmp x1 (32 : Int64))]) (m2 := m) (by decide +kernel) rfl trivial ?_
    refine jS.br (i := .ifCond .lt 5) (P := (lg_cmp x1 (32 : Int64)) < 0) (rest := []) rfl (by decide +kernel) (tgt := 16) (by decide) (fun c2 => ?_) (fun c2 => ?_)
    · replace H := jif_t c2 H
      obtain ⟨w3, H⟩ := jgd_ok H
      refine jS.adv O [(.lload_n 1, 0, 0, 0, 0, 0, 0), (.l2i, 0, 0, 0, 0, 0, 0), (.bipush 8, 0, 0, 0, 0, (8 : Int32), 0), (.idiv, 0, 0, 0, 0, 0, 0), (.istore_n 3, 0, 0, 0, 0, 0, 0), (.aload_n 0, 0, 0, 0, 0, 0, 0), (.iload_n 3, 0, 0, 0, 0, 0, 0)] (pc' := 24) (ls' := [(3, .inl ((Int64.toInt32 x1) / (8 : Int32))), (0, .inr (.inr x0)), (1, .inr (.inl x1))]) (st' := [.inl ((Int64.toInt32 x1) / (8 : Int32)), .inr (.inr x0)]) (m2 := m) (by decide +kernel) rfl ⟨(by decide), trivial⟩ ?_
      obtain ⟨t5, w4, H⟩ := jb_ok H
      refine jS.step (c' := (27, [(3, .inl ((Int64.toInt32 x1) / (8 : Int32))), (0, .inr (.inr x0)), (1, .inr (.inl x1))], [.inl t5], m)) (jSt.callV (c := 9) (As := [.inl ((Int64.toInt32 x1) / (8 : Int32))]) (rest := []) O (ec_X9_isRelation (d := 2) O (Nat.le_refl _) w4) w3 (by decide) rfl (by omega) jmw_X9_isRelation jmv_X9_isRelation jmn_X9_isRelation (idx := 100) (jW_of 648 (by decide +kernel) rfl) (Nat.le_of_ble_eq_true rfl) (by decide +kernel)) ?_
      refine jS.br (i := .ifCond .eq 24) (P := t5 = 0) (rest := []) rfl (by decide +kernel) (tgt := 51) (by decide) (fun c6 => ?_) (fun c6 => ?_)
      · replace H := jif_t c6 H
        refine jS.adv O [(.iconst 0, 0, 0, 0, 0, (0 : Int32), 0)] (pc' := 52) (ls' := [(3, .inl ((Int64.toInt32 x1) / (8 : Int32))), (0, .inr (.inr x0)), (1, .inr (.inl x1))]) (st' := [.inl (0 : Int32)]) (m2 := m) (by decide +kernel) rfl trivial ?_
        replace H := Option.some.inj H
        subst H
        exact jS.zret rfl (Or.inl rfl) (by decide +kernel)
      · replace H := jif_f c6 H
        obtain ⟨w7, H⟩ := jgd_ok H
        obtain ⟨w8, H⟩ := jgd_ok H
        obtain ⟨w9, H⟩ := jgd_ok H
        refine jS.adv O [(.aload_n 0, 0, 0, 0, 0, 0, 0), (.getfield 11, 0, 9, 0, 578, 0, 0), (.iload_n 3, 0, 0, 0, 0, 0, 0), (.aaload, 0, 5, 0, 0, 0, 0), (.lload_n 1, 0, 0, 0, 0, 0, 0), (.l2i, 0, 0, 0, 0, 0, 0), (.bipush 8, 0, 0, 0, 0, (8 : Int32), 0), (.irem, 0, 0, 0, 0, 0, 0)] (pc' := 41) (ls' := [(3, .inl ((Int64.toInt32 x1) / (8 : Int32))), (0, .inr (.inr x0)), (1, .inr (.inl x1))]) (st' := [.inl (jrem (Int64.toInt32 x1) (8 : Int32)), .inr (.inr (jP m (jP m x0 0) ((Int64.toInt32 x1) / (8 : Int32)).toNatClampNeg))]) (m2 := m) (by decide +kernel) rfl ⟨w3, ⟨w7, jib_ok w8⟩, (by decide), trivial⟩ ?_
        obtain ⟨t11, w10, H⟩ := jb_ok H
        refine jS.step (c' := (44, [(3, .inl ((Int64.toInt32 x1) / (8 : Int32))), (0, .inr (.inr x0)), (1, .inr (.inl x1))], [.inl t11], m)) (jSt.callV (c := 4) (As := [.inl (jrem (Int64.toInt32 x1) (8 : Int32))]) (rest := []) O (ec_X4_isLive (d := 3) O (Nat.le_refl _) w10) w9 (by decide) rfl (by omega) jmw_X4_isLive jmv_X4_isLive jmn_X4_isLive (idx := 112) (jW_of 708 (by decide +kernel) rfl) (Nat.le_of_ble_eq_true rfl) (by decide +kernel)) ?_
        refine jS.br (i := .ifCond .eq 7) (P := t11 = 0) (rest := []) rfl (by decide +kernel) (tgt := 51) (by decide) (fun c12 => ?_) (fun c12 => ?_)
        · replace H := jif_t c12 H
          refine jS.adv O [(.iconst 0, 0, 0, 0, 0, (0 : Int32), 0)] (pc' := 52) (ls' := [(3, .inl ((Int64.toInt32 x1) / (8 : Int32))), (0, .inr (.inr x0)), (1, .inr (.inl x1))]) (st' := [.inl (0 : Int32)]) (m2 := m) (by decide +kernel) rfl trivial ?_
          replace H := Option.some.inj H
          subst H
          exact jS.zret rfl (Or.inl rfl) (by decide +kernel)
        · replace H := jif_f c12 H
          refine jS.adv O [(.iconst 1, 0, 0, 0, 0, (1 : Int32), 0), (.goto 4, 0, 52, 0, 0, 0, 0)] (pc' := 52) (ls' := [(3, .inl ((Int64.toInt32 x1) / (8 : Int32))), (0, .inr (.inr x0)), (1, .inr (.inl x1))]) (st' := [.inl (1 : Int32)]) (m2 := m) (by decide +kernel) rfl trivial ?_
          replace H := Option.some.inj H
          subst H
          exact jS.zret rfl (Or.inr rfl) (by decide +kernel)
    · replace H := jif_f c2 H
      refine jS.adv O [(.iconst 0, 0, 0, 0, 0, (0 : Int32), 0)] (pc' := 15) (ls' := [(0, .inr (.inr x0)), (1, .inr (.inl x1))]) (st' := [.inl (0 : Int32)]) (m2 := m) (by decide +kernel) rfl trivial ?_
      replace H := Option.some.inj H
      subst H
      exact jS.zret rfl (Or.inl rfl) (by decide +kernel)
def c_X9_setLiveItem (F : Nat) (m : jMe) (x0 : Nat) (x1 : Int32) (x2 : Int32) : Option (jMe) :=
  jgd (jK m x0 = 41) <| jgd (jK m (jP m x0 0) = 5) <| jgd (jin (x1 / (8 : Int32)) (jZ m (jP m x0 0)) = true) <| jgd (jK m (jP m (jP m x0 0) (x1 / (8 : Int32)).toNatClampNeg) = 36) <| jb (c_X4_setLive F m (jP m (jP m x0 0) (x1 / (8 : Int32)).toNatClampNeg) (jrem x1 (8 : Int32)) x2) fun t6 => some t6
theorem ec_X9_setLiveItem {X : jX} {l : Launch} {d : Nat} (O : jOk X) (hd : 3 ≤ d) {F : Nat} {m : jMe} {x0 : Nat} {x1 : Int32} {x2 : Int32} {r : jMe} (H : c_X9_setLiveItem F m x0 x1 x2 = some r) : jH X l d jm_X9_setLiveItem [.inr (.inr x0), .inl x1, .inl x2] m none r := by
  refine jH.of jpl_RX9 rfl (Nat.le_of_ble_eq_true rfl) ?_
  show jS X l d jm_X9_setLiveItem m _ _ (0, [(0, .inr (.inr x0)), (1, .inl x1), (2, .inl x2)], [], m)
  unfold c_X9_setLiveItem at H
  obtain ⟨w1, H⟩ := jgd_ok H
  obtain ⟨w2, H⟩ := jgd_ok H
  obtain ⟨w3, H⟩ := jgd_ok H
  obtain ⟨w4, H⟩ := jgd_ok H
  refine jS.adv O [(.aload_n 0, 0, 0, 0, 0, 0, 0), (.getfield 11, 0, 9, 0, 578, 0, 0), (.iload_n 1, 0, 0, 0, 0, 0, 0), (.bipush 8, 0, 0, 0, 0, (8 : Int32), 0), (.idiv, 0, 0, 0, 0, 0, 0), (.aaload, 0, 5, 0, 0, 0, 0), (.iload_n 1, 0, 0, 0, 0, 0, 0), (.bipush 8, 0, 0, 0, 0, (8 : Int32), 0), (.irem, 0, 0, 0, 0, 0, 0), (.iload_n 2, 0, 0, 0, 0, 0, 0)] (pc' := 14) (ls' := [(0, .inr (.inr x0)), (1, .inl x1), (2, .inl x2)]) (st' := [.inl x2, .inl (jrem x1 (8 : Int32)), .inr (.inr (jP m (jP m x0 0) (x1 / (8 : Int32)).toNatClampNeg))]) (m2 := m) (by decide +kernel) rfl ⟨w1, (by decide), ⟨w2, jib_ok w3⟩, (by decide), trivial⟩ ?_
  obtain ⟨t6, w5, H⟩ := jb_ok H
  refine jS.step (c' := (17, [(0, .inr (.inr x0)), (1, .inl x1), (2, .inl x2)], [], t6)) (jSt.callV (c := 4) (As := [.inl (jrem x1 (8 : Int32)), .inl x2]) (rest := []) O (ec_X4_setLive (d := 2) O (Nat.le_refl _) w5) w4 (by decide) rfl (by omega) jmw_X4_setLive jmv_X4_setLive jmn_X4_setLive (idx := 119) (jW_of 713 (by decide +kernel) rfl) (Nat.le_of_ble_eq_true rfl) (by decide +kernel)) ?_
  replace H := Option.some.inj H
  subst H
  exact jS.vret rfl (by decide +kernel)
def c_X9_isEnough (F : Nat) (m : jMe) (x0 : Nat) (x1 : Int64) : Option (Int32 × jMe) :=
  jgd (jK m x0 = 41) <| jgd (jK m (jP m x0 1) = 6) <| jgd (jin (jI m x0 14) (jZ m (jP m x0 1)) = true) <| jgd (jK m (jP m x0 9) = 34) <| jb (c_X2_tell F m (jP m x0 9) (jP m x0 0) (jP m (jP m x0 1) (jI m x0 14).toNatClampNeg) (jI m x0 15)) fun t6 => jgd (jK t6 x0 = 41) <| jgd (jK t6 (jP t6 x0 9) = 34) <| (if (jI t6 (jP t6 x0 9) 5) = 0 then jb (c_X2_tally F t6 (jP t6 x0 9)) fun t11 => (if 0 ≤ (lg_cmp t11.1 x1) then some ((0 : Int32), t11.2) else some ((1 : Int32), t11.2)) else some ((0 : Int32), t6))
theorem ec_X9_isEnough {X : jX} {l : Launch} {d : Nat} (O : jOk X) (hd : 69 ≤ d) {F : Nat} {m : jMe} {x0 : Nat} {x1 : Int64} {r : Int32 × jMe} (H : c_X9_isEnough F m x0 x1 = some r) : jH X l d jm_X9_isEnough [.inr (.inr x0), .inr (.inl x1)] m (some (.inl r.1)) r.2 := by
  refine jH.of jpl_RX9 rfl (Nat.le_of_ble_eq_true rfl) ?_
  show jS X l d jm_X9_isEnough m _ _ (0, [(0, .inr (.inr x0)), (1, .inr (.inl x1))], [], m)
  unfold c_X9_isEnough at H
  obtain ⟨w1, H⟩ := jgd_ok H
  obtain ⟨w2, H⟩ := jgd_ok H
  obtain ⟨w3, H⟩ := jgd_ok H
  obtain ⟨w4, H⟩ := jgd_ok H
  refine jS.adv O [(.aload_n 0, 0, 0, 0, 0, 0, 0), (.getfield 62, 0, 9, 9, 587, 0, 0), (.aload_n 0, 0, 0, 0, 0, 0, 0), (.getfield 11, 0, 9, 0, 578, 0, 0), (.aload_n 0, 0, 0, 0, 0, 0, 0), (.getfield 17, 0, 9, 1, 579, 0, 0), (.aload_n 0, 0, 0, 0, 0, 0, 0), (.getfield 79, 0, 9, 14, 592, 0, 0), (.aaload, 0, 6, 0, 0, 0, 0), (.aload_n 0, 0, 0, 0, 0, 0, 0), (.getfield 82, 0, 9, 15, 593, 0, 0)] (pc' := 21) (ls' := [(0, .inr (.inr x0)), (1, .inr (.inl x1))]) (st' := [.inl (jI m x0 15), .inr (.inr (jP m (jP m x0 1) (jI m x0 14).toNatClampNeg)), .inr (.inr (jP m x0 0)), .inr (.inr (jP m x0 9))]) (m2 := m) (by decide +kernel) rfl ⟨w1, w1, w1, w1, ⟨w2, jib_ok w3⟩, w1, trivial⟩ ?_
  obtain ⟨t6, w5, H⟩ := jb_ok H
  refine jS.step (c' := (24, [(0, .inr (.inr x0)), (1, .inr (.inl x1))], [], t6)) (jSt.callV (c := 2) (As := [.inr (.inr (jP m x0 0)), .inr (.inr (jP m (jP m x0 1) (jI m x0 14).toNatClampNeg)), .inl (jI m x0 15)]) (rest := []) O (ec_X2_tell (d := 6) O (Nat.le_refl _) w5) w4 (by decide) rfl (by omega) jmw_X2_tell jmv_X2_tell jmn_X2_tell (idx := 274) (jW_of 766 (by decide +kernel) rfl) (Nat.le_of_ble_eq_true rfl) (by decide +kernel)) ?_
  obtain ⟨w7, H⟩ := jgd_ok H
  obtain ⟨w8, H⟩ := jgd_ok H
  refine jS.adv O [(.aload_n 0, 0, 0, 0, 0, 0, 0), (.getfield 62, 0, 9, 9, 587, 0, 0), (.getfield 193, 0, 2, 5, 434, 0, 0)] (pc' := 31) (ls' := [(0, .inr (.inr x0)), (1, .inr (.inl x1))]) (st' := [.inl (jI t6 (jP t6 x0 9) 5)]) (m2 := t6) (by decide +kernel) rfl ⟨w7, w8, trivial⟩ ?_
  refine jS.br (i := .ifCond .ne 19) (P := ¬ (jI t6 (jP t6 x0 9) 5) = 0) (rest := []) rfl (by decide +kernel) (tgt := 50) (by decide) (fun c9 => ?_) (fun c9 => ?_)
  · replace H := jif_f c9 H
    refine jS.adv O [(.iconst 0, 0, 0, 0, 0, (0 : Int32), 0)] (pc' := 51) (ls' := [(0, .inr (.inr x0)), (1, .inr (.inl x1))]) (st' := [.inl (0 : Int32)]) (m2 := t6) (by decide +kernel) rfl trivial ?_
    replace H := Option.some.inj H
    subst H
    exact jS.zret rfl (Or.inl rfl) (by decide +kernel)
  · replace H := jif_t (Classical.not_not.mp c9) H
    refine jS.adv O [(.aload_n 0, 0, 0, 0, 0, 0, 0), (.getfield 62, 0, 9, 9, 587, 0, 0)] (pc' := 38) (ls' := [(0, .inr (.inr x0)), (1, .inr (.inl x1))]) (st' := [.inr (.inr (jP t6 x0 9))]) (m2 := t6) (by decide +kernel) rfl ⟨w7, trivial⟩ ?_
    obtain ⟨t11, w10, H⟩ := jb_ok H
    refine jS.step (c' := (41, [(0, .inr (.inr x0)), (1, .inr (.inl x1))], [.inr (.inl t11.1)], t11.2)) (jSt.callV (c := 2) (As := []) (rest := []) O (ec_X2_tally (d := 68) O (Nat.le_refl _) w10) w8 (by decide) rfl (by omega) jmw_X2_tally jmv_X2_tally jmn_X2_tally (idx := 227) (jW_of 1092 (by decide +kernel) rfl) (Nat.le_of_ble_eq_true rfl) (by decide +kernel)) ?_
    refine jS.adv O [(.lload_n 1, 0, 0, 0, 0, 0, 0), (.lcmp, 0, 0, 0, 0, 0, 0)] (pc' := 43) (ls' := [(0, .inr (.inr x0)), (1, .inr (.inl x1))]) (st' := [.inl (lg_cmp t11.1 x1)]) (m2 := t11.2) (by decide +kernel) rfl trivial ?_
    refine jS.br (i := .ifCond .ge 7) (P := 0 ≤ (lg_cmp t11.1 x1)) (rest := []) rfl (by decide +kernel) (tgt := 50) (by decide) (fun c12 => ?_) (fun c12 => ?_)
    · replace H := jif_t c12 H
      refine jS.adv O [(.iconst 0, 0, 0, 0, 0, (0 : Int32), 0)] (pc' := 51) (ls' := [(0, .inr (.inr x0)), (1, .inr (.inl x1))]) (st' := [.inl (0 : Int32)]) (m2 := t11.2) (by decide +kernel) rfl trivial ?_
      replace H := Option.some.inj H
      subst H
      exact jS.zret rfl (Or.inl rfl) (by decide +kernel)
    · replace H := jif_f c12 H
      refine jS.adv O [(.iconst 1, 0, 0, 0, 0, (1 : Int32), 0), (.goto 4, 0, 51, 0, 0, 0, 0)] (pc' := 51) (ls' := [(0, .inr (.inr x0)), (1, .inr (.inl x1))]) (st' := [.inl (1 : Int32)]) (m2 := t11.2) (by decide +kernel) rfl trivial ?_
      replace H := Option.some.inj H
      subst H
      exact jS.zret rfl (Or.inr rfl) (by decide +kernel)
def c_X9_shut_l9_b (F : Nat) (B : jMe → Nat → Int32 → Option (jMe)) (m : jMe) (y0 : Nat) (y2 : Int32) : Option (jMe) :=
  (if y2 < 0 then some (m) else jgd (jK m y0 = 41) <| jgd (jK m (jP m y0 6) = 1) <| jgd (jin y2 (jZ m (jP m y0 6)) = true) <| jb (c_X9_setLiveItem F m y0 (jI m (jP m y0 6) y2.toNatClampNeg) (1 : Int32)) fun t7 => jgd (jK t7 y0 = 41) <| jgd (jK t7 (jP t7 y0 6) = 1) <| jgd (jin y2 (jZ t7 (jP t7 y0 6)) = true) <| jgd (jK t7 (jP t7 y0 7) = 1) <| jgd (jin (jI t7 y0 13) (jZ t7 (jP t7 y0 7)) = true) <| B (jsI (jsI t7 (jP t7 y0 7) (jI t7 y0 13).toNatClampNeg (jI t7 (jP t7 y0 6) y2.toNatClampNeg)) y0 13 ((jI (jsI t7 (jP t7 y0 7) (jI t7 y0 13).toNatClampNeg (jI t7 (jP t7 y0 6) y2.toNatClampNeg)) y0 13) + (1 : Int32))) y0 (y2 + (-1 : Int32)))
theorem ec_X9_shut_l9_b {X : jX} {l : Launch} {d : Nat} (O : jOk X) (hd : 4 ≤ d) {F : Nat} {m0 m' : jMe} {v : Option jAV} {B : jMe → Nat → Int32 → Option (jMe)} (hB : ∀ (m : jMe) (y0 : Nat) (y2 : Int32) (r : jMe), B m y0 y2 = some r → (jS X l d jm_X9_shut m0 v m' (55, [], [], r)) → jS X l d jm_X9_shut m0 v m' (9, [(0, .inr (.inr y0)), (2, .inl y2)], [], m)) {m : jMe} {y0 : Nat} {y2 : Int32} {r : jMe} (H : c_X9_shut_l9_b F B m y0 y2 = some r) (h2 : jS X l d jm_X9_shut m0 v m' (55, [], [], r)) : jS X l d jm_X9_shut m0 v m' (9, [(0, .inr (.inr y0)), (2, .inl y2)], [], m) := by
  unfold c_X9_shut_l9_b at H
  refine jS.adv O [(.iload_n 2, 0, 0, 0, 0, 0, 0)] (pc' := 10) (ls' := [(0, .inr (.inr y0)), (2, .inl y2)]) (st' := [.inl y2]) (m2 := m) (by decide +kernel) rfl trivial ?_
  refine jS.br (i := .ifCond .lt 45) (P := y2 < 0) (rest := []) rfl (by decide +kernel) (tgt := 55) (by decide) (fun c2 => ?_) (fun c2 => ?_)
  · replace H := jif_t c2 H
    replace H := Option.some.inj H
    subst H
    refine jS.loc' [] (ls' := []) rfl ?_
    exact h2
  · replace H := jif_f c2 H
    obtain ⟨w3, H⟩ := jgd_ok H
    obtain ⟨w4, H⟩ := jgd_ok H
    obtain ⟨w5, H⟩ := jgd_ok H
    refine jS.adv O [(.aload_n 0, 0, 0, 0, 0, 0, 0), (.aload_n 0, 0, 0, 0, 0, 0, 0), (.getfield 48, 0, 9, 6, 584, 0, 0), (.iload_n 2, 0, 0, 0, 0, 0, 0), (.iaload, 0, 1, 0, 0, 0, 0), (.iconst 1, 0, 0, 0, 0, (1 : Int32), 0)] (pc' := 21) (ls' := [(0, .inr (.inr y0)), (2, .inl y2)]) (st' := [.inl (1 : Int32), .inl (jI m (jP m y0 6) y2.toNatClampNeg), .inr (.inr y0)]) (m2 := m) (by decide +kernel) rfl ⟨w3, ⟨w4, jib_ok w5⟩, trivial⟩ ?_
    obtain ⟨t7, w6, H⟩ := jb_ok H
    refine jS.step (c' := (24, [(0, .inr (.inr y0)), (2, .inl y2)], [], t7)) (jSt.callV (c := 9) (As := [.inl (jI m (jP m y0 6) y2.toNatClampNeg), .inl (1 : Int32)]) (rest := []) O (ec_X9_setLiveItem (d := 3) O (Nat.le_refl _) w6) w3 (by decide) rfl (by omega) jmw_X9_setLiveItem jmv_X9_setLiveItem jmn_X9_setLiveItem (idx := 291) (jW_of 1250 (by decide +kernel) rfl) (Nat.le_of_ble_eq_true rfl) (by decide +kernel)) ?_
    obtain ⟨w8, H⟩ := jgd_ok H
    obtain ⟨w9, H⟩ := jgd_ok H
    obtain ⟨w10, H⟩ := jgd_ok H
    obtain ⟨w11, H⟩ := jgd_ok H
    obtain ⟨w12, H⟩ := jgd_ok H
    refine jS.adv O [(.aload_n 0, 0, 0, 0, 0, 0, 0), (.getfield 52, 0, 9, 7, 585, 0, 0), (.aload_n 0, 0, 0, 0, 0, 0, 0), (.getfield 76, 0, 9, 13, 591, 0, 0), (.aload_n 0, 0, 0, 0, 0, 0, 0), (.getfield 48, 0, 9, 6, 584, 0, 0), (.iload_n 2, 0, 0, 0, 0, 0, 0), (.iaload, 0, 1, 0, 0, 0, 0), (.iastore, 0, 0, 0, 0, 0, 0), (.aload_n 0, 0, 0, 0, 0, 0, 0), (.dup, 0, 0, 0, 0, 0, 0), (.getfield 76, 0, 9, 13, 591, 0, 0), (.iconst 1, 0, 0, 0, 0, (1 : Int32), 0), (.iadd, 0, 0, 0, 0, 0, 0), (.putfield 76, 0, 9, 13, 591, 0, 0), (.iinc 2 (-1), 0, 0, 0, 0, (-1 : Int32), 0), (.goto (-43), 0, 9, 0, 0, 0, 0)] (pc' := 9) (ls' := [(2, .inl (y2 + (-1 : Int32))), (0, .inr (.inr y0))]) (st' := []) (m2 := (jsI (jsI t7 (jP t7 y0 7) (jI t7 y0 13).toNatClampNeg (jI t7 (jP t7 y0 6) y2.toNatClampNeg)) y0 13 ((jI (jsI t7 (jP t7 y0 7) (jI t7 y0 13).toNatClampNeg (jI t7 (jP t7 y0 6) y2.toNatClampNeg)) y0 13) + (1 : Int32)))) (by decide +kernel) rfl ⟨w8, w8, w8, ⟨w9, jib_ok w10⟩, ⟨w11, jib_ok w12⟩, w8, w8, trivial⟩ ?_
    refine jS.loc' [1, 0] (ls' := [(0, .inr (.inr y0)), (2, .inl (y2 + (-1 : Int32)))]) rfl ?_
    exact hB _ _ _ _ H h2
def c_X9_shut_l9 (F : Nat) : Nat → jMe → Nat → Int32 → Option (jMe)
  | 0, _, _, _ => none
  | n + 1, m, y0, y2 => c_X9_shut_l9_b F (fun m y0 y2 => c_X9_shut_l9 F n m y0 y2) m y0 y2
theorem ec_X9_shut_l9 {X : jX} {l : Launch} {d : Nat} (O : jOk X) (hd : 4 ≤ d) {F : Nat} {m0 m' : jMe} {v : Option jAV} : ∀ (n : Nat) {m : jMe} {y0 : Nat} {y2 : Int32} {r : jMe} (H : c_X9_shut_l9 F n m y0 y2 = some r) (h2 : jS X l d jm_X9_shut m0 v m' (55, [], [], r)), jS X l d jm_X9_shut m0 v m' (9, [(0, .inr (.inr y0)), (2, .inl y2)], [], m) := by
  intro n
  induction n with
  | zero =>
    intro m y0 y2 r H h2
    cases (show none = some r from H)
  | succ n ih =>
    intro m y0 y2 r H h2
    exact ec_X9_shut_l9_b O hd (B := (fun m y0 y2 => c_X9_shut_l9 F n m y0 y2)) (fun m y0 y2 r H h2 => ih H h2) H h2
def c_X9_shut (F : Nat) (m : jMe) (x0 : Nat) (x1 : Int32) : Option (jMe) :=
  jgd (jK m x0 = 41) <| jb (c_X9_shut_l9 F F (jsI m x0 13 (0 : Int32)) x0 (x1 - (1 : Int32))) fun e14 => some e14
theorem ec_X9_shut {X : jX} {l : Launch} {d : Nat} (O : jOk X) (hd : 4 ≤ d) {F : Nat} {m : jMe} {x0 : Nat} {x1 : Int32} {r : jMe} (H : c_X9_shut F m x0 x1 = some r) : jH X l d jm_X9_shut [.inr (.inr x0), .inl x1] m none r := by
  refine jH.of jpl_RX9 rfl (Nat.le_of_ble_eq_true rfl) ?_
  show jS X l d jm_X9_shut m _ _ (0, [(0, .inr (.inr x0)), (1, .inl x1)], [], m)
  unfold c_X9_shut at H
  obtain ⟨w1, H⟩ := jgd_ok H
  refine jS.adv O [(.aload_n 0, 0, 0, 0, 0, 0, 0), (.iconst 0, 0, 0, 0, 0, (0 : Int32), 0), (.putfield 76, 0, 9, 13, 591, 0, 0), (.iload_n 1, 0, 0, 0, 0, 0, 0), (.iconst 1, 0, 0, 0, 0, (1 : Int32), 0), (.isub, 0, 0, 0, 0, 0, 0), (.istore_n 2, 0, 0, 0, 0, 0, 0)] (pc' := 9) (ls' := [(2, .inl (x1 - (1 : Int32))), (0, .inr (.inr x0)), (1, .inl x1)]) (st' := []) (m2 := (jsI m x0 13 (0 : Int32))) (by decide +kernel) rfl ⟨w1, trivial⟩ ?_
  refine jS.loc' [1, 0] (ls' := [(0, .inr (.inr x0)), (2, .inl (x1 - (1 : Int32)))]) rfl ?_
  obtain ⟨e14, w15, H⟩ := jb_ok H
  refine ec_X9_shut_l9 O hd F w15 ?_
  replace H := Option.some.inj H
  subst H
  exact jS.vret rfl (by decide +kernel)
def c_X9_strip_l68_b (F : Nat) (B : jMe → Nat → Int32 → Int64 → Int32 → Int32 → Int32 → Option (jMe × Nat × Int32 × Int32)) (m : jMe) (y0 : Nat) (y1 : Int32) (y2 : Int64) (y4 : Int32) (y5 : Int32) (y6 : Int32) : Option (jMe × Nat × Int32 × Int32) :=
  jgd (jK m y0 = 41) <| jgd (jK m (jP m y0 2) = 7) <| jgd (jin y1 (jZ m (jP m y0 2)) = true) <| jgd (jK m (jP m (jP m y0 2) y1.toNatClampNeg) = 37) <| (if (jI m (jP m (jP m y0 2) y1.toNatClampNeg) 2) ≤ y6 then some (m, y0, y4, y5) else (if y5 = (-1 : Int32) then jgd (jin y1 (jZ m (jP m y0 2)) = true) <| jgd (jK m (jP m (jP m (jP m y0 2) y1.toNatClampNeg) 0) = 2) <| jgd (jin y6 (jZ m (jP m (jP m (jP m y0 2) y1.toNatClampNeg) 0)) = true) <| jb (c_X9_isLiveItem F m y0 (jL m (jP m (jP m (jP m y0 2) y1.toNatClampNeg) 0) y6.toNatClampNeg)) fun t23 => (if t23 = 0 then B m y0 y1 y2 y4 ((-20 : Int32) - y6) (y6 + (1 : Int32)) else jgd (jK m (jP m y0 6) = 1) <| jgd (jin y4 (jZ m (jP m y0 6)) = true) <| jb (c_X9_setLiveItem F (jsI m (jP m y0 6) y4.toNatClampNeg (Int64.toInt32 (jL m (jP m (jP m (jP m y0 2) y1.toNatClampNeg) 0) y6.toNatClampNeg))) y0 (Int64.toInt32 (jL m (jP m (jP m (jP m y0 2) y1.toNatClampNeg) 0) y6.toNatClampNeg)) (0 : Int32)) fun t28 => jgd (jK t28 y0 = 41) <| jb (c_X9_isEnough F t28 y0 y2) fun t31 => (if t31.1 = 0 then B t31.2 y0 y1 y2 (y4 + (1 : Int32)) (-1 : Int32) (y6 + (1 : Int32)) else B t31.2 y0 y1 y2 (y4 + (1 : Int32)) ((100 : Int32) + (y4 + (1 : Int32))) (y6 + (1 : Int32)))) else some (m, y0, y4, y5)))
theorem ec_X9_strip_l68_b {X : jX} {l : Launch} {d : Nat} (O : jOk X) (hd : 70 ≤ d) {F : Nat} {m0 m' : jMe} {v : Option jAV} {B : jMe → Nat → Int32 → Int64 → Int32 → Int32 → Int32 → Option (jMe × Nat × Int32 × Int32)} (hB : ∀ (m : jMe) (y0 : Nat) (y1 : Int32) (y2 : Int64) (y4 : Int32) (y5 : Int32) (y6 : Int32) (r : jMe × Nat × Int32 × Int32), B m y0 y1 y2 y4 y5 y6 = some r → (jS X l d jm_X9_strip m0 v m' (167, [(0, .inr (.inr r.2.1)), (4, .inl r.2.2.1), (5, .inl r.2.2.2)], [], r.1)) → jS X l d jm_X9_strip m0 v m' (68, [(0, .inr (.inr y0)), (1, .inl y1), (2, .inr (.inl y2)), (4, .inl y4), (5, .inl y5), (6, .inl y6)], [], m)) {m : jMe} {y0 : Nat} {y1 : Int32} {y2 : Int64} {y4 : Int32} {y5 : Int32} {y6 : Int32} {r : jMe × Nat × Int32 × Int32} (H : c_X9_strip_l68_b F B m y0 y1 y2 y4 y5 y6 = some r) (h2 : jS X l d jm_X9_strip m0 v m' (167, [(0, .inr (.inr r.2.1)), (4, .inl r.2.2.1), (5, .inl r.2.2.2)], [], r.1)) : jS X l d jm_X9_strip m0 v m' (68, [(0, .inr (.inr y0)), (1, .inl y1), (2, .inr (.inl y2)), (4, .inl y4), (5, .inl y5), (6, .inl y6)], [], m) := by
  unfold c_X9_strip_l68_b at H
  obtain ⟨w13, H⟩ := jgd_ok H
  obtain ⟨w14, H⟩ := jgd_ok H
  obtain ⟨w15, H⟩ := jgd_ok H
  obtain ⟨w16, H⟩ := jgd_ok H
  refine jS.adv O [(.iload 6, 0, 0, 0, 0, 0, 0), (.aload_n 0, 0, 0, 0, 0, 0, 0), (.getfield 23, 0, 9, 2, 580, 0, 0), (.iload_n 1, 0, 0, 0, 0, 0, 0), (.aaload, 0, 7, 0, 0, 0, 0), (.getfield 284, 0, 5, 2, 539, 0, 0)] (pc' := 79) (ls' := [(0, .inr (.inr y0)), (1, .inl y1), (2, .inr (.inl y2)), (4, .inl y4), (5, .inl y5), (6, .inl y6)]) (st' := [.inl (jI m (jP m (jP m y0 2) y1.toNatClampNeg) 2), .inl y6]) (m2 := m) (by decide +kernel) rfl ⟨w13, ⟨w14, jib_ok w15⟩, w16, trivial⟩ ?_
  refine jS.br (i := .if_icmp .ge 88) (P := (jI m (jP m (jP m y0 2) y1.toNatClampNeg) 2) ≤ y6) (rest := []) rfl (by decide +kernel) (tgt := 167) (by decide) (fun c17 => ?_) (fun c17 => ?_)
  · replace H := jif_t c17 H
    replace H := Option.some.inj H
    subst H
    refine jS.loc' [0, 3, 4] (ls' := [(0, .inr (.inr y0)), (4, .inl y4), (5, .inl y5)]) rfl ?_
    exact h2
  · replace H := jif_f c17 H
    refine jS.adv O [(.iload 5, 0, 0, 0, 0, 0, 0), (.iconst (-1), 0, 0, 0, 0, (-1 : Int32), 0)] (pc' := 85) (ls' := [(0, .inr (.inr y0)), (1, .inl y1), (2, .inr (.inl y2)), (4, .inl y4), (5, .inl y5), (6, .inl y6)]) (st' := [.inl (-1 : Int32), .inl y5]) (m2 := m) (by decide +kernel) rfl trivial ?_
    refine jS.br (i := .if_icmp .ne 82) (P := ¬ y5 = (-1 : Int32)) (rest := []) rfl (by decide +kernel) (tgt := 167) (by decide) (fun c18 => ?_) (fun c18 => ?_)
    · replace H := jif_f c18 H
      replace H := Option.some.inj H
      subst H
      refine jS.loc' [0, 3, 4] (ls' := [(0, .inr (.inr y0)), (4, .inl y4), (5, .inl y5)]) rfl ?_
      exact h2
    · replace H := jif_t (Classical.not_not.mp c18) H
      obtain ⟨w19, H⟩ := jgd_ok H
      obtain ⟨w20, H⟩ := jgd_ok H
      obtain ⟨w21, H⟩ := jgd_ok H
      refine jS.adv O [(.aload_n 0, 0, 0, 0, 0, 0, 0), (.getfield 23, 0, 9, 2, 580, 0, 0), (.iload_n 1, 0, 0, 0, 0, 0, 0), (.aaload, 0, 7, 0, 0, 0, 0), (.getfield 285, 0, 5, 0, 535, 0, 0), (.iload 6, 0, 0, 0, 0, 0, 0), (.laload, 0, 0, 0, 0, 0, 0), (.lstore 7, 0, 0, 0, 0, 0, 0), (.aload_n 0, 0, 0, 0, 0, 0, 0), (.lload 7, 0, 0, 0, 0, 0, 0)] (pc' := 105) (ls' := [(7, .inr (.inl (jL m (jP m (jP m (jP m y0 2) y1.toNatClampNeg) 0) y6.toNatClampNeg))), (0, .inr (.inr y0)), (1, .inl y1), (2, .inr (.inl y2)), (4, .inl y4), (5, .inl y5), (6, .inl y6)]) (st' := [.inr (.inl (jL m (jP m (jP m (jP m y0 2) y1.toNatClampNeg) 0) y6.toNatClampNeg)), .inr (.inr y0)]) (m2 := m) (by decide +kernel) rfl ⟨w13, ⟨w14, jib_ok w19⟩, w16, ⟨w20, jib_ok w21⟩, trivial⟩ ?_
      obtain ⟨t23, w22, H⟩ := jb_ok H
      refine jS.step (c' := (108, [(7, .inr (.inl (jL m (jP m (jP m (jP m y0 2) y1.toNatClampNeg) 0) y6.toNatClampNeg))), (0, .inr (.inr y0)), (1, .inl y1), (2, .inr (.inl y2)), (4, .inl y4), (5, .inl y5), (6, .inl y6)], [.inl t23], m)) (jSt.callV (c := 9) (As := [.inr (.inl (jL m (jP m (jP m (jP m y0 2) y1.toNatClampNeg) 0) y6.toNatClampNeg))]) (rest := []) O (ec_X9_isLiveItem (d := 4) O (Nat.le_refl _) w22) w13 (by decide) rfl (by omega) jmw_X9_isLiveItem jmv_X9_isLiveItem jmn_X9_isLiveItem (idx := 288) (jW_of 1245 (by decide +kernel) rfl) (Nat.le_of_ble_eq_true rfl) (by decide +kernel)) ?_
      refine jS.br (i := .ifCond .ne 13) (P := ¬ t23 = 0) (rest := []) rfl (by decide +kernel) (tgt := 121) (by decide) (fun c24 => ?_) (fun c24 => ?_)
      · replace H := jif_f c24 H
        obtain ⟨w25, H⟩ := jgd_ok H
        obtain ⟨w26, H⟩ := jgd_ok H
        refine jS.adv O [(.aload_n 0, 0, 0, 0, 0, 0, 0), (.getfield 48, 0, 9, 6, 584, 0, 0), (.iload 4, 0, 0, 0, 0, 0, 0), (.lload 7, 0, 0, 0, 0, 0, 0), (.l2i, 0, 0, 0, 0, 0, 0), (.iastore, 0, 0, 0, 0, 0, 0), (.iinc 4 1, 0, 0, 0, 0, (1 : Int32), 0), (.aload_n 0, 0, 0, 0, 0, 0, 0), (.lload 7, 0, 0, 0, 0, 0, 0), (.l2i, 0, 0, 0, 0, 0, 0), (.iconst 0, 0, 0, 0, 0, (0 : Int32), 0)] (pc' := 139) (ls' := [(4, .inl (y4 + (1 : Int32))), (7, .inr (.inl (jL m (jP m (jP m (jP m y0 2) y1.toNatClampNeg) 0) y6.toNatClampNeg))), (0, .inr (.inr y0)), (1, .inl y1), (2, .inr (.inl y2)), (5, .inl y5), (6, .inl y6)]) (st' := [.inl (0 : Int32), .inl (Int64.toInt32 (jL m (jP m (jP m (jP m y0 2) y1.toNatClampNeg) 0) y6.toNatClampNeg)), .inr (.inr y0)]) (m2 := (jsI m (jP m y0 6) y4.toNatClampNeg (Int64.toInt32 (jL m (jP m (jP m (jP m y0 2) y1.toNatClampNeg) 0) y6.toNatClampNeg)))) (by decide +kernel) rfl ⟨w13, ⟨w25, jib_ok w26⟩, trivial⟩ ?_
        obtain ⟨t28, w27, H⟩ := jb_ok H
        refine jS.step (c' := (142, [(4, .inl (y4 + (1 : Int32))), (7, .inr (.inl (jL m (jP m (jP m (jP m y0 2) y1.toNatClampNeg) 0) y6.toNatClampNeg))), (0, .inr (.inr y0)), (1, .inl y1), (2, .inr (.inl y2)), (5, .inl y5), (6, .inl y6)], [], t28)) (jSt.callV (c := 9) (As := [.inl (Int64.toInt32 (jL m (jP m (jP m (jP m y0 2) y1.toNatClampNeg) 0) y6.toNatClampNeg)), .inl (0 : Int32)]) (rest := []) O (ec_X9_setLiveItem (d := 3) O (Nat.le_refl _) w27) w13 (by decide) rfl (by omega) jmw_X9_setLiveItem jmv_X9_setLiveItem jmn_X9_setLiveItem (idx := 291) (jW_of 1250 (by decide +kernel) rfl) (Nat.le_of_ble_eq_true rfl) (by decide +kernel)) ?_
        obtain ⟨w29, H⟩ := jgd_ok H
        refine jS.adv O [(.aload_n 0, 0, 0, 0, 0, 0, 0), (.lload_n 2, 0, 0, 0, 0, 0, 0)] (pc' := 144) (ls' := [(4, .inl (y4 + (1 : Int32))), (7, .inr (.inl (jL m (jP m (jP m (jP m y0 2) y1.toNatClampNeg) 0) y6.toNatClampNeg))), (0, .inr (.inr y0)), (1, .inl y1), (2, .inr (.inl y2)), (5, .inl y5), (6, .inl y6)]) (st' := [.inr (.inl y2), .inr (.inr y0)]) (m2 := t28) (by decide +kernel) rfl trivial ?_
        obtain ⟨t31, w30, H⟩ := jb_ok H
        refine jS.step (c' := (147, [(4, .inl (y4 + (1 : Int32))), (7, .inr (.inl (jL m (jP m (jP m (jP m y0 2) y1.toNatClampNeg) 0) y6.toNatClampNeg))), (0, .inr (.inr y0)), (1, .inl y1), (2, .inr (.inl y2)), (5, .inl y5), (6, .inl y6)], [.inl t31.1], t31.2)) (jSt.callV (c := 9) (As := [.inr (.inl y2)]) (rest := []) O (ec_X9_isEnough (d := 69) O (Nat.le_refl _) w30) w29 (by decide) rfl (by omega) jmw_X9_isEnough jmv_X9_isEnough jmn_X9_isEnough (idx := 294) (jW_of 1254 (by decide +kernel) rfl) (Nat.le_of_ble_eq_true rfl) (by decide +kernel)) ?_
        refine jS.br (i := .ifCond .eq 11) (P := t31.1 = 0) (rest := []) rfl (by decide +kernel) (tgt := 158) (by decide) (fun c32 => ?_) (fun c32 => ?_)
        · replace H := jif_t c32 H
          refine jS.adv O [(.iconst (-1), 0, 0, 0, 0, (-1 : Int32), 0), (.istore 5, 0, 0, 0, 0, 0, 0), (.iinc 6 1, 0, 0, 0, 0, (1 : Int32), 0), (.goto (-96), 0, 68, 0, 0, 0, 0)] (pc' := 68) (ls' := [(6, .inl (y6 + (1 : Int32))), (5, .inl (-1 : Int32)), (4, .inl (y4 + (1 : Int32))), (7, .inr (.inl (jL m (jP m (jP m (jP m y0 2) y1.toNatClampNeg) 0) y6.toNatClampNeg))), (0, .inr (.inr y0)), (1, .inl y1), (2, .inr (.inl y2))]) (st' := []) (m2 := t31.2) (by decide +kernel) rfl trivial ?_
          refine jS.loc' [4, 5, 6, 2, 1, 0] (ls' := [(0, .inr (.inr y0)), (1, .inl y1), (2, .inr (.inl y2)), (4, .inl (y4 + (1 : Int32))), (5, .inl (-1 : Int32)), (6, .inl (y6 + (1 : Int32)))]) rfl ?_
          exact hB _ _ _ _ _ _ _ _ H h2
        · replace H := jif_f c32 H
          refine jS.adv O [(.bipush 100, 0, 0, 0, 0, (100 : Int32), 0), (.iload 4, 0, 0, 0, 0, 0, 0), (.iadd, 0, 0, 0, 0, 0, 0), (.goto 4, 0, 159, 0, 0, 0, 0), (.istore 5, 0, 0, 0, 0, 0, 0), (.iinc 6 1, 0, 0, 0, 0, (1 : Int32), 0), (.goto (-96), 0, 68, 0, 0, 0, 0)] (pc' := 68) (ls' := [(6, .inl (y6 + (1 : Int32))), (5, .inl ((100 : Int32) + (y4 + (1 : Int32)))), (4, .inl (y4 + (1 : Int32))), (7, .inr (.inl (jL m (jP m (jP m (jP m y0 2) y1.toNatClampNeg) 0) y6.toNatClampNeg))), (0, .inr (.inr y0)), (1, .inl y1), (2, .inr (.inl y2))]) (st' := []) (m2 := t31.2) (by decide +kernel) rfl trivial ?_
          refine jS.loc' [4, 5, 6, 2, 1, 0] (ls' := [(0, .inr (.inr y0)), (1, .inl y1), (2, .inr (.inl y2)), (4, .inl (y4 + (1 : Int32))), (5, .inl ((100 : Int32) + (y4 + (1 : Int32)))), (6, .inl (y6 + (1 : Int32)))]) rfl ?_
          exact hB _ _ _ _ _ _ _ _ H h2
      · replace H := jif_t (Classical.not_not.mp c24) H
        refine jS.adv O [(.bipush (-20), 0, 0, 0, 0, (-20 : Int32), 0), (.iload 6, 0, 0, 0, 0, 0, 0), (.isub, 0, 0, 0, 0, 0, 0), (.istore 5, 0, 0, 0, 0, 0, 0), (.goto 43, 0, 161, 0, 0, 0, 0), (.iinc 6 1, 0, 0, 0, 0, (1 : Int32), 0), (.goto (-96), 0, 68, 0, 0, 0, 0)] (pc' := 68) (ls' := [(6, .inl (y6 + (1 : Int32))), (5, .inl ((-20 : Int32) - y6)), (7, .inr (.inl (jL m (jP m (jP m (jP m y0 2) y1.toNatClampNeg) 0) y6.toNatClampNeg))), (0, .inr (.inr y0)), (1, .inl y1), (2, .inr (.inl y2)), (4, .inl y4)]) (st' := []) (m2 := m) (by decide +kernel) rfl trivial ?_
        refine jS.loc' [3, 4, 5, 6, 1, 0] (ls' := [(0, .inr (.inr y0)), (1, .inl y1), (2, .inr (.inl y2)), (4, .inl y4), (5, .inl ((-20 : Int32) - y6)), (6, .inl (y6 + (1 : Int32)))]) rfl ?_
        exact hB _ _ _ _ _ _ _ _ H h2
def c_X9_strip_l68 (F : Nat) : Nat → jMe → Nat → Int32 → Int64 → Int32 → Int32 → Int32 → Option (jMe × Nat × Int32 × Int32)
  | 0, _, _, _, _, _, _, _ => none
  | n + 1, m, y0, y1, y2, y4, y5, y6 => c_X9_strip_l68_b F (fun m y0 y1 y2 y4 y5 y6 => c_X9_strip_l68 F n m y0 y1 y2 y4 y5 y6) m y0 y1 y2 y4 y5 y6
theorem ec_X9_strip_l68 {X : jX} {l : Launch} {d : Nat} (O : jOk X) (hd : 70 ≤ d) {F : Nat} {m0 m' : jMe} {v : Option jAV} : ∀ (n : Nat) {m : jMe} {y0 : Nat} {y1 : Int32} {y2 : Int64} {y4 : Int32} {y5 : Int32} {y6 : Int32} {r : jMe × Nat × Int32 × Int32} (H : c_X9_strip_l68 F n m y0 y1 y2 y4 y5 y6 = some r) (h2 : jS X l d jm_X9_strip m0 v m' (167, [(0, .inr (.inr r.2.1)), (4, .inl r.2.2.1), (5, .inl r.2.2.2)], [], r.1)), jS X l d jm_X9_strip m0 v m' (68, [(0, .inr (.inr y0)), (1, .inl y1), (2, .inr (.inl y2)), (4, .inl y4), (5, .inl y5), (6, .inl y6)], [], m) := by
  intro n
  induction n with
  | zero =>
    intro m y0 y1 y2 y4 y5 y6 r H h2
    cases (show none = some r from H)
  | succ n ih =>
    intro m y0 y1 y2 y4 y5 y6 r H h2
    exact ec_X9_strip_l68_b O hd (B := (fun m y0 y1 y2 y4 y5 y6 => c_X9_strip_l68 F n m y0 y1 y2 y4 y5 y6)) (fun m y0 y1 y2 y4 y5 y6 r H h2 => ih H h2) H h2
def c_X9_strip_j167 (F : Nat) (m : jMe) (y0 : Nat) (y4 : Int32) (y5 : Int32) : Option (Int32 × jMe) :=
  jgd (jK m y0 = 41) <| jb (c_X9_shut F m y0 y4) fun t38 => (if y5 = (-1 : Int32) then some (y4, t38) else some (y5, t38))
theorem ec_X9_strip_j167 {X : jX} {l : Launch} {d : Nat} (O : jOk X) (hd : 70 ≤ d) {F : Nat} {m0 m : jMe} {y0 : Nat} {y4 : Int32} {y5 : Int32} {r : Int32 × jMe} (H : c_X9_strip_j167 F m y0 y4 y5 = some r) : jS X l d jm_X9_strip m0 (some (.inl r.1)) r.2 (167, [(0, .inr (.inr y0)), (4, .inl y4), (5, .inl y5)], [], m) := by
  unfold c_X9_strip_j167 at H
  obtain ⟨w36, H⟩ := jgd_ok H
  refine jS.adv O [(.aload_n 0, 0, 0, 0, 0, 0, 0), (.iload 4, 0, 0, 0, 0, 0, 0)] (pc' := 170) (ls' := [(0, .inr (.inr y0)), (4, .inl y4), (5, .inl y5)]) (st' := [.inl y4, .inr (.inr y0)]) (m2 := m) (by decide +kernel) rfl trivial ?_
  obtain ⟨t38, w37, H⟩ := jb_ok H
  refine jS.step (c' := (173, [(0, .inr (.inr y0)), (4, .inl y4), (5, .inl y5)], [], t38)) (jSt.callV (c := 9) (As := [.inl y4]) (rest := []) O (ec_X9_shut (d := 4) O (Nat.le_refl _) w37) w36 (by decide) rfl (by omega) jmw_X9_shut jmv_X9_shut jmn_X9_shut (idx := 297) (jW_of 1258 (by decide +kernel) rfl) (Nat.le_of_ble_eq_true rfl) (by decide +kernel)) ?_
  refine jS.adv O [(.iload 5, 0, 0, 0, 0, 0, 0), (.iconst (-1), 0, 0, 0, 0, (-1 : Int32), 0)] (pc' := 176) (ls' := [(0, .inr (.inr y0)), (4, .inl y4), (5, .inl y5)]) (st' := [.inl (-1 : Int32), .inl y5]) (m2 := t38) (by decide +kernel) rfl trivial ?_
  refine jS.br (i := .if_icmp .ne 8) (P := ¬ y5 = (-1 : Int32)) (rest := []) rfl (by decide +kernel) (tgt := 184) (by decide) (fun c39 => ?_) (fun c39 => ?_)
  · replace H := jif_f c39 H
    refine jS.adv O [(.iload 5, 0, 0, 0, 0, 0, 0)] (pc' := 186) (ls' := [(0, .inr (.inr y0)), (4, .inl y4), (5, .inl y5)]) (st' := [.inl y5]) (m2 := t38) (by decide +kernel) rfl trivial ?_
    replace H := Option.some.inj H
    subst H
    exact jS.iret rfl (by decide +kernel)
  · replace H := jif_t (Classical.not_not.mp c39) H
    refine jS.adv O [(.iload 4, 0, 0, 0, 0, 0, 0), (.goto 5, 0, 186, 0, 0, 0, 0)] (pc' := 186) (ls' := [(0, .inr (.inr y0)), (4, .inl y4), (5, .inl y5)]) (st' := [.inl y4]) (m2 := t38) (by decide +kernel) rfl trivial ?_
    replace H := Option.some.inj H
    subst H
    exact jS.iret rfl (by decide +kernel)
def c_X9_strip (F : Nat) (m : jMe) (x0 : Nat) (x1 : Int32) (x2 : Int64) : Option (Int32 × jMe) :=
  jb (c_X9_isSheet F m x1) fun t2 => (if t2 = 0 then some ((-2 : Int32), m) else (if 0 ≤ (lg_cmp x2 (0 : Int64)) then jgd (jK m x0 = 41) <| (if (jI m x0 15) = 0 then some ((-3 : Int32), m) else jgd (jK m (jP m x0 2) = 7) <| jgd (jin x1 (jZ m (jP m x0 2)) = true) <| jgd (jK m (jP m (jP m x0 2) x1.toNatClampNeg) = 37) <| (if (jI m (jP m (jP m x0 2) x1.toNatClampNeg) 1) = (-1 : Int32) then some ((-11 : Int32), m) else jgd (jin x1 (jZ m (jP m x0 2)) = true) <| (if (jI m (jP m (jP m x0 2) x1.toNatClampNeg) 2) ≤ (12 : Int32) then jb (c_X9_strip_l68 F F m x0 x1 x2 (0 : Int32) (-1 : Int32) (0 : Int32)) fun e34 => c_X9_strip_j167 F e34.1 e34.2.1 e34.2.2.1 e34.2.2.2 else some ((-2 : Int32), m)))) else some ((-2 : Int32), m)))
theorem ec_X9_strip {X : jX} {l : Launch} {d : Nat} (O : jOk X) (hd : 70 ≤ d) {F : Nat} {m : jMe} {x0 : Nat} {x1 : Int32} {x2 : Int64} {r : Int32 × jMe} (H : c_X9_strip F m x0 x1 x2 = some r) : jH X l d jm_X9_strip [.inr (.inr x0), .inl x1, .inr (.inl x2)] m (some (.inl r.1)) r.2 := by
  refine jH.of jpl_RX9 rfl (Nat.le_of_ble_eq_true rfl) ?_
  show jS X l d jm_X9_strip m _ _ (0, [(0, .inr (.inr x0)), (1, .inl x1), (2, .inr (.inl x2))], [], m)
  unfold c_X9_strip at H
  refine jS.adv O [(.iload_n 1, 0, 0, 0, 0, 0, 0)] (pc' := 1) (ls' := [(0, .inr (.inr x0)), (1, .inl x1), (2, .inr (.inl x2))]) (st' := [.inl x1]) (m2 := m) (by decide +kernel) rfl trivial ?_
  obtain ⟨t2, w1, H⟩ := jb_ok H
  refine jS.step (c' := (4, [(0, .inr (.inr x0)), (1, .inl x1), (2, .inr (.inl x2))], [.inl t2], m)) (jSt.callS (As := [.inl x1]) (rest := []) O (ec_X9_isSheet (d := 2) O (Nat.le_refl _) w1) (by omega) jmw_X9_isSheet jmv_X9_isSheet jmn_X9_isSheet (idx := 278) (jW_of 1242 (by decide +kernel) rfl) (Nat.le_of_ble_eq_true rfl) (by decide +kernel)) ?_
  refine jS.br (i := .ifCond .eq 9) (P := t2 = 0) (rest := []) rfl (by decide +kernel) (tgt := 13) (by decide) (fun c3 => ?_) (fun c3 => ?_)
  · replace H := jif_t c3 H
    refine jS.adv O [(.bipush (-2), 0, 0, 0, 0, (-2 : Int32), 0)] (pc' := 15) (ls' := [(0, .inr (.inr x0)), (1, .inl x1), (2, .inr (.inl x2))]) (st' := [.inl (-2 : Int32)]) (m2 := m) (by decide +kernel) rfl trivial ?_
    replace H := Option.some.inj H
    subst H
    exact jS.iret rfl (by decide +kernel)
  · replace H := jif_f c3 H
    refine jS.adv O [(.lload_n 2, 0, 0, 0, 0, 0, 0), (.lconst 0, 0, 0, 0, 0, 0, (0 : Int64)), (.lcmp, 0, 0, 0, 0, 0, 0)] (pc' := 10) (ls' := [(0, .inr (.inr x0)), (1, .inl x1), (2, .inr (.inl x2))]) (st' := [.inl (lg_cmp x2 (0 : Int64))]) (m2 := m) (by decide +kernel) rfl trivial ?_
    refine jS.br (i := .ifCond .ge 6) (P := 0 ≤ (lg_cmp x2 (0 : Int64))) (rest := []) rfl (by decide +kernel) (tgt := 16) (by decide) (fun c4 => ?_) (fun c4 => ?_)
    · replace H := jif_t c4 H
      obtain ⟨w5, H⟩ := jgd_ok H
      refine jS.adv O [(.aload_n 0, 0, 0, 0, 0, 0, 0), (.getfield 82, 0, 9, 15, 593, 0, 0)] (pc' := 20) (ls' := [(0, .inr (.inr x0)), (1, .inl x1), (2, .inr (.inl x2))]) (st' := [.inl (jI m x0 15)]) (m2 := m) (by decide +kernel) rfl ⟨w5, trivial⟩ ?_
      refine jS.br (i := .ifCond .ne 6) (P := ¬ (jI m x0 15) = 0) (rest := []) rfl (by decide +kernel) (tgt := 26) (by decide) (fun c6 => ?_) (fun c6 => ?_)
      · replace H := jif_f c6 H
        obtain ⟨w7, H⟩ := jgd_ok H
        obtain ⟨w8, H⟩ := jgd_ok H
        obtain ⟨w9, H⟩ := jgd_ok H
        refine jS.adv O [(.aload_n 0, 0, 0, 0, 0, 0, 0), (.getfield 23, 0, 9, 2, 580, 0, 0), (.iload_n 1, 0, 0, 0, 0, 0, 0), (.aaload, 0, 7, 0, 0, 0, 0), (.getfield 281, 0, 5, 1, 537, 0, 0), (.iconst (-1), 0, 0, 0, 0, (-1 : Int32), 0)] (pc' := 36) (ls' := [(0, .inr (.inr x0)), (1, .inl x1), (2, .inr (.inl x2))]) (st' := [.inl (-1 : Int32), .inl (jI m (jP m (jP m x0 2) x1.toNatClampNeg) 1)]) (m2 := m) (by decide +kernel) rfl ⟨w5, ⟨w7, jib_ok w8⟩, w9, trivial⟩ ?_
        refine jS.br (i := .if_icmp .ne 6) (P := ¬ (jI m (jP m (jP m x0 2) x1.toNatClampNeg) 1) = (-1 : Int32)) (rest := []) rfl (by decide +kernel) (tgt := 42) (by decide) (fun c10 => ?_) (fun c10 => ?_)
        · replace H := jif_f c10 H
          obtain ⟨w11, H⟩ := jgd_ok H
          refine jS.adv O [(.aload_n 0, 0, 0, 0, 0, 0, 0), (.getfield 23, 0, 9, 2, 580, 0, 0), (.iload_n 1, 0, 0, 0, 0, 0, 0), (.aaload, 0, 7, 0, 0, 0, 0), (.getfield 284, 0, 5, 2, 539, 0, 0), (.bipush 12, 0, 0, 0, 0, (12 : Int32), 0)] (pc' := 53) (ls' := [(0, .inr (.inr x0)), (1, .inl x1), (2, .inr (.inl x2))]) (st' := [.inl (12 : Int32), .inl (jI m (jP m (jP m x0 2) x1.toNatClampNeg) 2)]) (m2 := m) (by decide +kernel) rfl ⟨w5, ⟨w7, jib_ok w11⟩, w9, trivial⟩ ?_
          refine jS.br (i := .if_icmp .le 6) (P := (jI m (jP m (jP m x0 2) x1.toNatClampNeg) 2) ≤ (12 : Int32)) (rest := []) rfl (by decide +kernel) (tgt := 59) (by decide) (fun c12 => ?_) (fun c12 => ?_)
          · replace H := jif_t c12 H
            refine jS.adv O [(.iconst 0, 0, 0, 0, 0, (0 : Int32), 0), (.istore 4, 0, 0, 0, 0, 0, 0), (.iconst (-1), 0, 0, 0, 0, (-1 : Int32), 0), (.istore 5, 0, 0, 0, 0, 0, 0), (.iconst 0, 0, 0, 0, 0, (0 : Int32), 0), (.istore 6, 0, 0, 0, 0, 0, 0)] (pc' := 68) (ls' := [(6, .inl (0 : Int32)), (5, .inl (-1 : Int32)), (4, .inl (0 : Int32)), (0, .inr (.inr x0)), (1, .inl x1), (2, .inr (.inl x2))]) (st' := []) (m2 := m) (by decide +kernel) rfl trivial ?_
            refine jS.loc' [3, 4, 5, 2, 1, 0] (ls' := [(0, .inr (.inr x0)), (1, .inl x1), (2, .inr (.inl x2)), (4, .inl (0 : Int32)), (5, .inl (-1 : Int32)), (6, .inl (0 : Int32))]) rfl ?_
            obtain ⟨e34, w35, H⟩ := jb_ok H
            refine ec_X9_strip_l68 O hd F w35 ?_
            refine jS.loc' [0, 1, 2] (ls' := [(0, .inr (.inr e34.2.1)), (4, .inl e34.2.2.1), (5, .inl e34.2.2.2)]) rfl ?_
            exact ec_X9_strip_j167 O hd H
          · replace H := jif_f c12 H
            refine jS.adv O [(.bipush (-2), 0, 0, 0, 0, (-2 : Int32), 0)] (pc' := 58) (ls' := [(0, .inr (.inr x0)), (1, .inl x1), (2, .inr (.inl x2))]) (st' := [.inl (-2 : Int32)]) (m2 := m) (by decide +kernel) rfl trivial ?_
            replace H := Option.some.inj H
            subst H
            exact jS.iret rfl (by decide +kernel)
        · replace H := jif_t (Classical.not_not.mp c10) H
          refine jS.adv O [(.bipush (-11), 0, 0, 0, 0, (-11 : Int32), 0)] (pc' := 41) (ls' := [(0, .inr (.inr x0)), (1, .inl x1), (2, .inr (.inl x2))]) (st' := [.inl (-11 : Int32)]) (m2 := m) (by decide +kernel) rfl trivial ?_
          replace H := Option.some.inj H
          subst H
          exact jS.iret rfl (by decide +kernel)
      · replace H := jif_t (Classical.not_not.mp c6) H
        refine jS.adv O [(.bipush (-3), 0, 0, 0, 0, (-3 : Int32), 0)] (pc' := 25) (ls' := [(0, .inr (.inr x0)), (1, .inl x1), (2, .inr (.inl x2))]) (st' := [.inl (-3 : Int32)]) (m2 := m) (by decide +kernel) rfl trivial ?_
        replace H := Option.some.inj H
        subst H
        exact jS.iret rfl (by decide +kernel)
    · replace H := jif_f c4 H
      refine jS.adv O [(.bipush (-2), 0, 0, 0, 0, (-2 : Int32), 0)] (pc' := 15) (ls' := [(0, .inr (.inr x0)), (1, .inl x1), (2, .inr (.inl x2))]) (st' := [.inl (-2 : Int32)]) (m2 := m) (by decide +kernel) rfl trivial ?_
      replace H := Option.some.inj H
      subst H
      exact jS.iret rfl (by decide +kernel)
def c_X9_slate (F : Nat) (m : jMe) (x0 : Nat) (x1 : Int32) : Option (Int32) :=
  (if x1 < 0 then some (-99 : Int32) else jgd (jK m x0 = 41) <| (if x1 < (jI m x0 13) then jgd (jK m (jP m x0 7) = 1) <| jgd (jin x1 (jZ m (jP m x0 7)) = true) <| some (jI m (jP m x0 7) x1.toNatClampNeg) else some (-99 : Int32)))
theorem ec_X9_slate {X : jX} {l : Launch} {d : Nat} (O : jOk X) (hd : 2 ≤ d) {F : Nat} {m : jMe} {x0 : Nat} {x1 : Int32} {r : Int32} (H : c_X9_slate F m x0 x1 = some r) : jH X l d jm_X9_slate [.inr (.inr x0), .inl x1] m (some (.inl r)) m := by
  refine jH.of jpl_RX9 rfl (Nat.le_of_ble_eq_true rfl) ?_
  show jS X l d jm_X9_slate m _ _ (0, [(0, .inr (.inr x0)), (1, .inl x1)], [], m)
  unfold c_X9_slate at H
  refine jS.adv O [(.iload_n 1, 0, 0, 0, 0, 0, 0)] (pc' := 1) (ls' := [(0, .inr (.inr x0)), (1, .inl x1)]) (st' := [.inl x1]) (m2 := m) (by decide +kernel) rfl trivial ?_
  refine jS.br (i := .ifCond .lt 11) (P := x1 < 0) (rest := []) rfl (by decide +kernel) (tgt := 12) (by decide) (fun c1 => ?_) (fun c1 => ?_)
  · replace H := jif_t c1 H
    refine jS.adv O [(.bipush (-99), 0, 0, 0, 0, (-99 : Int32), 0), (.goto 9, 0, 23, 0, 0, 0, 0)] (pc' := 23) (ls' := [(0, .inr (.inr x0)), (1, .inl x1)]) (st' := [.inl (-99 : Int32)]) (m2 := m) (by decide +kernel) rfl trivial ?_
    replace H := Option.some.inj H
    subst H
    exact jS.iret rfl (by decide +kernel)
  · replace H := jif_f c1 H
    obtain ⟨w2, H⟩ := jgd_ok H
    refine jS.adv O [(.iload_n 1, 0, 0, 0, 0, 0, 0), (.aload_n 0, 0, 0, 0, 0, 0, 0), (.getfield 76, 0, 9, 13, 591, 0, 0)] (pc' := 9) (ls' := [(0, .inr (.inr x0)), (1, .inl x1)]) (st' := [.inl (jI m x0 13), .inl x1]) (m2 := m) (by decide +kernel) rfl ⟨w2, trivial⟩ ?_
    refine jS.br (i := .if_icmp .lt 8) (P := x1 < (jI m x0 13)) (rest := []) rfl (by decide +kernel) (tgt := 17) (by decide) (fun c3 => ?_) (fun c3 => ?_)
    · replace H := jif_t c3 H
      obtain ⟨w4, H⟩ := jgd_ok H
      obtain ⟨w5, H⟩ := jgd_ok H
      refine jS.adv O [(.aload_n 0, 0, 0, 0, 0, 0, 0), (.getfield 52, 0, 9, 7, 585, 0, 0), (.iload_n 1, 0, 0, 0, 0, 0, 0), (.iaload, 0, 1, 0, 0, 0, 0)] (pc' := 23) (ls' := [(0, .inr (.inr x0)), (1, .inl x1)]) (st' := [.inl (jI m (jP m x0 7) x1.toNatClampNeg)]) (m2 := m) (by decide +kernel) rfl ⟨w2, ⟨w4, jib_ok w5⟩, trivial⟩ ?_
      replace H := Option.some.inj H
      subst H
      exact jS.iret rfl (by decide +kernel)
    · replace H := jif_f c3 H
      refine jS.adv O [(.bipush (-99), 0, 0, 0, 0, (-99 : Int32), 0), (.goto 9, 0, 23, 0, 0, 0, 0)] (pc' := 23) (ls' := [(0, .inr (.inr x0)), (1, .inl x1)]) (st' := [.inl (-99 : Int32)]) (m2 := m) (by decide +kernel) rfl trivial ?_
      replace H := Option.some.inj H
      subst H
      exact jS.iret rfl (by decide +kernel)
def c_X9_lot_l72_b (F : Nat) (B : jMe → Int32 → Int32 → Int32 → Int32 → Int32 → Nat → Int32 → Int32 → Option (jMe × Int32 × Int32 × Int32)) (m : jMe) (y1 : Int32) (y2 : Int32) (y3 : Int32) (y4 : Int32) (y5 : Int32) (y6 : Nat) (y7 : Int32) (y8 : Int32) : Option (jMe × Int32 × Int32 × Int32) :=
  (if y2 ≤ y8 then some (m, y2, y5, y7) else jgd (jK m y6 = 34) <| jb (c_X2_drawn F m y6 (y1 + y8)) fun t29 => (if t29.1 = (-1 : Int32) then B t29.2 y1 y2 y3 y4 y5 y6 y7 (y8 + (1 : Int32)) else jgd (jK t29.2 y6 = 34) <| jb (c_X2_answerValue F t29.2 y6 y3) fun t33 => (if t33 = y4 then B t29.2 y1 y2 y3 y4 y5 y6 (y7 + (1 : Int32)) (y8 + (1 : Int32)) else B t29.2 y1 y2 y3 y4 y5 y6 y7 (y8 + (1 : Int32)))))
theorem ec_X9_lot_l72_b {X : jX} {l : Launch} {d : Nat} (O : jOk X) (hd : 8 ≤ d) {F : Nat} {m0 m' : jMe} {v : Option jAV} {B : jMe → Int32 → Int32 → Int32 → Int32 → Int32 → Nat → Int32 → Int32 → Option (jMe × Int32 × Int32 × Int32)} (hB : ∀ (m : jMe) (y1 : Int32) (y2 : Int32) (y3 : Int32) (y4 : Int32) (y5 : Int32) (y6 : Nat) (y7 : Int32) (y8 : Int32) (r : jMe × Int32 × Int32 × Int32), B m y1 y2 y3 y4 y5 y6 y7 y8 = some r → (jS X l d jm_X9_lot m0 v m' (111, [(2, .inl r.2.1), (5, .inl r.2.2.1), (7, .inl r.2.2.2)], [], r.1)) → jS X l d jm_X9_lot m0 v m' (72, [(1, .inl y1), (2, .inl y2), (3, .inl y3), (4, .inl y4), (5, .inl y5), (6, .inr (.inr y6)), (7, .inl y7), (8, .inl y8)], [], m)) {m : jMe} {y1 : Int32} {y2 : Int32} {y3 : Int32} {y4 : Int32} {y5 : Int32} {y6 : Nat} {y7 : Int32} {y8 : Int32} {r : jMe × Int32 × Int32 × Int32} (H : c_X9_lot_l72_b F B m y1 y2 y3 y4 y5 y6 y7 y8 = some r) (h2 : jS X l d jm_X9_lot m0 v m' (111, [(2, .inl r.2.1), (5, .inl r.2.2.1), (7, .inl r.2.2.2)], [], r.1)) : jS X l d jm_X9_lot m0 v m' (72, [(1, .inl y1), (2, .inl y2), (3, .inl y3), (4, .inl y4), (5, .inl y5), (6, .inr (.inr y6)), (7, .inl y7), (8, .inl y8)], [], m) := by
  unfold c_X9_lot_l72_b at H
  refine jS.adv O [(.iload 8, 0, 0, 0, 0, 0, 0), (.iload_n 2, 0, 0, 0, 0, 0, 0)] (pc' := 75) (ls' := [(1, .inl y1), (2, .inl y2), (3, .inl y3), (4, .inl y4), (5, .inl y5), (6, .inr (.inr y6)), (7, .inl y7), (8, .inl y8)]) (st' := [.inl y2, .inl y8]) (m2 := m) (by decide +kernel) rfl trivial ?_
  refine jS.br (i := .if_icmp .ge 36) (P := y2 ≤ y8) (rest := []) rfl (by decide +kernel) (tgt := 111) (by decide) (fun c26 => ?_) (fun c26 => ?_)
  · replace H := jif_t c26 H
    replace H := Option.some.inj H
    subst H
    refine jS.loc' [1, 4, 6] (ls' := [(2, .inl y2), (5, .inl y5), (7, .inl y7)]) rfl ?_
    exact h2
  · replace H := jif_f c26 H
    obtain ⟨w27, H⟩ := jgd_ok H
    refine jS.adv O [(.aload 6, 0, 0, 0, 0, 0, 0), (.iload_n 1, 0, 0, 0, 0, 0, 0), (.iload 8, 0, 0, 0, 0, 0, 0), (.iadd, 0, 0, 0, 0, 0, 0)] (pc' := 84) (ls' := [(1, .inl y1), (2, .inl y2), (3, .inl y3), (4, .inl y4), (5, .inl y5), (6, .inr (.inr y6)), (7, .inl y7), (8, .inl y8)]) (st' := [.inl (y1 + y8), .inr (.inr y6)]) (m2 := m) (by decide +kernel) rfl trivial ?_
    obtain ⟨t29, w28, H⟩ := jb_ok H
    refine jS.step (c' := (87, [(1, .inl y1), (2, .inl y2), (3, .inl y3), (4, .inl y4), (5, .inl y5), (6, .inr (.inr y6)), (7, .inl y7), (8, .inl y8)], [.inl t29.1], t29.2)) (jSt.callV (c := 2) (As := [.inl (y1 + y8)]) (rest := []) O (ec_X2_drawn (d := 5) O (Nat.le_refl _) w28) w27 (by decide) rfl (by omega) jmw_X2_drawn jmv_X2_drawn jmn_X2_drawn (idx := 244) (jW_of 1161 (by decide +kernel) rfl) (Nat.le_of_ble_eq_true rfl) (by decide +kernel)) ?_
    refine jS.adv O [(.iconst (-1), 0, 0, 0, 0, (-1 : Int32), 0)] (pc' := 88) (ls' := [(1, .inl y1), (2, .inl y2), (3, .inl y3), (4, .inl y4), (5, .inl y5), (6, .inr (.inr y6)), (7, .inl y7), (8, .inl y8)]) (st' := [.inl (-1 : Int32), .inl t29.1]) (m2 := t29.2) (by decide +kernel) rfl trivial ?_
    refine jS.br (i := .if_icmp .eq 17) (P := t29.1 = (-1 : Int32)) (rest := []) rfl (by decide +kernel) (tgt := 105) (by decide) (fun c30 => ?_) (fun c30 => ?_)
    · replace H := jif_t c30 H
      refine jS.adv O [(.iinc 8 1, 0, 0, 0, 0, (1 : Int32), 0), (.goto (-36), 0, 72, 0, 0, 0, 0)] (pc' := 72) (ls' := [(8, .inl (y8 + (1 : Int32))), (1, .inl y1), (2, .inl y2), (3, .inl y3), (4, .inl y4), (5, .inl y5), (6, .inr (.inr y6)), (7, .inl y7)]) (st' := []) (m2 := t29.2) (by decide +kernel) rfl trivial ?_
      refine jS.loc' [1, 2, 3, 4, 5, 6, 7, 0] (ls' := [(1, .inl y1), (2, .inl y2), (3, .inl y3), (4, .inl y4), (5, .inl y5), (6, .inr (.inr y6)), (7, .inl y7), (8, .inl (y8 + (1 : Int32)))]) rfl ?_
      exact hB _ _ _ _ _ _ _ _ _ _ H h2
    · replace H := jif_f c30 H
      obtain ⟨w31, H⟩ := jgd_ok H
      refine jS.adv O [(.aload 6, 0, 0, 0, 0, 0, 0), (.iload_n 3, 0, 0, 0, 0, 0, 0)] (pc' := 94) (ls' := [(1, .inl y1), (2, .inl y2), (3, .inl y3), (4, .inl y4), (5, .inl y5), (6, .inr (.inr y6)), (7, .inl y7), (8, .inl y8)]) (st' := [.inl y3, .inr (.inr y6)]) (m2 := t29.2) (by decide +kernel) rfl trivial ?_
      obtain ⟨t33, w32, H⟩ := jb_ok H
      refine jS.step (c' := (97, [(1, .inl y1), (2, .inl y2), (3, .inl y3), (4, .inl y4), (5, .inl y5), (6, .inr (.inr y6)), (7, .inl y7), (8, .inl y8)], [.inl t33], t29.2)) (jSt.callV (c := 2) (As := [.inl y3]) (rest := []) O (ec_X2_answerValue (d := 2) O (Nat.le_refl _) w32) w31 (by decide) rfl (by omega) jmw_X2_answerValue jmv_X2_answerValue jmn_X2_answerValue (idx := 238) (jW_of 1132 (by decide +kernel) rfl) (Nat.le_of_ble_eq_true rfl) (by decide +kernel)) ?_
      refine jS.adv O [(.iload 4, 0, 0, 0, 0, 0, 0)] (pc' := 99) (ls' := [(1, .inl y1), (2, .inl y2), (3, .inl y3), (4, .inl y4), (5, .inl y5), (6, .inr (.inr y6)), (7, .inl y7), (8, .inl y8)]) (st' := [.inl y4, .inl t33]) (m2 := t29.2) (by decide +kernel) rfl trivial ?_
      refine jS.br (i := .if_icmp .ne 6) (P := ¬ t33 = y4) (rest := []) rfl (by decide +kernel) (tgt := 105) (by decide) (fun c34 => ?_) (fun c34 => ?_)
      · replace H := jif_f c34 H
        refine jS.adv O [(.iinc 8 1, 0, 0, 0, 0, (1 : Int32), 0), (.goto (-36), 0, 72, 0, 0, 0, 0)] (pc' := 72) (ls' := [(8, .inl (y8 + (1 : Int32))), (1, .inl y1), (2, .inl y2), (3, .inl y3), (4, .inl y4), (5, .inl y5), (6, .inr (.inr y6)), (7, .inl y7)]) (st' := []) (m2 := t29.2) (by decide +kernel) rfl trivial ?_
        refine jS.loc' [1, 2, 3, 4, 5, 6, 7, 0] (ls' := [(1, .inl y1), (2, .inl y2), (3, .inl y3), (4, .inl y4), (5, .inl y5), (6, .inr (.inr y6)), (7, .inl y7), (8, .inl (y8 + (1 : Int32)))]) rfl ?_
        exact hB _ _ _ _ _ _ _ _ _ _ H h2
      · replace H := jif_t (Classical.not_not.mp c34) H
        refine jS.adv O [(.iinc 7 1, 0, 0, 0, 0, (1 : Int32), 0), (.iinc 8 1, 0, 0, 0, 0, (1 : Int32), 0), (.goto (-36), 0, 72, 0, 0, 0, 0)] (pc' := 72) (ls' := [(8, .inl (y8 + (1 : Int32))), (7, .inl (y7 + (1 : Int32))), (1, .inl y1), (2, .inl y2), (3, .inl y3), (4, .inl y4), (5, .inl y5), (6, .inr (.inr y6))]) (st' := []) (m2 := t29.2) (by decide +kernel) rfl trivial ?_
        refine jS.loc' [2, 3, 4, 5, 6, 7, 1, 0] (ls' := [(1, .inl y1), (2, .inl y2), (3, .inl y3), (4, .inl y4), (5, .inl y5), (6, .inr (.inr y6)), (7, .inl (y7 + (1 : Int32))), (8, .inl (y8 + (1 : Int32)))]) rfl ?_
        exact hB _ _ _ _ _ _ _ _ _ _ H h2
def c_X9_lot_l72 (F : Nat) : Nat → jMe → Int32 → Int32 → Int32 → Int32 → Int32 → Nat → Int32 → Int32 → Option (jMe × Int32 × Int32 × Int32)
  | 0, _, _, _, _, _, _, _, _, _ => none
  | n + 1, m, y1, y2, y3, y4, y5, y6, y7, y8 => c_X9_lot_l72_b F (fun m y1 y2 y3 y4 y5 y6 y7 y8 => c_X9_lot_l72 F n m y1 y2 y3 y4 y5 y6 y7 y8) m y1 y2 y3 y4 y5 y6 y7 y8
theorem ec_X9_lot_l72 {X : jX} {l : Launch} {d : Nat} (O : jOk X) (hd : 8 ≤ d) {F : Nat} {m0 m' : jMe} {v : Option jAV} : ∀ (n : Nat) {m : jMe} {y1 : Int32} {y2 : Int32} {y3 : Int32} {y4 : Int32} {y5 : Int32} {y6 : Nat} {y7 : Int32} {y8 : Int32} {r : jMe × Int32 × Int32 × Int32} (H : c_X9_lot_l72 F n m y1 y2 y3 y4 y5 y6 y7 y8 = some r) (h2 : jS X l d jm_X9_lot m0 v m' (111, [(2, .inl r.2.1), (5, .inl r.2.2.1), (7, .inl r.2.2.2)], [], r.1)), jS X l d jm_X9_lot m0 v m' (72, [(1, .inl y1), (2, .inl y2), (3, .inl y3), (4, .inl y4), (5, .inl y5), (6, .inr (.inr y6)), (7, .inl y7), (8, .inl y8)], [], m) := by
  intro n
  induction n with
  | zero =>
    intro m y1 y2 y3 y4 y5 y6 y7 y8 r H h2
    cases (show none = some r from H)
  | succ n ih =>
    intro m y1 y2 y3 y4 y5 y6 y7 y8 r H h2
    exact ec_X9_lot_l72_b O hd (B := (fun m y1 y2 y3 y4 y5 y6 y7 y8 => c_X9_lot_l72 F n m y1 y2 y3 y4 y5 y6 y7 y8)) (fun m y1 y2 y3 y4 y5 y6 y7 y8 r H h2 => ih H h2) H h2
def c_X9_lot (F : Nat) (m : jMe) (x0 : Nat) (x1 : Int32) (x2 : Int32) (x3 : Int32) (x4 : Int32) (x5 : Int32) : Option (Int64 × jMe) :=
  (if x2 < (1 : Int32) then some ((-4611686018427387904 : Int64), m) else (if (20 : Int32) < x2 then some ((-4611686018427387904 : Int64), m) else jb (c_X9_isPart F m x5) fun t4 => (if t4 = 0 then some ((-4611686018427387904 : Int64), m) else jgd (jK m x0 = 41) <| jb (c_X9_askedAttributes F m x0) fun t8 => jb (c_X9_isIn F m t8 x3) fun t10 => (if t10 = 0 then some ((-4611686018427387904 : Int64), m) else jb (c_X9_current F m x0) fun t13 => jgd (jK t13.2 t13.1 = 34) <| jb (c_X2_isTold F t13.2 t13.1) fun t16 => (if t16 = 0 then some ((-4611686018427387904 : Int64), t13.2) else jgd (jK t13.2 x0 = 41) <| jb (c_X9_current F t13.2 x0) fun t20 => jgd (jK t20.2 t20.1 = 34) <| (if (lg_cmp (jL t20.2 t20.1 6) (0 : Int64)) = 0 then some ((-4611686018427387904 : Int64), t20.2) else jgd (jK t20.2 x0 = 41) <| jb (c_X9_current F t20.2 x0) fun t25 => jb (c_X9_lot_l72 F F t25.2 x1 x2 x3 x4 x5 t25.1 (0 : Int32) (0 : Int32)) fun e36 => jb (c_X9_partOf F e36.1 (Int32.toInt64 e36.2.2.2) (Int32.toInt64 e36.2.1) e36.2.2.1) fun t39 => some (t39, e36.1)))))))
theorem ec_X9_lot {X : jX} {l : Launch} {d : Nat} (O : jOk X) (hd : 8 ≤ d) {F : Nat} {m : jMe} {x0 : Nat} {x1 : Int32} {x2 : Int32} {x3 : Int32} {x4 : Int32} {x5 : Int32} {r : Int64 × jMe} (H : c_X9_lot F m x0 x1 x2 x3 x4 x5 = some r) : jH X l d jm_X9_lot [.inr (.inr x0), .inl x1, .inl x2, .inl x3, .inl x4, .inl x5] m (some (.inr (.inl r.1))) r.2 := by
  refine jH.of jpl_RX9 rfl (Nat.le_of_ble_eq_true rfl) ?_
  show jS X l d jm_X9_lot m _ _ (0, [(0, .inr (.inr x0)), (1, .inl x1), (2, .inl x2), (3, .inl x3), (4, .inl x4), (5, .inl x5)], [], m)
  unfold c_X9_lot at H
  refine jS.adv O [(.iload_n 2, 0, 0, 0, 0, 0, 0), (.iconst 1, 0, 0, 0, 0, (1 : Int32), 0)] (pc' := 2) (ls' := [(0, .inr (.inr x0)), (1, .inl x1), (2, .inl x2), (3, .inl x3), (4, .inl x4), (5, .inl x5)]) (st' := [.inl (1 : Int32), .inl x2]) (m2 := m) (by decide +kernel) rfl trivial ?_
  refine jS.br (i := .if_icmp .lt 28) (P := x2 < (1 : Int32)) (rest := []) rfl (by decide +kernel) (tgt := 30) (by decide) (fun c1 => ?_) (fun c1 => ?_)
  · replace H := jif_t c1 H
    refine jS.adv O [(.ldc2_w 154, 0, 757, 0, 0, 0, (-4611686018427387904 : Int64))] (pc' := 33) (ls' := [(0, .inr (.inr x0)), (1, .inl x1), (2, .inl x2), (3, .inl x3), (4, .inl x4), (5, .inl x5)]) (st' := [.inr (.inl (-4611686018427387904 : Int64))]) (m2 := m) (by decide +kernel) rfl trivial ?_
    replace H := Option.some.inj H
    subst H
    exact jS.lret rfl (by decide +kernel)
  · replace H := jif_f c1 H
    refine jS.adv O [(.iload_n 2, 0, 0, 0, 0, 0, 0), (.bipush 20, 0, 0, 0, 0, (20 : Int32), 0)] (pc' := 8) (ls' := [(0, .inr (.inr x0)), (1, .inl x1), (2, .inl x2), (3, .inl x3), (4, .inl x4), (5, .inl x5)]) (st' := [.inl (20 : Int32), .inl x2]) (m2 := m) (by decide +kernel) rfl trivial ?_
    refine jS.br (i := .if_icmp .gt 22) (P := (20 : Int32) < x2) (rest := []) rfl (by decide +kernel) (tgt := 30) (by decide) (fun c2 => ?_) (fun c2 => ?_)
    · replace H := jif_t c2 H
      refine jS.adv O [(.ldc2_w 154, 0, 757, 0, 0, 0, (-4611686018427387904 : Int64))] (pc' := 33) (ls' := [(0, .inr (.inr x0)), (1, .inl x1), (2, .inl x2), (3, .inl x3), (4, .inl x4), (5, .inl x5)]) (st' := [.inr (.inl (-4611686018427387904 : Int64))]) (m2 := m) (by decide +kernel) rfl trivial ?_
      replace H := Option.some.inj H
      subst H
      exact jS.lret rfl (by decide +kernel)
    · replace H := jif_f c2 H
      refine jS.adv O [(.iload 5, 0, 0, 0, 0, 0, 0)] (pc' := 13) (ls' := [(0, .inr (.inr x0)), (1, .inl x1), (2, .inl x2), (3, .inl x3), (4, .inl x4), (5, .inl x5)]) (st' := [.inl x5]) (m2 := m) (by decide +kernel) rfl trivial ?_
      obtain ⟨t4, w3, H⟩ := jb_ok H
      refine jS.step (c' := (16, [(0, .inr (.inr x0)), (1, .inl x1), (2, .inl x2), (3, .inl x3), (4, .inl x4), (5, .inl x5)], [.inl t4], m)) (jSt.callS (As := [.inl x5]) (rest := []) O (ec_X9_isPart (d := 2) O (Nat.le_refl _) w3) (by omega) jmw_X9_isPart jmv_X9_isPart jmn_X9_isPart (idx := 254) (jW_of 1199 (by decide +kernel) rfl) (Nat.le_of_ble_eq_true rfl) (by decide +kernel)) ?_
      refine jS.br (i := .ifCond .eq 14) (P := t4 = 0) (rest := []) rfl (by decide +kernel) (tgt := 30) (by decide) (fun c5 => ?_) (fun c5 => ?_)
      · replace H := jif_t c5 H
        refine jS.adv O [(.ldc2_w 154, 0, 757, 0, 0, 0, (-4611686018427387904 : Int64))] (pc' := 33) (ls' := [(0, .inr (.inr x0)), (1, .inl x1), (2, .inl x2), (3, .inl x3), (4, .inl x4), (5, .inl x5)]) (st' := [.inr (.inl (-4611686018427387904 : Int64))]) (m2 := m) (by decide +kernel) rfl trivial ?_
        replace H := Option.some.inj H
        subst H
        exact jS.lret rfl (by decide +kernel)
      · replace H := jif_f c5 H
        obtain ⟨w6, H⟩ := jgd_ok H
        refine jS.adv O [(.aload_n 0, 0, 0, 0, 0, 0, 0)] (pc' := 20) (ls' := [(0, .inr (.inr x0)), (1, .inl x1), (2, .inl x2), (3, .inl x3), (4, .inl x4), (5, .inl x5)]) (st' := [.inr (.inr x0)]) (m2 := m) (by decide +kernel) rfl trivial ?_
        obtain ⟨t8, w7, H⟩ := jb_ok H
        refine jS.step (c' := (23, [(0, .inr (.inr x0)), (1, .inl x1), (2, .inl x2), (3, .inl x3), (4, .inl x4), (5, .inl x5)], [.inl t8], m)) (jSt.callV (c := 9) (As := []) (rest := []) O (ec_X9_askedAttributes (d := 4) O (Nat.le_refl _) w7) w6 (by decide) rfl (by omega) jmw_X9_askedAttributes jmv_X9_askedAttributes jmn_X9_askedAttributes (idx := 196) (jW_of 857 (by decide +kernel) rfl) (Nat.le_of_ble_eq_true rfl) (by decide +kernel)) ?_
        refine jS.adv O [(.iload_n 3, 0, 0, 0, 0, 0, 0)] (pc' := 24) (ls' := [(0, .inr (.inr x0)), (1, .inl x1), (2, .inl x2), (3, .inl x3), (4, .inl x4), (5, .inl x5)]) (st' := [.inl x3, .inl t8]) (m2 := m) (by decide +kernel) rfl trivial ?_
        obtain ⟨t10, w9, H⟩ := jb_ok H
        refine jS.step (c' := (27, [(0, .inr (.inr x0)), (1, .inl x1), (2, .inl x2), (3, .inl x3), (4, .inl x4), (5, .inl x5)], [.inl t10], m)) (jSt.callS (As := [.inl t8, .inl x3]) (rest := []) O (ec_X9_isIn (d := 2) O (Nat.le_refl _) w9) (by omega) jmw_X9_isIn jmv_X9_isIn jmn_X9_isIn (idx := 140) (jW_of 744 (by decide +kernel) rfl) (Nat.le_of_ble_eq_true rfl) (by decide +kernel)) ?_
        refine jS.br (i := .ifCond .ne 7) (P := ¬ t10 = 0) (rest := []) rfl (by decide +kernel) (tgt := 34) (by decide) (fun c11 => ?_) (fun c11 => ?_)
        · replace H := jif_f c11 H
          refine jS.adv O [(.aload_n 0, 0, 0, 0, 0, 0, 0)] (pc' := 35) (ls' := [(0, .inr (.inr x0)), (1, .inl x1), (2, .inl x2), (3, .inl x3), (4, .inl x4), (5, .inl x5)]) (st' := [.inr (.inr x0)]) (m2 := m) (by decide +kernel) rfl trivial ?_
          obtain ⟨t13, w12, H⟩ := jb_ok H
          refine jS.step (c' := (38, [(0, .inr (.inr x0)), (1, .inl x1), (2, .inl x2), (3, .inl x3), (4, .inl x4), (5, .inl x5)], [.inr (.inr t13.1)], t13.2)) (jSt.callV (c := 9) (As := []) (rest := []) O (ec_X9_current (d := 7) O (Nat.le_refl _) w12) w6 (by decide) rfl (by omega) jmw_X9_current jmv_X9_current jmn_X9_current (idx := 165) (jW_of 762 (by decide +kernel) rfl) (Nat.le_of_ble_eq_true rfl) (by decide +kernel)) ?_
          obtain ⟨w14, H⟩ := jgd_ok H
          obtain ⟨t16, w15, H⟩ := jb_ok H
          refine jS.step (c' := (41, [(0, .inr (.inr x0)), (1, .inl x1), (2, .inl x2), (3, .inl x3), (4, .inl x4), (5, .inl x5)], [.inl t16], t13.2)) (jSt.callV (c := 2) (As := []) (rest := []) O (ec_X2_isTold (d := 2) O (Nat.le_refl _) w15) w14 (by decide) rfl (by omega) jmw_X2_isTold jmv_X2_isTold jmn_X2_isTold (idx := 213) (jW_of 1076 (by decide +kernel) rfl) (Nat.le_of_ble_eq_true rfl) (by decide +kernel)) ?_
          refine jS.br (i := .ifCond .eq 15) (P := t16 = 0) (rest := []) rfl (by decide +kernel) (tgt := 56) (by decide) (fun c17 => ?_) (fun c17 => ?_)
          · replace H := jif_t c17 H
            refine jS.adv O [(.ldc2_w 154, 0, 757, 0, 0, 0, (-4611686018427387904 : Int64))] (pc' := 59) (ls' := [(0, .inr (.inr x0)), (1, .inl x1), (2, .inl x2), (3, .inl x3), (4, .inl x4), (5, .inl x5)]) (st' := [.inr (.inl (-4611686018427387904 : Int64))]) (m2 := t13.2) (by decide +kernel) rfl trivial ?_
            replace H := Option.some.inj H
            subst H
            exact jS.lret rfl (by decide +kernel)
          · replace H := jif_f c17 H
            obtain ⟨w18, H⟩ := jgd_ok H
            refine jS.adv O [(.aload_n 0, 0, 0, 0, 0, 0, 0)] (pc' := 45) (ls' := [(0, .inr (.inr x0)), (1, .inl x1), (2, .inl x2), (3, .inl x3), (4, .inl x4), (5, .inl x5)]) (st' := [.inr (.inr x0)]) (m2 := t13.2) (by decide +kernel) rfl trivial ?_
            obtain ⟨t20, w19, H⟩ := jb_ok H
            refine jS.step (c' := (48, [(0, .inr (.inr x0)), (1, .inl x1), (2, .inl x2), (3, .inl x3), (4, .inl x4), (5, .inl x5)], [.inr (.inr t20.1)], t20.2)) (jSt.callV (c := 9) (As := []) (rest := []) O (ec_X9_current (d := 7) O (Nat.le_refl _) w19) w18 (by decide) rfl (by omega) jmw_X9_current jmv_X9_current jmn_X9_current (idx := 165) (jW_of 762 (by decide +kernel) rfl) (Nat.le_of_ble_eq_true rfl) (by decide +kernel)) ?_
            obtain ⟨w21, H⟩ := jgd_ok H
            refine jS.adv O [(.getfield 223, 0, 2, 6, 436, 0, 0), (.lconst 0, 0, 0, 0, 0, 0, (0 : Int64)), (.lcmp, 0, 0, 0, 0, 0, 0)] (pc' := 53) (ls' := [(0, .inr (.inr x0)), (1, .inl x1), (2, .inl x2), (3, .inl x3), (4, .inl x4), (5, .inl x5)]) (st' := [.inl (lg_cmp (jL t20.2 t20.1 6) (0 : Int64))]) (m2 := t20.2) (by decide +kernel) rfl ⟨w21, trivial⟩ ?_
            refine jS.br (i := .ifCond .ne 7) (P := ¬ (lg_cmp (jL t20.2 t20.1 6) (0 : Int64)) = 0) (rest := []) rfl (by decide +kernel) (tgt := 60) (by decide) (fun c22 => ?_) (fun c22 => ?_)
            · replace H := jif_f c22 H
              obtain ⟨w23, H⟩ := jgd_ok H
              refine jS.adv O [(.aload_n 0, 0, 0, 0, 0, 0, 0)] (pc' := 61) (ls' := [(0, .inr (.inr x0)), (1, .inl x1), (2, .inl x2), (3, .inl x3), (4, .inl x4), (5, .inl x5)]) (st' := [.inr (.inr x0)]) (m2 := t20.2) (by decide +kernel) rfl trivial ?_
              obtain ⟨t25, w24, H⟩ := jb_ok H
              refine jS.step (c' := (64, [(0, .inr (.inr x0)), (1, .inl x1), (2, .inl x2), (3, .inl x3), (4, .inl x4), (5, .inl x5)], [.inr (.inr t25.1)], t25.2)) (jSt.callV (c := 9) (As := []) (rest := []) O (ec_X9_current (d := 7) O (Nat.le_refl _) w24) w23 (by decide) rfl (by omega) jmw_X9_current jmv_X9_current jmn_X9_current (idx := 165) (jW_of 762 (by decide +kernel) rfl) (Nat.le_of_ble_eq_true rfl) (by decide +kernel)) ?_
              refine jS.adv O [(.astore 6, 0, 0, 0, 0, 0, 0), (.iconst 0, 0, 0, 0, 0, (0 : Int32), 0), (.istore 7, 0, 0, 0, 0, 0, 0), (.iconst 0, 0, 0, 0, 0, (0 : Int32), 0), (.istore 8, 0, 0, 0, 0, 0, 0)] (pc' := 72) (ls' := [(8, .inl (0 : Int32)), (7, .inl (0 : Int32)), (6, .inr (.inr t25.1)), (0, .inr (.inr x0)), (1, .inl x1), (2, .inl x2), (3, .inl x3), (4, .inl x4), (5, .inl x5)]) (st' := []) (m2 := t25.2) (by decide +kernel) rfl trivial ?_
              refine jS.loc' [4, 5, 6, 7, 8, 2, 1, 0] (ls' := [(1, .inl x1), (2, .inl x2), (3, .inl x3), (4, .inl x4), (5, .inl x5), (6, .inr (.inr t25.1)), (7, .inl (0 : Int32)), (8, .inl (0 : Int32))]) rfl ?_
              obtain ⟨e36, w37, H⟩ := jb_ok H
              refine ec_X9_lot_l72 O hd F w37 ?_
              refine jS.adv O [(.iload 7, 0, 0, 0, 0, 0, 0), (.i2l, 0, 0, 0, 0, 0, 0), (.iload_n 2, 0, 0, 0, 0, 0, 0), (.i2l, 0, 0, 0, 0, 0, 0), (.iload 5, 0, 0, 0, 0, 0, 0)] (pc' := 118) (ls' := [(2, .inl e36.2.1), (5, .inl e36.2.2.1), (7, .inl e36.2.2.2)]) (st' := [.inl e36.2.2.1, .inr (.inl (Int32.toInt64 e36.2.1)), .inr (.inl (Int32.toInt64 e36.2.2.2))]) (m2 := e36.1) (by decide +kernel) rfl trivial ?_
              obtain ⟨t39, w38, H⟩ := jb_ok H
              refine jS.step (c' := (121, [(2, .inl e36.2.1), (5, .inl e36.2.2.1), (7, .inl e36.2.2.2)], [.inr (.inl t39)], e36.1)) (jSt.callS (As := [.inr (.inl (Int32.toInt64 e36.2.2.2)), .inr (.inl (Int32.toInt64 e36.2.1)), .inl e36.2.2.1]) (rest := []) O (ec_X9_partOf (d := 3) O (Nat.le_refl _) w38) (by omega) jmw_X9_partOf jmv_X9_partOf jmn_X9_partOf (idx := 263) (jW_of 1202 (by decide +kernel) rfl) (Nat.le_of_ble_eq_true rfl) (by decide +kernel)) ?_
              replace H := Option.some.inj H
              subst H
              exact jS.lret rfl (by decide +kernel)
            · replace H := jif_t (Classical.not_not.mp c22) H
              refine jS.adv O [(.ldc2_w 154, 0, 757, 0, 0, 0, (-4611686018427387904 : Int64))] (pc' := 59) (ls' := [(0, .inr (.inr x0)), (1, .inl x1), (2, .inl x2), (3, .inl x3), (4, .inl x4), (5, .inl x5)]) (st' := [.inr (.inl (-4611686018427387904 : Int64))]) (m2 := t20.2) (by decide +kernel) rfl trivial ?_
              replace H := Option.some.inj H
              subst H
              exact jS.lret rfl (by decide +kernel)
        · replace H := jif_t (Classical.not_not.mp c11) H
          refine jS.adv O [(.ldc2_w 154, 0, 757, 0, 0, 0, (-4611686018427387904 : Int64))] (pc' := 33) (ls' := [(0, .inr (.inr x0)), (1, .inl x1), (2, .inl x2), (3, .inl x3), (4, .inl x4), (5, .inl x5)]) (st' := [.inr (.inl (-4611686018427387904 : Int64))]) (m2 := m) (by decide +kernel) rfl trivial ?_
          replace H := Option.some.inj H
          subst H
          exact jS.lret rfl (by decide +kernel)
def c_X9_otherwise_l2_b (F : Nat) (B : jMe → Nat → Nat → Int32 → Option ((Int32 × jMe) ⊕ jMe)) (m : jMe) (y0 : Nat) (y1 : Nat) (y2 : Int32) : Option ((Int32 × jMe) ⊕ jMe) :=
  jgd (jK m y1 = 37) <| (if (jI m y1 2) ≤ y2 then some (.inr (m)) else jgd (jK m y0 = 34) <| jb (c_X2_drawn F m y0 y2) fun t5 => jgd (jK t5.2 y1 = 37) <| jgd (jK t5.2 (jP t5.2 y1 0) = 2) <| jgd (jin y2 (jZ t5.2 (jP t5.2 y1 0)) = true) <| (if (lg_cmp (Int32.toInt64 t5.1) (jL t5.2 (jP t5.2 y1 0) y2.toNatClampNeg)) = 0 then B t5.2 y0 y1 (y2 + (1 : Int32)) else some (.inl (y2, t5.2))))
theorem ec_X9_otherwise_l2_b {X : jX} {l : Launch} {d : Nat} (O : jOk X) (hd : 6 ≤ d) {F : Nat} {m0 m' : jMe} {v : Option jAV} {B : jMe → Nat → Nat → Int32 → Option ((Int32 × jMe) ⊕ jMe)} (hB : ∀ (m : jMe) (y0 : Nat) (y1 : Nat) (y2 : Int32) (r : (Int32 × jMe) ⊕ jMe), B m y0 y1 y2 = some r → (∀ q, r = .inl q → v = (some (.inl q.1)) ∧ m' = q.2) → (∀ e, r = .inr e → jS X l d jm_X9_otherwise m0 v m' (34, [], [], e)) → jS X l d jm_X9_otherwise m0 v m' (2, [(0, .inr (.inr y0)), (1, .inr (.inr y1)), (2, .inl y2)], [], m)) {m : jMe} {y0 : Nat} {y1 : Nat} {y2 : Int32} {r : (Int32 × jMe) ⊕ jMe} (H : c_X9_otherwise_l2_b F B m y0 y1 y2 = some r) (h1 : ∀ q, r = .inl q → v = (some (.inl q.1)) ∧ m' = q.2) (h2 : ∀ e, r = .inr e → jS X l d jm_X9_otherwise m0 v m' (34, [], [], e)) : jS X l d jm_X9_otherwise m0 v m' (2, [(0, .inr (.inr y0)), (1, .inr (.inr y1)), (2, .inl y2)], [], m) := by
  unfold c_X9_otherwise_l2_b at H
  obtain ⟨w1, H⟩ := jgd_ok H
  refine jS.adv O [(.iload_n 2, 0, 0, 0, 0, 0, 0), (.aload_n 1, 0, 0, 0, 0, 0, 0), (.getfield 284, 0, 5, 2, 539, 0, 0)] (pc' := 7) (ls' := [(0, .inr (.inr y0)), (1, .inr (.inr y1)), (2, .inl y2)]) (st' := [.inl (jI m y1 2), .inl y2]) (m2 := m) (by decide +kernel) rfl ⟨w1, trivial⟩ ?_
  refine jS.br (i := .if_icmp .ge 27) (P := (jI m y1 2) ≤ y2) (rest := []) rfl (by decide +kernel) (tgt := 34) (by decide) (fun c2 => ?_) (fun c2 => ?_)
  · replace H := jif_t c2 H
    replace H := Option.some.inj H
    subst H
    refine jS.loc' [] (ls' := []) rfl ?_
    exact h2 _ rfl
  · replace H := jif_f c2 H
    obtain ⟨w3, H⟩ := jgd_ok H
    refine jS.adv O [(.aload_n 0, 0, 0, 0, 0, 0, 0), (.iload_n 2, 0, 0, 0, 0, 0, 0)] (pc' := 12) (ls' := [(0, .inr (.inr y0)), (1, .inr (.inr y1)), (2, .inl y2)]) (st' := [.inl y2, .inr (.inr y0)]) (m2 := m) (by decide +kernel) rfl trivial ?_
    obtain ⟨t5, w4, H⟩ := jb_ok H
    refine jS.step (c' := (15, [(0, .inr (.inr y0)), (1, .inr (.inr y1)), (2, .inl y2)], [.inl t5.1], t5.2)) (jSt.callV (c := 2) (As := [.inl y2]) (rest := []) O (ec_X2_drawn (d := 5) O (Nat.le_refl _) w4) w3 (by decide) rfl (by omega) jmw_X2_drawn jmv_X2_drawn jmn_X2_drawn (idx := 244) (jW_of 1161 (by decide +kernel) rfl) (Nat.le_of_ble_eq_true rfl) (by decide +kernel)) ?_
    obtain ⟨w6, H⟩ := jgd_ok H
    obtain ⟨w7, H⟩ := jgd_ok H
    obtain ⟨w8, H⟩ := jgd_ok H
    refine jS.adv O [(.i2l, 0, 0, 0, 0, 0, 0), (.aload_n 1, 0, 0, 0, 0, 0, 0), (.getfield 285, 0, 5, 0, 535, 0, 0), (.iload_n 2, 0, 0, 0, 0, 0, 0), (.laload, 0, 0, 0, 0, 0, 0), (.lcmp, 0, 0, 0, 0, 0, 0)] (pc' := 23) (ls' := [(0, .inr (.inr y0)), (1, .inr (.inr y1)), (2, .inl y2)]) (st' := [.inl (lg_cmp (Int32.toInt64 t5.1) (jL t5.2 (jP t5.2 y1 0) y2.toNatClampNeg))]) (m2 := t5.2) (by decide +kernel) rfl ⟨w6, ⟨w7, jib_ok w8⟩, trivial⟩ ?_
    refine jS.br (i := .ifCond .eq 5) (P := (lg_cmp (Int32.toInt64 t5.1) (jL t5.2 (jP t5.2 y1 0) y2.toNatClampNeg)) = 0) (rest := []) rfl (by decide +kernel) (tgt := 28) (by decide) (fun c9 => ?_) (fun c9 => ?_)
    · replace H := jif_t c9 H
      refine jS.adv O [(.iinc 2 1, 0, 0, 0, 0, (1 : Int32), 0), (.goto (-29), 0, 2, 0, 0, 0, 0)] (pc' := 2) (ls' := [(2, .inl (y2 + (1 : Int32))), (0, .inr (.inr y0)), (1, .inr (.inr y1))]) (st' := []) (m2 := t5.2) (by decide +kernel) rfl trivial ?_
      refine jS.loc' [1, 2, 0] (ls' := [(0, .inr (.inr y0)), (1, .inr (.inr y1)), (2, .inl (y2 + (1 : Int32)))]) rfl ?_
      exact hB _ _ _ _ _ H h1 h2
    · replace H := jif_f c9 H
      refine jS.adv O [(.iload_n 2, 0, 0, 0, 0, 0, 0)] (pc' := 27) (ls' := [(0, .inr (.inr y0)), (1, .inr (.inr y1)), (2, .inl y2)]) (st' := [.inl y2]) (m2 := t5.2) (by decide +kernel) rfl trivial ?_
      replace H := Option.some.inj H
      subst H
      obtain ⟨q1, q2⟩ := h1 _ rfl
      subst q1; subst q2
      exact jS.iret rfl (by decide +kernel)
def c_X9_otherwise_l2 (F : Nat) : Nat → jMe → Nat → Nat → Int32 → Option ((Int32 × jMe) ⊕ jMe)
  | 0, _, _, _, _ => none
  | n + 1, m, y0, y1, y2 => c_X9_otherwise_l2_b F (fun m y0 y1 y2 => c_X9_otherwise_l2 F n m y0 y1 y2) m y0 y1 y2
theorem ec_X9_otherwise_l2 {X : jX} {l : Launch} {d : Nat} (O : jOk X) (hd : 6 ≤ d) {F : Nat} {m0 m' : jMe} {v : Option jAV} : ∀ (n : Nat) {m : jMe} {y0 : Nat} {y1 : Nat} {y2 : Int32} {r : (Int32 × jMe) ⊕ jMe} (H : c_X9_otherwise_l2 F n m y0 y1 y2 = some r) (h1 : ∀ q, r = .inl q → v = (some (.inl q.1)) ∧ m' = q.2) (h2 : ∀ e, r = .inr e → jS X l d jm_X9_otherwise m0 v m' (34, [], [], e)), jS X l d jm_X9_otherwise m0 v m' (2, [(0, .inr (.inr y0)), (1, .inr (.inr y1)), (2, .inl y2)], [], m) := by
  intro n
  induction n with
  | zero =>
    intro m y0 y1 y2 r H h1 h2
    cases (show none = some r from H)
  | succ n ih =>
    intro m y0 y1 y2 r H h1 h2
    exact ec_X9_otherwise_l2_b O hd (B := (fun m y0 y1 y2 => c_X9_otherwise_l2 F n m y0 y1 y2)) (fun m y0 y1 y2 r H h1 h2 => ih H h1 h2) H h1 h2
def c_X9_otherwise (F : Nat) (m : jMe) (x0 : Nat) (x1 : Nat) : Option (Int32 × jMe) :=
  jb2 (c_X9_otherwise_l2 F F m x0 x1 (0 : Int32)) (fun q => some q) fun e11 => some ((-1 : Int32), e11)
theorem ec_X9_otherwise {X : jX} {l : Launch} {d : Nat} (O : jOk X) (hd : 6 ≤ d) {F : Nat} {m : jMe} {x0 : Nat} {x1 : Nat} {r : Int32 × jMe} (H : c_X9_otherwise F m x0 x1 = some r) : jH X l d jm_X9_otherwise [.inr (.inr x0), .inr (.inr x1)] m (some (.inl r.1)) r.2 := by
  refine jH.of jpl_RX9 rfl (Nat.le_of_ble_eq_true rfl) ?_
  show jS X l d jm_X9_otherwise m _ _ (0, [(0, .inr (.inr x0)), (1, .inr (.inr x1))], [], m)
  unfold c_X9_otherwise at H
  refine jS.adv O [(.iconst 0, 0, 0, 0, 0, (0 : Int32), 0), (.istore_n 2, 0, 0, 0, 0, 0, 0)] (pc' := 2) (ls' := [(2, .inl (0 : Int32)), (0, .inr (.inr x0)), (1, .inr (.inr x1))]) (st' := []) (m2 := m) (by decide +kernel) rfl trivial ?_
  refine jS.loc' [1, 2, 0] (ls' := [(0, .inr (.inr x0)), (1, .inr (.inr x1)), (2, .inl (0 : Int32))]) rfl ?_
  rcases jb2_ok H with ⟨q10, w12, H⟩ | ⟨e11, w12, H⟩
  · refine ec_X9_otherwise_l2 O hd F w12 (fun q2 hq2 => ?_) (fun e2 he2 => by cases he2)
    cases hq2
    cases H
    exact ⟨rfl, rfl⟩
  · refine ec_X9_otherwise_l2 O hd F w12 (fun q2 hq2 => by cases hq2) (fun e2 he2 => ?_)
    cases he2
    refine jS.adv O [(.iconst (-1), 0, 0, 0, 0, (-1 : Int32), 0)] (pc' := 35) (ls' := []) (st' := [.inl (-1 : Int32)]) (m2 := e11) (by decide +kernel) rfl trivial ?_
    replace H := Option.some.inj H
    subst H
    exact jS.iret rfl (by decide +kernel)
def c_X9_tellers_j77_l32 (F : Nat) (B : jMe → Nat → Nat → Int32 → Int32 → Int32 → Int32 → Option (jMe × Int32)) (m : jMe) (y0 : Nat) (y1 : Nat) (y2 : Int32) (y3 : Int32) (y4 : Int32) (y5 : Int32) (s0 : Int32) (s1 : Nat) (s2 : Nat) (s3 : Nat) : Option (jMe × Int32) :=
  jgd (jK m s3 = 34) <| jb (c_X2_tell F m s3 s2 s1 s0) fun t12 => jgd (jK t12 y0 = 41) <| jgd (jK t12 (jP t12 y0 9) = 34) <| (if (jI t12 (jP t12 y0 9) 5) = 0 then jb (c_X9_otherwise F t12 (jP t12 y0 9) y1) fun t17 => (if t17.1 = (-1 : Int32) then B t17.2 y0 y1 y2 y3 (y4 ||| (jshl (1 : Int32) y5)) (y5 + (1 : Int32)) else B t17.2 y0 y1 y2 y3 y4 (y5 + (1 : Int32))) else B t12 y0 y1 y2 y3 y4 (y5 + (1 : Int32)))
theorem ec_X9_tellers_j77_l32 {X : jX} {l : Launch} {d : Nat} (O : jOk X) (hd : 7 ≤ d) {F : Nat} {m0 m' : jMe} {v : Option jAV} {B : jMe → Nat → Nat → Int32 → Int32 → Int32 → Int32 → Option (jMe × Int32)} (hB : ∀ (m : jMe) (y0 : Nat) (y1 : Nat) (y2 : Int32) (y3 : Int32) (y4 : Int32) (y5 : Int32) (r : jMe × Int32), B m y0 y1 y2 y3 y4 y5 = some r → (jS X l d jm_X9_tellers m0 v m' (117, [(4, .inl r.2)], [], r.1)) → jS X l d jm_X9_tellers m0 v m' (32, [(0, .inr (.inr y0)), (1, .inr (.inr y1)), (2, .inl y2), (3, .inl y3), (4, .inl y4), (5, .inl y5)], [], m)) {m : jMe} {y0 : Nat} {y1 : Nat} {y2 : Int32} {y3 : Int32} {y4 : Int32} {y5 : Int32} {s0 : Int32} {s1 : Nat} {s2 : Nat} {s3 : Nat} {r : jMe × Int32} (H : c_X9_tellers_j77_l32 F B m y0 y1 y2 y3 y4 y5 s0 s1 s2 s3 = some r) (h2 : jS X l d jm_X9_tellers m0 v m' (117, [(4, .inl r.2)], [], r.1)) : jS X l d jm_X9_tellers m0 v m' (77, [(0, .inr (.inr y0)), (1, .inr (.inr y1)), (2, .inl y2), (3, .inl y3), (4, .inl y4), (5, .inl y5)], [.inl s0, .inr (.inr s1), .inr (.inr s2), .inr (.inr s3)], m) := by
  unfold c_X9_tellers_j77_l32 at H
  obtain ⟨w10, H⟩ := jgd_ok H
  obtain ⟨t12, w11, H⟩ := jb_ok H
  refine jS.step (c' := (80, [(0, .inr (.inr y0)), (1, .inr (.inr y1)), (2, .inl y2), (3, .inl y3), (4, .inl y4), (5, .inl y5)], [], t12)) (jSt.callV (c := 2) (As := [.inr (.inr s2), .inr (.inr s1), .inl s0]) (rest := []) O (ec_X2_tell (d := 6) O (Nat.le_refl _) w11) w10 (by decide) rfl (by omega) jmw_X2_tell jmv_X2_tell jmn_X2_tell (idx := 274) (jW_of 766 (by decide +kernel) rfl) (Nat.le_of_ble_eq_true rfl) (by decide +kernel)) ?_
  obtain ⟨w13, H⟩ := jgd_ok H
  obtain ⟨w14, H⟩ := jgd_ok H
  refine jS.adv O [(.aload_n 0, 0, 0, 0, 0, 0, 0), (.getfield 62, 0, 9, 9, 587, 0, 0), (.getfield 193, 0, 2, 5, 434, 0, 0)] (pc' := 87) (ls' := [(0, .inr (.inr y0)), (1, .inr (.inr y1)), (2, .inl y2), (3, .inl y3), (4, .inl y4), (5, .inl y5)]) (st' := [.inl (jI t12 (jP t12 y0 9) 5)]) (m2 := t12) (by decide +kernel) rfl ⟨w13, w14, trivial⟩ ?_
  refine jS.br (i := .ifCond .ne 24) (P := ¬ (jI t12 (jP t12 y0 9) 5) = 0) (rest := []) rfl (by decide +kernel) (tgt := 111) (by decide) (fun c15 => ?_) (fun c15 => ?_)
  · replace H := jif_f c15 H
    refine jS.adv O [(.iinc 5 1, 0, 0, 0, 0, (1 : Int32), 0), (.goto (-82), 0, 32, 0, 0, 0, 0)] (pc' := 32) (ls' := [(5, .inl (y5 + (1 : Int32))), (0, .inr (.inr y0)), (1, .inr (.inr y1)), (2, .inl y2), (3, .inl y3), (4, .inl y4)]) (st' := []) (m2 := t12) (by decide +kernel) rfl trivial ?_
    refine jS.loc' [1, 2, 3, 4, 5, 0] (ls' := [(0, .inr (.inr y0)), (1, .inr (.inr y1)), (2, .inl y2), (3, .inl y3), (4, .inl y4), (5, .inl (y5 + (1 : Int32)))]) rfl ?_
    exact hB _ _ _ _ _ _ _ _ H h2
  · replace H := jif_t (Classical.not_not.mp c15) H
    refine jS.adv O [(.aload_n 0, 0, 0, 0, 0, 0, 0), (.getfield 62, 0, 9, 9, 587, 0, 0), (.aload_n 1, 0, 0, 0, 0, 0, 0)] (pc' := 95) (ls' := [(0, .inr (.inr y0)), (1, .inr (.inr y1)), (2, .inl y2), (3, .inl y3), (4, .inl y4), (5, .inl y5)]) (st' := [.inr (.inr y1), .inr (.inr (jP t12 y0 9))]) (m2 := t12) (by decide +kernel) rfl ⟨w13, trivial⟩ ?_
    obtain ⟨t17, w16, H⟩ := jb_ok H
    refine jS.step (c' := (98, [(0, .inr (.inr y0)), (1, .inr (.inr y1)), (2, .inl y2), (3, .inl y3), (4, .inl y4), (5, .inl y5)], [.inl t17.1], t17.2)) (jSt.callS (As := [.inr (.inr (jP t12 y0 9)), .inr (.inr y1)]) (rest := []) O (ec_X9_otherwise (d := 6) O (Nat.le_refl _) w16) (by omega) jmw_X9_otherwise jmv_X9_otherwise jmn_X9_otherwise (idx := 301) (jW_of 1274 (by decide +kernel) rfl) (Nat.le_of_ble_eq_true rfl) (by decide +kernel)) ?_
    refine jS.adv O [(.iconst (-1), 0, 0, 0, 0, (-1 : Int32), 0)] (pc' := 99) (ls' := [(0, .inr (.inr y0)), (1, .inr (.inr y1)), (2, .inl y2), (3, .inl y3), (4, .inl y4), (5, .inl y5)]) (st' := [.inl (-1 : Int32), .inl t17.1]) (m2 := t17.2) (by decide +kernel) rfl trivial ?_
    refine jS.br (i := .if_icmp .ne 12) (P := ¬ t17.1 = (-1 : Int32)) (rest := []) rfl (by decide +kernel) (tgt := 111) (by decide) (fun c18 => ?_) (fun c18 => ?_)
    · replace H := jif_f c18 H
      refine jS.adv O [(.iinc 5 1, 0, 0, 0, 0, (1 : Int32), 0), (.goto (-82), 0, 32, 0, 0, 0, 0)] (pc' := 32) (ls' := [(5, .inl (y5 + (1 : Int32))), (0, .inr (.inr y0)), (1, .inr (.inr y1)), (2, .inl y2), (3, .inl y3), (4, .inl y4)]) (st' := []) (m2 := t17.2) (by decide +kernel) rfl trivial ?_
      refine jS.loc' [1, 2, 3, 4, 5, 0] (ls' := [(0, .inr (.inr y0)), (1, .inr (.inr y1)), (2, .inl y2), (3, .inl y3), (4, .inl y4), (5, .inl (y5 + (1 : Int32)))]) rfl ?_
      exact hB _ _ _ _ _ _ _ _ H h2
    · replace H := jif_t (Classical.not_not.mp c18) H
      refine jS.adv O [(.iload 4, 0, 0, 0, 0, 0, 0), (.iconst 1, 0, 0, 0, 0, (1 : Int32), 0), (.iload 5, 0, 0, 0, 0, 0, 0), (.ishl, 0, 0, 0, 0, 0, 0), (.ior, 0, 0, 0, 0, 0, 0), (.istore 4, 0, 0, 0, 0, 0, 0), (.iinc 5 1, 0, 0, 0, 0, (1 : Int32), 0), (.goto (-82), 0, 32, 0, 0, 0, 0)] (pc' := 32) (ls' := [(5, .inl (y5 + (1 : Int32))), (4, .inl (y4 ||| (jshl (1 : Int32) y5))), (0, .inr (.inr y0)), (1, .inr (.inr y1)), (2, .inl y2), (3, .inl y3)]) (st' := []) (m2 := t17.2) (by decide +kernel) rfl trivial ?_
      refine jS.loc' [2, 3, 4, 5, 1, 0] (ls' := [(0, .inr (.inr y0)), (1, .inr (.inr y1)), (2, .inl y2), (3, .inl y3), (4, .inl (y4 ||| (jshl (1 : Int32) y5))), (5, .inl (y5 + (1 : Int32)))]) rfl ?_
      exact hB _ _ _ _ _ _ _ _ H h2
def c_X9_tellers_j63_l32 (F : Nat) (B : jMe → Nat → Nat → Int32 → Int32 → Int32 → Int32 → Option (jMe × Int32)) (m : jMe) (y0 : Nat) (y1 : Nat) (y2 : Int32) (y3 : Int32) (y4 : Int32) (y5 : Int32) (s0 : Int32) (s1 : Nat) (s2 : Nat) (s3 : Nat) : Option (jMe × Int32) :=
  jgd (jK m s1 = 6) <| jgd (jin s0 (jZ m s1) = true) <| (if y2 = 0 then c_X9_tellers_j77_l32 F B m y0 y1 y2 y3 y4 y5 y5 (jP m s1 s0.toNatClampNeg) s2 s3 else jgd (jK m y0 = 41) <| c_X9_tellers_j77_l32 F B m y0 y1 y2 y3 y4 y5 (jI m y0 15) (jP m s1 s0.toNatClampNeg) s2 s3)
theorem ec_X9_tellers_j63_l32 {X : jX} {l : Launch} {d : Nat} (O : jOk X) (hd : 7 ≤ d) {F : Nat} {m0 m' : jMe} {v : Option jAV} {B : jMe → Nat → Nat → Int32 → Int32 → Int32 → Int32 → Option (jMe × Int32)} (hB : ∀ (m : jMe) (y0 : Nat) (y1 : Nat) (y2 : Int32) (y3 : Int32) (y4 : Int32) (y5 : Int32) (r : jMe × Int32), B m y0 y1 y2 y3 y4 y5 = some r → (jS X l d jm_X9_tellers m0 v m' (117, [(4, .inl r.2)], [], r.1)) → jS X l d jm_X9_tellers m0 v m' (32, [(0, .inr (.inr y0)), (1, .inr (.inr y1)), (2, .inl y2), (3, .inl y3), (4, .inl y4), (5, .inl y5)], [], m)) {m : jMe} {y0 : Nat} {y1 : Nat} {y2 : Int32} {y3 : Int32} {y4 : Int32} {y5 : Int32} {s0 : Int32} {s1 : Nat} {s2 : Nat} {s3 : Nat} {r : jMe × Int32} (H : c_X9_tellers_j63_l32 F B m y0 y1 y2 y3 y4 y5 s0 s1 s2 s3 = some r) (h2 : jS X l d jm_X9_tellers m0 v m' (117, [(4, .inl r.2)], [], r.1)) : jS X l d jm_X9_tellers m0 v m' (63, [(0, .inr (.inr y0)), (1, .inr (.inr y1)), (2, .inl y2), (3, .inl y3), (4, .inl y4), (5, .inl y5)], [.inl s0, .inr (.inr s1), .inr (.inr s2), .inr (.inr s3)], m) := by
  unfold c_X9_tellers_j63_l32 at H
  obtain ⟨w7, H⟩ := jgd_ok H
  obtain ⟨w8, H⟩ := jgd_ok H
  refine jS.adv O [(.aaload, 0, 6, 0, 0, 0, 0), (.iload_n 2, 0, 0, 0, 0, 0, 0)] (pc' := 65) (ls' := [(0, .inr (.inr y0)), (1, .inr (.inr y1)), (2, .inl y2), (3, .inl y3), (4, .inl y4), (5, .inl y5)]) (st' := [.inl y2, .inr (.inr (jP m s1 s0.toNatClampNeg)), .inr (.inr s2), .inr (.inr s3)]) (m2 := m) (by decide +kernel) rfl ⟨⟨w7, jib_ok w8⟩, trivial⟩ ?_
  refine jS.br (i := .ifCond .eq 10) (P := y2 = 0) (rest := [.inr (.inr (jP m s1 s0.toNatClampNeg)), .inr (.inr s2), .inr (.inr s3)]) rfl (by decide +kernel) (tgt := 75) (by decide) (fun c9 => ?_) (fun c9 => ?_)
  · replace H := jif_t c9 H
    refine jS.adv O [(.iload 5, 0, 0, 0, 0, 0, 0)] (pc' := 77) (ls' := [(0, .inr (.inr y0)), (1, .inr (.inr y1)), (2, .inl y2), (3, .inl y3), (4, .inl y4), (5, .inl y5)]) (st' := [.inl y5, .inr (.inr (jP m s1 s0.toNatClampNeg)), .inr (.inr s2), .inr (.inr s3)]) (m2 := m) (by decide +kernel) rfl trivial ?_
    refine jS.loc' [0, 1, 2, 3, 4, 5] (ls' := [(0, .inr (.inr y0)), (1, .inr (.inr y1)), (2, .inl y2), (3, .inl y3), (4, .inl y4), (5, .inl y5)]) rfl ?_
    exact ec_X9_tellers_j77_l32 O hd hB H h2
  · replace H := jif_f c9 H
    obtain ⟨w19, H⟩ := jgd_ok H
    refine jS.adv O [(.aload_n 0, 0, 0, 0, 0, 0, 0), (.getfield 82, 0, 9, 15, 593, 0, 0), (.goto 5, 0, 77, 0, 0, 0, 0)] (pc' := 77) (ls' := [(0, .inr (.inr y0)), (1, .inr (.inr y1)), (2, .inl y2), (3, .inl y3), (4, .inl y4), (5, .inl y5)]) (st' := [.inl (jI m y0 15), .inr (.inr (jP m s1 s0.toNatClampNeg)), .inr (.inr s2), .inr (.inr s3)]) (m2 := m) (by decide +kernel) rfl ⟨w19, trivial⟩ ?_
    refine jS.loc' [0, 1, 2, 3, 4, 5] (ls' := [(0, .inr (.inr y0)), (1, .inr (.inr y1)), (2, .inl y2), (3, .inl y3), (4, .inl y4), (5, .inl y5)]) rfl ?_
    exact ec_X9_tellers_j77_l32 O hd hB H h2
def c_X9_tellers_l32_b (F : Nat) (B : jMe → Nat → Nat → Int32 → Int32 → Int32 → Int32 → Option (jMe × Int32)) (m : jMe) (y0 : Nat) (y1 : Nat) (y2 : Int32) (y3 : Int32) (y4 : Int32) (y5 : Int32) : Option (jMe × Int32) :=
  (if y3 ≤ y5 then some (m, y4) else jgd (jK m y0 = 41) <| (if y2 = 0 then c_X9_tellers_j63_l32 F B m y0 y1 y2 y3 y4 y5 (jI m y0 14) (jP m y0 1) (jP m y0 0) (jP m y0 9) else c_X9_tellers_j63_l32 F B m y0 y1 y2 y3 y4 y5 y5 (jP m y0 1) (jP m y0 0) (jP m y0 9)))
theorem ec_X9_tellers_l32_b {X : jX} {l : Launch} {d : Nat} (O : jOk X) (hd : 7 ≤ d) {F : Nat} {m0 m' : jMe} {v : Option jAV} {B : jMe → Nat → Nat → Int32 → Int32 → Int32 → Int32 → Option (jMe × Int32)} (hB : ∀ (m : jMe) (y0 : Nat) (y1 : Nat) (y2 : Int32) (y3 : Int32) (y4 : Int32) (y5 : Int32) (r : jMe × Int32), B m y0 y1 y2 y3 y4 y5 = some r → (jS X l d jm_X9_tellers m0 v m' (117, [(4, .inl r.2)], [], r.1)) → jS X l d jm_X9_tellers m0 v m' (32, [(0, .inr (.inr y0)), (1, .inr (.inr y1)), (2, .inl y2), (3, .inl y3), (4, .inl y4), (5, .inl y5)], [], m)) {m : jMe} {y0 : Nat} {y1 : Nat} {y2 : Int32} {y3 : Int32} {y4 : Int32} {y5 : Int32} {r : jMe × Int32} (H : c_X9_tellers_l32_b F B m y0 y1 y2 y3 y4 y5 = some r) (h2 : jS X l d jm_X9_tellers m0 v m' (117, [(4, .inl r.2)], [], r.1)) : jS X l d jm_X9_tellers m0 v m' (32, [(0, .inr (.inr y0)), (1, .inr (.inr y1)), (2, .inl y2), (3, .inl y3), (4, .inl y4), (5, .inl y5)], [], m) := by
  unfold c_X9_tellers_l32_b at H
  refine jS.adv O [(.iload 5, 0, 0, 0, 0, 0, 0), (.iload_n 3, 0, 0, 0, 0, 0, 0)] (pc' := 35) (ls' := [(0, .inr (.inr y0)), (1, .inr (.inr y1)), (2, .inl y2), (3, .inl y3), (4, .inl y4), (5, .inl y5)]) (st' := [.inl y3, .inl y5]) (m2 := m) (by decide +kernel) rfl trivial ?_
  refine jS.br (i := .if_icmp .ge 82) (P := y3 ≤ y5) (rest := []) rfl (by decide +kernel) (tgt := 117) (by decide) (fun c4 => ?_) (fun c4 => ?_)
  · replace H := jif_t c4 H
    replace H := Option.some.inj H
    subst H
    refine jS.loc' [4] (ls' := [(4, .inl y4)]) rfl ?_
    exact h2
  · replace H := jif_f c4 H
    obtain ⟨w5, H⟩ := jgd_ok H
    refine jS.adv O [(.aload_n 0, 0, 0, 0, 0, 0, 0), (.getfield 62, 0, 9, 9, 587, 0, 0), (.aload_n 0, 0, 0, 0, 0, 0, 0), (.getfield 11, 0, 9, 0, 578, 0, 0), (.aload_n 0, 0, 0, 0, 0, 0, 0), (.getfield 17, 0, 9, 1, 579, 0, 0), (.iload_n 2, 0, 0, 0, 0, 0, 0)] (pc' := 51) (ls' := [(0, .inr (.inr y0)), (1, .inr (.inr y1)), (2, .inl y2), (3, .inl y3), (4, .inl y4), (5, .inl y5)]) (st' := [.inl y2, .inr (.inr (jP m y0 1)), .inr (.inr (jP m y0 0)), .inr (.inr (jP m y0 9))]) (m2 := m) (by decide +kernel) rfl ⟨w5, w5, w5, trivial⟩ ?_
    refine jS.br (i := .ifCond .eq 8) (P := y2 = 0) (rest := [.inr (.inr (jP m y0 1)), .inr (.inr (jP m y0 0)), .inr (.inr (jP m y0 9))]) rfl (by decide +kernel) (tgt := 59) (by decide) (fun c6 => ?_) (fun c6 => ?_)
    · replace H := jif_t c6 H
      refine jS.adv O [(.aload_n 0, 0, 0, 0, 0, 0, 0), (.getfield 79, 0, 9, 14, 592, 0, 0)] (pc' := 63) (ls' := [(0, .inr (.inr y0)), (1, .inr (.inr y1)), (2, .inl y2), (3, .inl y3), (4, .inl y4), (5, .inl y5)]) (st' := [.inl (jI m y0 14), .inr (.inr (jP m y0 1)), .inr (.inr (jP m y0 0)), .inr (.inr (jP m y0 9))]) (m2 := m) (by decide +kernel) rfl ⟨w5, trivial⟩ ?_
      refine jS.loc' [0, 1, 2, 3, 4, 5] (ls' := [(0, .inr (.inr y0)), (1, .inr (.inr y1)), (2, .inl y2), (3, .inl y3), (4, .inl y4), (5, .inl y5)]) rfl ?_
      exact ec_X9_tellers_j63_l32 O hd hB H h2
    · replace H := jif_f c6 H
      refine jS.adv O [(.iload 5, 0, 0, 0, 0, 0, 0), (.goto 7, 0, 63, 0, 0, 0, 0)] (pc' := 63) (ls' := [(0, .inr (.inr y0)), (1, .inr (.inr y1)), (2, .inl y2), (3, .inl y3), (4, .inl y4), (5, .inl y5)]) (st' := [.inl y5, .inr (.inr (jP m y0 1)), .inr (.inr (jP m y0 0)), .inr (.inr (jP m y0 9))]) (m2 := m) (by decide +kernel) rfl trivial ?_
      refine jS.loc' [0, 1, 2, 3, 4, 5] (ls' := [(0, .inr (.inr y0)), (1, .inr (.inr y1)), (2, .inl y2), (3, .inl y3), (4, .inl y4), (5, .inl y5)]) rfl ?_
      exact ec_X9_tellers_j63_l32 O hd hB H h2
def c_X9_tellers_l32 (F : Nat) : Nat → jMe → Nat → Nat → Int32 → Int32 → Int32 → Int32 → Option (jMe × Int32)
  | 0, _, _, _, _, _, _, _ => none
  | n + 1, m, y0, y1, y2, y3, y4, y5 => c_X9_tellers_l32_b F (fun m y0 y1 y2 y3 y4 y5 => c_X9_tellers_l32 F n m y0 y1 y2 y3 y4 y5) m y0 y1 y2 y3 y4 y5
theorem ec_X9_tellers_l32 {X : jX} {l : Launch} {d : Nat} (O : jOk X) (hd : 7 ≤ d) {F : Nat} {m0 m' : jMe} {v : Option jAV} : ∀ (n : Nat) {m : jMe} {y0 : Nat} {y1 : Nat} {y2 : Int32} {y3 : Int32} {y4 : Int32} {y5 : Int32} {r : jMe × Int32} (H : c_X9_tellers_l32 F n m y0 y1 y2 y3 y4 y5 = some r) (h2 : jS X l d jm_X9_tellers m0 v m' (117, [(4, .inl r.2)], [], r.1)), jS X l d jm_X9_tellers m0 v m' (32, [(0, .inr (.inr y0)), (1, .inr (.inr y1)), (2, .inl y2), (3, .inl y3), (4, .inl y4), (5, .inl y5)], [], m) := by
  intro n
  induction n with
  | zero =>
    intro m y0 y1 y2 y3 y4 y5 r H h2
    cases (show none = some r from H)
  | succ n ih =>
    intro m y0 y1 y2 y3 y4 y5 r H h2
    exact ec_X9_tellers_l32_b O hd (B := (fun m y0 y1 y2 y3 y4 y5 => c_X9_tellers_l32 F n m y0 y1 y2 y3 y4 y5)) (fun m y0 y1 y2 y3 y4 y5 r H h2 => ih H h2) H h2
def c_X9_tellers_j17 (F : Nat) (m : jMe) (y0 : Nat) (y1 : Nat) (y2 : Int32) (s0 : Int32) : Option (Int32 × jMe) :=
  (if y2 = 0 then jb (c_X9_tellers_l32 F F m y0 y1 y2 s0 (0 : Int32) (1 : Int32)) fun e21 => some (e21.2, e21.1) else jb (c_X9_tellers_l32 F F m y0 y1 y2 s0 (0 : Int32) (0 : Int32)) fun e24 => some (e24.2, e24.1))
theorem ec_X9_tellers_j17 {X : jX} {l : Launch} {d : Nat} (O : jOk X) (hd : 7 ≤ d) {F : Nat} {m0 m : jMe} {y0 : Nat} {y1 : Nat} {y2 : Int32} {s0 : Int32} {r : Int32 × jMe} (H : c_X9_tellers_j17 F m y0 y1 y2 s0 = some r) : jS X l d jm_X9_tellers m0 (some (.inl r.1)) r.2 (17, [(0, .inr (.inr y0)), (1, .inr (.inr y1)), (2, .inl y2)], [.inl s0], m) := by
  unfold c_X9_tellers_j17 at H
  refine jS.adv O [(.istore_n 3, 0, 0, 0, 0, 0, 0), (.iconst 0, 0, 0, 0, 0, (0 : Int32), 0), (.istore 4, 0, 0, 0, 0, 0, 0), (.iload_n 2, 0, 0, 0, 0, 0, 0)] (pc' := 22) (ls' := [(4, .inl (0 : Int32)), (3, .inl s0), (0, .inr (.inr y0)), (1, .inr (.inr y1)), (2, .inl y2)]) (st' := [.inl y2]) (m2 := m) (by decide +kernel) rfl trivial ?_
  refine jS.br (i := .ifCond .eq 7) (P := y2 = 0) (rest := []) rfl (by decide +kernel) (tgt := 29) (by decide) (fun c3 => ?_) (fun c3 => ?_)
  · replace H := jif_t c3 H
    refine jS.adv O [(.iconst 1, 0, 0, 0, 0, (1 : Int32), 0), (.istore 5, 0, 0, 0, 0, 0, 0)] (pc' := 32) (ls' := [(5, .inl (1 : Int32)), (4, .inl (0 : Int32)), (3, .inl s0), (0, .inr (.inr y0)), (1, .inr (.inr y1)), (2, .inl y2)]) (st' := []) (m2 := m) (by decide +kernel) rfl trivial ?_
    refine jS.loc' [3, 4, 5, 2, 1, 0] (ls' := [(0, .inr (.inr y0)), (1, .inr (.inr y1)), (2, .inl y2), (3, .inl s0), (4, .inl (0 : Int32)), (5, .inl (1 : Int32))]) rfl ?_
    obtain ⟨e21, w22, H⟩ := jb_ok H
    refine ec_X9_tellers_l32 O hd F w22 ?_
    refine jS.adv O [(.iload 4, 0, 0, 0, 0, 0, 0)] (pc' := 119) (ls' := [(4, .inl e21.2)]) (st' := [.inl e21.2]) (m2 := e21.1) (by decide +kernel) rfl trivial ?_
    replace H := Option.some.inj H
    subst H
    exact jS.iret rfl (by decide +kernel)
  · replace H := jif_f c3 H
    refine jS.adv O [(.iconst 0, 0, 0, 0, 0, (0 : Int32), 0), (.goto 4, 0, 30, 0, 0, 0, 0), (.istore 5, 0, 0, 0, 0, 0, 0)] (pc' := 32) (ls' := [(5, .inl (0 : Int32)), (4, .inl (0 : Int32)), (3, .inl s0), (0, .inr (.inr y0)), (1, .inr (.inr y1)), (2, .inl y2)]) (st' := []) (m2 := m) (by decide +kernel) rfl trivial ?_
    refine jS.loc' [3, 4, 5, 2, 1, 0] (ls' := [(0, .inr (.inr y0)), (1, .inr (.inr y1)), (2, .inl y2), (3, .inl s0), (4, .inl (0 : Int32)), (5, .inl (0 : Int32))]) rfl ?_
    obtain ⟨e24, w25, H⟩ := jb_ok H
    refine ec_X9_tellers_l32 O hd F w25 ?_
    refine jS.adv O [(.iload 4, 0, 0, 0, 0, 0, 0)] (pc' := 119) (ls' := [(4, .inl e24.2)]) (st' := [.inl e24.2]) (m2 := e24.1) (by decide +kernel) rfl trivial ?_
    replace H := Option.some.inj H
    subst H
    exact jS.iret rfl (by decide +kernel)
def c_X9_tellers (F : Nat) (m : jMe) (x0 : Nat) (x1 : Nat) (x2 : Int32) : Option (Int32 × jMe) :=
  (if x2 = 0 then jgd (jK m x0 = 41) <| c_X9_tellers_j17 F m x0 x1 x2 (jshl (1 : Int32) (jI m x0 11)) else jgd (jK m x0 = 41) <| c_X9_tellers_j17 F m x0 x1 x2 (jI m x0 12))
theorem ec_X9_tellers {X : jX} {l : Launch} {d : Nat} (O : jOk X) (hd : 7 ≤ d) {F : Nat} {m : jMe} {x0 : Nat} {x1 : Nat} {x2 : Int32} {r : Int32 × jMe} (H : c_X9_tellers F m x0 x1 x2 = some r) : jH X l d jm_X9_tellers [.inr (.inr x0), .inr (.inr x1), .inl x2] m (some (.inl r.1)) r.2 := by
  refine jH.of jpl_RX9 rfl (Nat.le_of_ble_eq_true rfl) ?_
  show jS X l d jm_X9_tellers m _ _ (0, [(0, .inr (.inr x0)), (1, .inr (.inr x1)), (2, .inl x2)], [], m)
  unfold c_X9_tellers at H
  refine jS.adv O [(.iload_n 2, 0, 0, 0, 0, 0, 0)] (pc' := 1) (ls' := [(0, .inr (.inr x0)), (1, .inr (.inr x1)), (2, .inl x2)]) (st' := [.inl x2]) (m2 := m) (by decide +kernel) rfl trivial ?_
  refine jS.br (i := .ifCond .eq 10) (P := x2 = 0) (rest := []) rfl (by decide +kernel) (tgt := 11) (by decide) (fun c1 => ?_) (fun c1 => ?_)
  · replace H := jif_t c1 H
    obtain ⟨w2, H⟩ := jgd_ok H
    refine jS.adv O [(.iconst 1, 0, 0, 0, 0, (1 : Int32), 0), (.aload_n 0, 0, 0, 0, 0, 0, 0), (.getfield 69, 0, 9, 11, 589, 0, 0), (.ishl, 0, 0, 0, 0, 0, 0)] (pc' := 17) (ls' := [(0, .inr (.inr x0)), (1, .inr (.inr x1)), (2, .inl x2)]) (st' := [.inl (jshl (1 : Int32) (jI m x0 11))]) (m2 := m) (by decide +kernel) rfl ⟨w2, trivial⟩ ?_
    refine jS.loc' [0, 1, 2] (ls' := [(0, .inr (.inr x0)), (1, .inr (.inr x1)), (2, .inl x2)]) rfl ?_
    exact ec_X9_tellers_j17 O hd H
  · replace H := jif_f c1 H
    obtain ⟨w26, H⟩ := jgd_ok H
    refine jS.adv O [(.aload_n 0, 0, 0, 0, 0, 0, 0), (.getfield 73, 0, 9, 12, 590, 0, 0), (.goto 9, 0, 17, 0, 0, 0, 0)] (pc' := 17) (ls' := [(0, .inr (.inr x0)), (1, .inr (.inr x1)), (2, .inl x2)]) (st' := [.inl (jI m x0 12)]) (m2 := m) (by decide +kernel) rfl ⟨w26, trivial⟩ ?_
    refine jS.loc' [0, 1, 2] (ls' := [(0, .inr (.inr x0)), (1, .inr (.inr x1)), (2, .inl x2)]) rfl ?_
    exact ec_X9_tellers_j17 O hd H
def c_X9_tells (F : Nat) (m : jMe) (x0 : Nat) (x1 : Int32) (x2 : Int32) : Option (Int32 × jMe) :=
  jb (c_X9_isSheet F m x1) fun t2 => (if t2 = 0 then some ((-2 : Int32), m) else (if x2 < 0 then some ((-2 : Int32), m) else (if x2 ≤ (2 : Int32) then jgd (jK m x0 = 41) <| (if (jI m x0 15) = 0 then some ((-3 : Int32), m) else jb (c_X9_current F m x0) fun t9 => jgd (jK t9.2 t9.1 = 34) <| jb (c_X2_isTold F t9.2 t9.1) fun t12 => (if t12 = 0 then some ((-5 : Int32), t9.2) else jgd (jK t9.2 x0 = 41) <| jgd (jK t9.2 (jP t9.2 x0 2) = 7) <| jgd (jin x1 (jZ t9.2 (jP t9.2 x0 2)) = true) <| jgd (jK t9.2 (jP t9.2 (jP t9.2 x0 2) x1.toNatClampNeg) = 37) <| (if (jI t9.2 (jP t9.2 (jP t9.2 x0 2) x1.toNatClampNeg) 1) = (-1 : Int32) then some ((-11 : Int32), t9.2) else jgd (jin x1 (jZ t9.2 (jP t9.2 x0 2)) = true) <| (if (jI t9.2 (jP t9.2 (jP t9.2 x0 2) x1.toNatClampNeg) 2) ≤ (12 : Int32) then (if x2 = (0 : Int32) then jb (c_X9_current F t9.2 x0) fun t23 => jgd (jK t23.2 x0 = 41) <| jgd (jK t23.2 (jP t23.2 x0 2) = 7) <| jgd (jin x1 (jZ t23.2 (jP t23.2 x0 2)) = true) <| jb (c_X9_otherwise F t23.2 t23.1 (jP t23.2 (jP t23.2 x0 2) x1.toNatClampNeg)) fun t28 => some (t28.1, t28.2) else if x2 = (1 : Int32) then jgd (jin x1 (jZ t9.2 (jP t9.2 x0 2)) = true) <| jb (c_X9_tellers F t9.2 x0 (jP t9.2 (jP t9.2 x0 2) x1.toNatClampNeg) (1 : Int32)) fun t32 => some (t32.1, t32.2) else jgd (jin x1 (jZ t9.2 (jP t9.2 x0 2)) = true) <| jb (c_X9_tellers F t9.2 x0 (jP t9.2 (jP t9.2 x0 2) x1.toNatClampNeg) (0 : Int32)) fun t35 => some (t35.1, t35.2)) else some ((-2 : Int32), t9.2))))) else some ((-2 : Int32), m))))
theorem ec_X9_tells {X : jX} {l : Launch} {d : Nat} (O : jOk X) (hd : 8 ≤ d) {F : Nat} {m : jMe} {x0 : Nat} {x1 : Int32} {x2 : Int32} {r : Int32 × jMe} (H : c_X9_tells F m x0 x1 x2 = some r) : jH X l d jm_X9_tells [.inr (.inr x0), .inl x1, .inl x2] m (some (.inl r.1)) r.2 := by
  refine jH.of jpl_RX9 rfl (Nat.le_of_ble_eq_true rfl) ?_
  show jS X l d jm_X9_tells m _ _ (0, [(0, .inr (.inr x0)), (1, .inl x1), (2, .inl x2)], [], m)
  unfold c_X9_tells at H
  refine jS.adv O [(.iload_n 1, 0, 0, 0, 0, 0, 0)] (pc' := 1) (ls' := [(0, .inr (.inr x0)), (1, .inl x1), (2, .inl x2)]) (st' := [.inl x1]) (m2 := m) (by decide +kernel) rfl trivial ?_
  obtain ⟨t2, w1, H⟩ := jb_ok H
  refine jS.step (c' := (4, [(0, .inr (.inr x0)), (1, .inl x1), (2, .inl x2)], [.inl t2], m)) (jSt.callS (As := [.inl x1]) (rest := []) O (ec_X9_isSheet (d := 2) O (Nat.le_refl _) w1) (by omega) jmw_X9_isSheet jmv_X9_isSheet jmn_X9_isSheet (idx := 278) (jW_of 1242 (by decide +kernel) rfl) (Nat.le_of_ble_eq_true rfl) (by decide +kernel)) ?_
  refine jS.br (i := .ifCond .eq 12) (P := t2 = 0) (rest := []) rfl (by decide +kernel) (tgt := 16) (by decide) (fun c3 => ?_) (fun c3 => ?_)
  · replace H := jif_t c3 H
    refine jS.adv O [(.bipush (-2), 0, 0, 0, 0, (-2 : Int32), 0)] (pc' := 18) (ls' := [(0, .inr (.inr x0)), (1, .inl x1), (2, .inl x2)]) (st' := [.inl (-2 : Int32)]) (m2 := m) (by decide +kernel) rfl trivial ?_
    replace H := Option.some.inj H
    subst H
    exact jS.iret rfl (by decide +kernel)
  · replace H := jif_f c3 H
    refine jS.adv O [(.iload_n 2, 0, 0, 0, 0, 0, 0)] (pc' := 8) (ls' := [(0, .inr (.inr x0)), (1, .inl x1), (2, .inl x2)]) (st' := [.inl x2]) (m2 := m) (by decide +kernel) rfl trivial ?_
    refine jS.br (i := .ifCond .lt 8) (P := x2 < 0) (rest := []) rfl (by decide +kernel) (tgt := 16) (by decide) (fun c4 => ?_) (fun c4 => ?_)
    · replace H := jif_t c4 H
      refine jS.adv O [(.bipush (-2), 0, 0, 0, 0, (-2 : Int32), 0)] (pc' := 18) (ls' := [(0, .inr (.inr x0)), (1, .inl x1), (2, .inl x2)]) (st' := [.inl (-2 : Int32)]) (m2 := m) (by decide +kernel) rfl trivial ?_
      replace H := Option.some.inj H
      subst H
      exact jS.iret rfl (by decide +kernel)
    · replace H := jif_f c4 H
      refine jS.adv O [(.iload_n 2, 0, 0, 0, 0, 0, 0), (.iconst 2, 0, 0, 0, 0, (2 : Int32), 0)] (pc' := 13) (ls' := [(0, .inr (.inr x0)), (1, .inl x1), (2, .inl x2)]) (st' := [.inl (2 : Int32), .inl x2]) (m2 := m) (by decide +kernel) rfl trivial ?_
      refine jS.br (i := .if_icmp .le 6) (P := x2 ≤ (2 : Int32)) (rest := []) rfl (by decide +kernel) (tgt := 19) (by decide) (fun c5 => ?_) (fun c5 => ?_)
      · replace H := jif_t c5 H
        obtain ⟨w6, H⟩ := jgd_ok H
        refine jS.adv O [(.aload_n 0, 0, 0, 0, 0, 0, 0), (.getfield 82, 0, 9, 15, 593, 0, 0)] (pc' := 23) (ls' := [(0, .inr (.inr x0)), (1, .inl x1), (2, .inl x2)]) (st' := [.inl (jI m x0 15)]) (m2 := m) (by decide +kernel) rfl ⟨w6, trivial⟩ ?_
        refine jS.br (i := .ifCond .ne 6) (P := ¬ (jI m x0 15) = 0) (rest := []) rfl (by decide +kernel) (tgt := 29) (by decide) (fun c7 => ?_) (fun c7 => ?_)
        · replace H := jif_f c7 H
          refine jS.adv O [(.aload_n 0, 0, 0, 0, 0, 0, 0)] (pc' := 30) (ls' := [(0, .inr (.inr x0)), (1, .inl x1), (2, .inl x2)]) (st' := [.inr (.inr x0)]) (m2 := m) (by decide +kernel) rfl trivial ?_
          obtain ⟨t9, w8, H⟩ := jb_ok H
          refine jS.step (c' := (33, [(0, .inr (.inr x0)), (1, .inl x1), (2, .inl x2)], [.inr (.inr t9.1)], t9.2)) (jSt.callV (c := 9) (As := []) (rest := []) O (ec_X9_current (d := 7) O (Nat.le_refl _) w8) w6 (by decide) rfl (by omega) jmw_X9_current jmv_X9_current jmn_X9_current (idx := 165) (jW_of 762 (by decide +kernel) rfl) (Nat.le_of_ble_eq_true rfl) (by decide +kernel)) ?_
          obtain ⟨w10, H⟩ := jgd_ok H
          obtain ⟨t12, w11, H⟩ := jb_ok H
          refine jS.step (c' := (36, [(0, .inr (.inr x0)), (1, .inl x1), (2, .inl x2)], [.inl t12], t9.2)) (jSt.callV (c := 2) (As := []) (rest := []) O (ec_X2_isTold (d := 2) O (Nat.le_refl _) w11) w10 (by decide) rfl (by omega) jmw_X2_isTold jmv_X2_isTold jmn_X2_isTold (idx := 213) (jW_of 1076 (by decide +kernel) rfl) (Nat.le_of_ble_eq_true rfl) (by decide +kernel)) ?_
          refine jS.br (i := .ifCond .ne 6) (P := ¬ t12 = 0) (rest := []) rfl (by decide +kernel) (tgt := 42) (by decide) (fun c13 => ?_) (fun c13 => ?_)
          · replace H := jif_f c13 H
            obtain ⟨w14, H⟩ := jgd_ok H
            obtain ⟨w15, H⟩ := jgd_ok H
            obtain ⟨w16, H⟩ := jgd_ok H
            obtain ⟨w17, H⟩ := jgd_ok H
            refine jS.adv O [(.aload_n 0, 0, 0, 0, 0, 0, 0), (.getfield 23, 0, 9, 2, 580, 0, 0), (.iload_n 1, 0, 0, 0, 0, 0, 0), (.aaload, 0, 7, 0, 0, 0, 0), (.getfield 281, 0, 5, 1, 537, 0, 0), (.iconst (-1), 0, 0, 0, 0, (-1 : Int32), 0)] (pc' := 52) (ls' := [(0, .inr (.inr x0)), (1, .inl x1), (2, .inl x2)]) (st' := [.inl (-1 : Int32), .inl (jI t9.2 (jP t9.2 (jP t9.2 x0 2) x1.toNatClampNeg) 1)]) (m2 := t9.2) (by decide +kernel) rfl ⟨w14, ⟨w15, jib_ok w16⟩, w17, trivial⟩ ?_
            refine jS.br (i := .if_icmp .ne 6) (P := ¬ (jI t9.2 (jP t9.2 (jP t9.2 x0 2) x1.toNatClampNeg) 1) = (-1 : Int32)) (rest := []) rfl (by decide +kernel) (tgt := 58) (by decide) (fun c18 => ?_) (fun c18 => ?_)
            · replace H := jif_f c18 H
              obtain ⟨w19, H⟩ := jgd_ok H
              refine jS.adv O [(.aload_n 0, 0, 0, 0, 0, 0, 0), (.getfield 23, 0, 9, 2, 580, 0, 0), (.iload_n 1, 0, 0, 0, 0, 0, 0), (.aaload, 0, 7, 0, 0, 0, 0), (.getfield 284, 0, 5, 2, 539, 0, 0), (.bipush 12, 0, 0, 0, 0, (12 : Int32), 0)] (pc' := 69) (ls' := [(0, .inr (.inr x0)), (1, .inl x1), (2, .inl x2)]) (st' := [.inl (12 : Int32), .inl (jI t9.2 (jP t9.2 (jP t9.2 x0 2) x1.toNatClampNeg) 2)]) (m2 := t9.2) (by decide +kernel) rfl ⟨w14, ⟨w15, jib_ok w19⟩, w17, trivial⟩ ?_
              refine jS.br (i := .if_icmp .le 6) (P := (jI t9.2 (jP t9.2 (jP t9.2 x0 2) x1.toNatClampNeg) 2) ≤ (12 : Int32)) (rest := []) rfl (by decide +kernel) (tgt := 75) (by decide) (fun c20 => ?_) (fun c20 => ?_)
              · replace H := jif_t c20 H
                refine jS.adv O [(.iload_n 2, 0, 0, 0, 0, 0, 0)] (pc' := 76) (ls' := [(0, .inr (.inr x0)), (1, .inl x1), (2, .inl x2)]) (st' := [.inl x2]) (m2 := t9.2) (by decide +kernel) rfl trivial ?_
                by_cases c21 : x2 = (0 : Int32)
                · replace H := jif_t c21 H
                  refine jS.lsw (dflt := 54) (ps := #[(0, 28), (1, 42)]) (off := 28) (len := 28) (tgt := 104) (by decide +kernel) (by decide) (by rw [c21]; rfl) (by decide) ?_
                  refine jS.adv O [(.aload_n 0, 0, 0, 0, 0, 0, 0)] (pc' := 105) (ls' := [(0, .inr (.inr x0)), (1, .inl x1), (2, .inl x2)]) (st' := [.inr (.inr x0)]) (m2 := t9.2) (by decide +kernel) rfl trivial ?_
                  obtain ⟨t23, w22, H⟩ := jb_ok H
                  refine jS.step (c' := (108, [(0, .inr (.inr x0)), (1, .inl x1), (2, .inl x2)], [.inr (.inr t23.1)], t23.2)) (jSt.callV (c := 9) (As := []) (rest := []) O (ec_X9_current (d := 7) O (Nat.le_refl _) w22) w14 (by decide) rfl (by omega) jmw_X9_current jmv_X9_current jmn_X9_current (idx := 165) (jW_of 762 (by decide +kernel) rfl) (Nat.le_of_ble_eq_true rfl) (by decide +kernel)) ?_
                  obtain ⟨w24, H⟩ := jgd_ok H
                  obtain ⟨w25, H⟩ := jgd_ok H
                  obtain ⟨w26, H⟩ := jgd_ok H
                  refine jS.adv O [(.aload_n 0, 0, 0, 0, 0, 0, 0), (.getfield 23, 0, 9, 2, 580, 0, 0), (.iload_n 1, 0, 0, 0, 0, 0, 0), (.aaload, 0, 7, 0, 0, 0, 0)] (pc' := 114) (ls' := [(0, .inr (.inr x0)), (1, .inl x1), (2, .inl x2)]) (st' := [.inr (.inr (jP t23.2 (jP t23.2 x0 2) x1.toNatClampNeg)), .inr (.inr t23.1)]) (m2 := t23.2) (by decide +kernel) rfl ⟨w24, ⟨w25, jib_ok w26⟩, trivial⟩ ?_
                  obtain ⟨t28, w27, H⟩ := jb_ok H
                  refine jS.step (c' := (117, [(0, .inr (.inr x0)), (1, .inl x1), (2, .inl x2)], [.inl t28.1], t28.2)) (jSt.callS (As := [.inr (.inr t23.1), .inr (.inr (jP t23.2 (jP t23.2 x0 2) x1.toNatClampNeg))]) (rest := []) O (ec_X9_otherwise (d := 6) O (Nat.le_refl _) w27) (by omega) jmw_X9_otherwise jmv_X9_otherwise jmn_X9_otherwise (idx := 301) (jW_of 1274 (by decide +kernel) rfl) (Nat.le_of_ble_eq_true rfl) (by decide +kernel)) ?_
                  replace H := Option.some.inj H
                  subst H
                  exact jS.iret rfl (by decide +kernel)
                replace H := jif_f c21 H
                by_cases c29 : x2 = (1 : Int32)
                · replace H := jif_t c29 H
                  refine jS.lsw (dflt := 54) (ps := #[(0, 28), (1, 42)]) (off := 42) (len := 28) (tgt := 118) (by decide +kernel) (by decide) (by rw [c29]; rfl) (by decide) ?_
                  obtain ⟨w30, H⟩ := jgd_ok H
                  refine jS.adv O [(.aload_n 0, 0, 0, 0, 0, 0, 0), (.aload_n 0, 0, 0, 0, 0, 0, 0), (.getfield 23, 0, 9, 2, 580, 0, 0), (.iload_n 1, 0, 0, 0, 0, 0, 0), (.aaload, 0, 7, 0, 0, 0, 0), (.iconst 1, 0, 0, 0, 0, (1 : Int32), 0)] (pc' := 126) (ls' := [(0, .inr (.inr x0)), (1, .inl x1), (2, .inl x2)]) (st' := [.inl (1 : Int32), .inr (.inr (jP t9.2 (jP t9.2 x0 2) x1.toNatClampNeg)), .inr (.inr x0)]) (m2 := t9.2) (by decide +kernel) rfl ⟨w14, ⟨w15, jib_ok w30⟩, trivial⟩ ?_
                  obtain ⟨t32, w31, H⟩ := jb_ok H
                  refine jS.step (c' := (129, [(0, .inr (.inr x0)), (1, .inl x1), (2, .inl x2)], [.inl t32.1], t32.2)) (jSt.callV (c := 9) (As := [.inr (.inr (jP t9.2 (jP t9.2 x0 2) x1.toNatClampNeg)), .inl (1 : Int32)]) (rest := []) O (ec_X9_tellers (d := 7) O (Nat.le_refl _) w31) w14 (by decide) rfl (by omega) jmw_X9_tellers jmv_X9_tellers jmn_X9_tellers (idx := 305) (jW_of 1277 (by decide +kernel) rfl) (Nat.le_of_ble_eq_true rfl) (by decide +kernel)) ?_
                  replace H := Option.some.inj H
                  subst H
                  exact jS.iret rfl (by decide +kernel)
                replace H := jif_f c29 H
                refine jS.lsw (dflt := 54) (ps := #[(0, 28), (1, 42)]) (off := 54) (len := 28) (tgt := 130) (by decide +kernel) (by decide) (by simp [Op.lookupswitch.offset, jsw_ne c21 (k := 0) rfl, jsw_ne c29 (k := 1) rfl]) (by decide) ?_
                obtain ⟨w33, H⟩ := jgd_ok H
                refine jS.adv O [(.aload_n 0, 0, 0, 0, 0, 0, 0), (.aload_n 0, 0, 0, 0, 0, 0, 0), (.getfield 23, 0, 9, 2, 580, 0, 0), (.iload_n 1, 0, 0, 0, 0, 0, 0), (.aaload, 0, 7, 0, 0, 0, 0), (.iconst 0, 0, 0, 0, 0, (0 : Int32), 0)] (pc' := 138) (ls' := [(0, .inr (.inr x0)), (1, .inl x1), (2, .inl x2)]) (st' := [.inl (0 : Int32), .inr (.inr (jP t9.2 (jP t9.2 x0 2) x1.toNatClampNeg)), .inr (.inr x0)]) (m2 := t9.2) (by decide +kernel) rfl ⟨w14, ⟨w15, jib_ok w33⟩, trivial⟩ ?_
                obtain ⟨t35, w34, H⟩ := jb_ok H
                refine jS.step (c' := (141, [(0, .inr (.inr x0)), (1, .inl x1), (2, .inl x2)], [.inl t35.1], t35.2)) (jSt.callV (c := 9) (As := [.inr (.inr (jP t9.2 (jP t9.2 x0 2) x1.toNatClampNeg)), .inl (0 : Int32)]) (rest := []) O (ec_X9_tellers (d := 7) O (Nat.le_refl _) w34) w14 (by decide) rfl (by omega) jmw_X9_tellers jmv_X9_tellers jmn_X9_tellers (idx := 305) (jW_of 1277 (by decide +kernel) rfl) (Nat.le_of_ble_eq_true rfl) (by decide +kernel)) ?_
                replace H := Option.some.inj H
                subst H
                exact jS.iret rfl (by decide +kernel)
              · replace H := jif_f c20 H
                refine jS.adv O [(.bipush (-2), 0, 0, 0, 0, (-2 : Int32), 0)] (pc' := 74) (ls' := [(0, .inr (.inr x0)), (1, .inl x1), (2, .inl x2)]) (st' := [.inl (-2 : Int32)]) (m2 := t9.2) (by decide +kernel) rfl trivial ?_
                replace H := Option.some.inj H
                subst H
                exact jS.iret rfl (by decide +kernel)
            · replace H := jif_t (Classical.not_not.mp c18) H
              refine jS.adv O [(.bipush (-11), 0, 0, 0, 0, (-11 : Int32), 0)] (pc' := 57) (ls' := [(0, .inr (.inr x0)), (1, .inl x1), (2, .inl x2)]) (st' := [.inl (-11 : Int32)]) (m2 := t9.2) (by decide +kernel) rfl trivial ?_
              replace H := Option.some.inj H
              subst H
              exact jS.iret rfl (by decide +kernel)
          · replace H := jif_t (Classical.not_not.mp c13) H
            refine jS.adv O [(.bipush (-5), 0, 0, 0, 0, (-5 : Int32), 0)] (pc' := 41) (ls' := [(0, .inr (.inr x0)), (1, .inl x1), (2, .inl x2)]) (st' := [.inl (-5 : Int32)]) (m2 := t9.2) (by decide +kernel) rfl trivial ?_
            replace H := Option.some.inj H
            subst H
            exact jS.iret rfl (by decide +kernel)
        · replace H := jif_t (Classical.not_not.mp c7) H
          refine jS.adv O [(.bipush (-3), 0, 0, 0, 0, (-3 : Int32), 0)] (pc' := 28) (ls' := [(0, .inr (.inr x0)), (1, .inl x1), (2, .inl x2)]) (st' := [.inl (-3 : Int32)]) (m2 := m) (by decide +kernel) rfl trivial ?_
          replace H := Option.some.inj H
          subst H
          exact jS.iret rfl (by decide +kernel)
      · replace H := jif_f c5 H
        refine jS.adv O [(.bipush (-2), 0, 0, 0, 0, (-2 : Int32), 0)] (pc' := 18) (ls' := [(0, .inr (.inr x0)), (1, .inl x1), (2, .inl x2)]) (st' := [.inl (-2 : Int32)]) (m2 := m) (by decide +kernel) rfl trivial ?_
        replace H := Option.some.inj H
        subst H
        exact jS.iret rfl (by decide +kernel)
def c_X9_film_l59_b (F : Nat) (B : jMe → Nat → Int32 → Int32 → Nat → Int32 → Option (jMe × Int32)) (m : jMe) (y0 : Nat) (y1 : Int32) (y2 : Int32) (y3 : Nat) (y4 : Int32) : Option (jMe × Int32) :=
  (if y2 ≤ y4 then some (m, y2) else jgd (jK m y0 = 41) <| jgd (jK m (jP m y0 2) = 7) <| jgd (jin y1 (jZ m (jP m y0 2)) = true) <| jgd (jK m y3 = 34) <| jb (c_X2_drawn F m y3 y4) fun t24 => jgd (jK t24.2 (jP m (jP m y0 2) y1.toNatClampNeg) = 37) <| jb (c_X5_lay F t24.2 (jP m (jP m y0 2) y1.toNatClampNeg) y4 (Int32.toInt64 t24.1)) fun t27 => B t27 y0 y1 y2 y3 (y4 + (1 : Int32)))
theorem ec_X9_film_l59_b {X : jX} {l : Launch} {d : Nat} (O : jOk X) (hd : 8 ≤ d) {F : Nat} {m0 m' : jMe} {v : Option jAV} {B : jMe → Nat → Int32 → Int32 → Nat → Int32 → Option (jMe × Int32)} (hB : ∀ (m : jMe) (y0 : Nat) (y1 : Int32) (y2 : Int32) (y3 : Nat) (y4 : Int32) (r : jMe × Int32), B m y0 y1 y2 y3 y4 = some r → (jS X l d jm_X9_film m0 v m' (89, [(2, .inl r.2)], [], r.1)) → jS X l d jm_X9_film m0 v m' (59, [(0, .inr (.inr y0)), (1, .inl y1), (2, .inl y2), (3, .inr (.inr y3)), (4, .inl y4)], [], m)) {m : jMe} {y0 : Nat} {y1 : Int32} {y2 : Int32} {y3 : Nat} {y4 : Int32} {r : jMe × Int32} (H : c_X9_film_l59_b F B m y0 y1 y2 y3 y4 = some r) (h2 : jS X l d jm_X9_film m0 v m' (89, [(2, .inl r.2)], [], r.1)) : jS X l d jm_X9_film m0 v m' (59, [(0, .inr (.inr y0)), (1, .inl y1), (2, .inl y2), (3, .inr (.inr y3)), (4, .inl y4)], [], m) := by
  unfold c_X9_film_l59_b at H
  refine jS.adv O [(.iload 4, 0, 0, 0, 0, 0, 0), (.iload_n 2, 0, 0, 0, 0, 0, 0)] (pc' := 62) (ls' := [(0, .inr (.inr y0)), (1, .inl y1), (2, .inl y2), (3, .inr (.inr y3)), (4, .inl y4)]) (st' := [.inl y2, .inl y4]) (m2 := m) (by decide +kernel) rfl trivial ?_
  refine jS.br (i := .if_icmp .ge 27) (P := y2 ≤ y4) (rest := []) rfl (by decide +kernel) (tgt := 89) (by decide) (fun c18 => ?_) (fun c18 => ?_)
  · replace H := jif_t c18 H
    replace H := Option.some.inj H
    subst H
    refine jS.loc' [2] (ls' := [(2, .inl y2)]) rfl ?_
    exact h2
  · replace H := jif_f c18 H
    obtain ⟨w19, H⟩ := jgd_ok H
    obtain ⟨w20, H⟩ := jgd_ok H
    obtain ⟨w21, H⟩ := jgd_ok H
    obtain ⟨w22, H⟩ := jgd_ok H
    refine jS.adv O [(.aload_n 0, 0, 0, 0, 0, 0, 0), (.getfield 23, 0, 9, 2, 580, 0, 0), (.iload_n 1, 0, 0, 0, 0, 0, 0), (.aaload, 0, 7, 0, 0, 0, 0), (.iload 4, 0, 0, 0, 0, 0, 0), (.aload_n 3, 0, 0, 0, 0, 0, 0), (.iload 4, 0, 0, 0, 0, 0, 0)] (pc' := 76) (ls' := [(0, .inr (.inr y0)), (1, .inl y1), (2, .inl y2), (3, .inr (.inr y3)), (4, .inl y4)]) (st' := [.inl y4, .inr (.inr y3), .inl y4, .inr (.inr (jP m (jP m y0 2) y1.toNatClampNeg))]) (m2 := m) (by decide +kernel) rfl ⟨w19, ⟨w20, jib_ok w21⟩, trivial⟩ ?_
    obtain ⟨t24, w23, H⟩ := jb_ok H
    refine jS.step (c' := (79, [(0, .inr (.inr y0)), (1, .inl y1), (2, .inl y2), (3, .inr (.inr y3)), (4, .inl y4)], [.inl t24.1, .inl y4, .inr (.inr (jP m (jP m y0 2) y1.toNatClampNeg))], t24.2)) (jSt.callV (c := 2) (As := [.inl y4]) (rest := [.inl y4, .inr (.inr (jP m (jP m y0 2) y1.toNatClampNeg))]) O (ec_X2_drawn (d := 5) O (Nat.le_refl _) w23) w22 (by decide) rfl (by omega) jmw_X2_drawn jmv_X2_drawn jmn_X2_drawn (idx := 244) (jW_of 1161 (by decide +kernel) rfl) (Nat.le_of_ble_eq_true rfl) (by decide +kernel)) ?_
    obtain ⟨w25, H⟩ := jgd_ok H
    refine jS.adv O [(.i2l, 0, 0, 0, 0, 0, 0)] (pc' := 80) (ls' := [(0, .inr (.inr y0)), (1, .inl y1), (2, .inl y2), (3, .inr (.inr y3)), (4, .inl y4)]) (st' := [.inr (.inl (Int32.toInt64 t24.1)), .inl y4, .inr (.inr (jP m (jP m y0 2) y1.toNatClampNeg))]) (m2 := t24.2) (by decide +kernel) rfl trivial ?_
    obtain ⟨t27, w26, H⟩ := jb_ok H
    refine jS.step (c' := (83, [(0, .inr (.inr y0)), (1, .inl y1), (2, .inl y2), (3, .inr (.inr y3)), (4, .inl y4)], [], t27)) (jSt.callV (c := 5) (As := [.inl y4, .inr (.inl (Int32.toInt64 t24.1))]) (rest := []) O (ec_X5_lay (d := 2) O (Nat.le_refl _) w26) w25 (by decide) rfl (by omega) jmw_X5_lay jmv_X5_lay jmn_X5_lay (idx := 312) (jW_of 1290 (by decide +kernel) rfl) (Nat.le_of_ble_eq_true rfl) (by decide +kernel)) ?_
    refine jS.adv O [(.iinc 4 1, 0, 0, 0, 0, (1 : Int32), 0), (.goto (-27), 0, 59, 0, 0, 0, 0)] (pc' := 59) (ls' := [(4, .inl (y4 + (1 : Int32))), (0, .inr (.inr y0)), (1, .inl y1), (2, .inl y2), (3, .inr (.inr y3))]) (st' := []) (m2 := t27) (by decide +kernel) rfl trivial ?_
    refine jS.loc' [1, 2, 3, 4, 0] (ls' := [(0, .inr (.inr y0)), (1, .inl y1), (2, .inl y2), (3, .inr (.inr y3)), (4, .inl (y4 + (1 : Int32)))]) rfl ?_
    exact hB _ _ _ _ _ _ _ H h2
def c_X9_film_l59 (F : Nat) : Nat → jMe → Nat → Int32 → Int32 → Nat → Int32 → Option (jMe × Int32)
  | 0, _, _, _, _, _, _ => none
  | n + 1, m, y0, y1, y2, y3, y4 => c_X9_film_l59_b F (fun m y0 y1 y2 y3 y4 => c_X9_film_l59 F n m y0 y1 y2 y3 y4) m y0 y1 y2 y3 y4
theorem ec_X9_film_l59 {X : jX} {l : Launch} {d : Nat} (O : jOk X) (hd : 8 ≤ d) {F : Nat} {m0 m' : jMe} {v : Option jAV} : ∀ (n : Nat) {m : jMe} {y0 : Nat} {y1 : Int32} {y2 : Int32} {y3 : Nat} {y4 : Int32} {r : jMe × Int32} (H : c_X9_film_l59 F n m y0 y1 y2 y3 y4 = some r) (h2 : jS X l d jm_X9_film m0 v m' (89, [(2, .inl r.2)], [], r.1)), jS X l d jm_X9_film m0 v m' (59, [(0, .inr (.inr y0)), (1, .inl y1), (2, .inl y2), (3, .inr (.inr y3)), (4, .inl y4)], [], m) := by
  intro n
  induction n with
  | zero =>
    intro m y0 y1 y2 y3 y4 r H h2
    cases (show none = some r from H)
  | succ n ih =>
    intro m y0 y1 y2 y3 y4 r H h2
    exact ec_X9_film_l59_b O hd (B := (fun m y0 y1 y2 y3 y4 => c_X9_film_l59 F n m y0 y1 y2 y3 y4)) (fun m y0 y1 y2 y3 y4 r H h2 => ih H h2) H h2
def c_X9_film (F : Nat) (m : jMe) (x0 : Nat) (x1 : Int32) (x2 : Int32) : Option (Int32 × jMe) :=
  jb (c_X9_isSheet F m x1) fun t2 => (if t2 = 0 then some ((-2 : Int32), m) else (if x2 < 0 then some ((-2 : Int32), m) else (if x2 ≤ (12 : Int32) then jgd (jK m x0 = 41) <| (if (jI m x0 15) = 0 then some ((-3 : Int32), m) else jb (c_X9_current F m x0) fun t9 => jgd (jK t9.2 t9.1 = 34) <| (if (jI t9.2 t9.1 5) = 0 then jgd (jK t9.2 x0 = 41) <| jgd (jK t9.2 (jP t9.2 x0 2) = 7) <| jgd (jin x1 (jZ t9.2 (jP t9.2 x0 2)) = true) <| jgd (jK t9.2 (jP t9.2 (jP t9.2 x0 2) x1.toNatClampNeg) = 37) <| jb (c_X5_become F t9.2 (jP t9.2 (jP t9.2 x0 2) x1.toNatClampNeg) (1 : Int32) x2) fun t17 => jb (c_X9_film_l59 F F t17 x0 x1 x2 t9.1 (0 : Int32)) fun e29 => some (e29.2, e29.1) else some ((-5 : Int32), t9.2))) else some ((-2 : Int32), m))))
theorem ec_X9_film {X : jX} {l : Launch} {d : Nat} (O : jOk X) (hd : 8 ≤ d) {F : Nat} {m : jMe} {x0 : Nat} {x1 : Int32} {x2 : Int32} {r : Int32 × jMe} (H : c_X9_film F m x0 x1 x2 = some r) : jH X l d jm_X9_film [.inr (.inr x0), .inl x1, .inl x2] m (some (.inl r.1)) r.2 := by
  refine jH.of jpl_RX9 rfl (Nat.le_of_ble_eq_true rfl) ?_
  show jS X l d jm_X9_film m _ _ (0, [(0, .inr (.inr x0)), (1, .inl x1), (2, .inl x2)], [], m)
  unfold c_X9_film at H
  refine jS.adv O [(.iload_n 1, 0, 0, 0, 0, 0, 0)] (pc' := 1) (ls' := [(0, .inr (.inr x0)), (1, .inl x1), (2, .inl x2)]) (st' := [.inl x1]) (m2 := m) (by decide +kernel) rfl trivial ?_
  obtain ⟨t2, w1, H⟩ := jb_ok H
  refine jS.step (c' := (4, [(0, .inr (.inr x0)), (1, .inl x1), (2, .inl x2)], [.inl t2], m)) (jSt.callS (As := [.inl x1]) (rest := []) O (ec_X9_isSheet (d := 2) O (Nat.le_refl _) w1) (by omega) jmw_X9_isSheet jmv_X9_isSheet jmn_X9_isSheet (idx := 278) (jW_of 1242 (by decide +kernel) rfl) (Nat.le_of_ble_eq_true rfl) (by decide +kernel)) ?_
  refine jS.br (i := .ifCond .eq 13) (P := t2 = 0) (rest := []) rfl (by decide +kernel) (tgt := 17) (by decide) (fun c3 => ?_) (fun c3 => ?_)
  · replace H := jif_t c3 H
    refine jS.adv O [(.bipush (-2), 0, 0, 0, 0, (-2 : Int32), 0)] (pc' := 19) (ls' := [(0, .inr (.inr x0)), (1, .inl x1), (2, .inl x2)]) (st' := [.inl (-2 : Int32)]) (m2 := m) (by decide +kernel) rfl trivial ?_
    replace H := Option.some.inj H
    subst H
    exact jS.iret rfl (by decide +kernel)
  · replace H := jif_f c3 H
    refine jS.adv O [(.iload_n 2, 0, 0, 0, 0, 0, 0)] (pc' := 8) (ls' := [(0, .inr (.inr x0)), (1, .inl x1), (2, .inl x2)]) (st' := [.inl x2]) (m2 := m) (by decide +kernel) rfl trivial ?_
    refine jS.br (i := .ifCond .lt 9) (P := x2 < 0) (rest := []) rfl (by decide +kernel) (tgt := 17) (by decide) (fun c4 => ?_) (fun c4 => ?_)
    · replace H := jif_t c4 H
      refine jS.adv O [(.bipush (-2), 0, 0, 0, 0, (-2 : Int32), 0)] (pc' := 19) (ls' := [(0, .inr (.inr x0)), (1, .inl x1), (2, .inl x2)]) (st' := [.inl (-2 : Int32)]) (m2 := m) (by decide +kernel) rfl trivial ?_
      replace H := Option.some.inj H
      subst H
      exact jS.iret rfl (by decide +kernel)
    · replace H := jif_f c4 H
      refine jS.adv O [(.iload_n 2, 0, 0, 0, 0, 0, 0), (.bipush 12, 0, 0, 0, 0, (12 : Int32), 0)] (pc' := 14) (ls' := [(0, .inr (.inr x0)), (1, .inl x1), (2, .inl x2)]) (st' := [.inl (12 : Int32), .inl x2]) (m2 := m) (by decide +kernel) rfl trivial ?_
      refine jS.br (i := .if_icmp .le 6) (P := x2 ≤ (12 : Int32)) (rest := []) rfl (by decide +kernel) (tgt := 20) (by decide) (fun c5 => ?_) (fun c5 => ?_)
      · replace H := jif_t c5 H
        obtain ⟨w6, H⟩ := jgd_ok H
        refine jS.adv O [(.aload_n 0, 0, 0, 0, 0, 0, 0), (.getfield 82, 0, 9, 15, 593, 0, 0)] (pc' := 24) (ls' := [(0, .inr (.inr x0)), (1, .inl x1), (2, .inl x2)]) (st' := [.inl (jI m x0 15)]) (m2 := m) (by decide +kernel) rfl ⟨w6, trivial⟩ ?_
        refine jS.br (i := .ifCond .ne 6) (P := ¬ (jI m x0 15) = 0) (rest := []) rfl (by decide +kernel) (tgt := 30) (by decide) (fun c7 => ?_) (fun c7 => ?_)
        · replace H := jif_f c7 H
          refine jS.adv O [(.aload_n 0, 0, 0, 0, 0, 0, 0)] (pc' := 31) (ls' := [(0, .inr (.inr x0)), (1, .inl x1), (2, .inl x2)]) (st' := [.inr (.inr x0)]) (m2 := m) (by decide +kernel) rfl trivial ?_
          obtain ⟨t9, w8, H⟩ := jb_ok H
          refine jS.step (c' := (34, [(0, .inr (.inr x0)), (1, .inl x1), (2, .inl x2)], [.inr (.inr t9.1)], t9.2)) (jSt.callV (c := 9) (As := []) (rest := []) O (ec_X9_current (d := 7) O (Nat.le_refl _) w8) w6 (by decide) rfl (by omega) jmw_X9_current jmv_X9_current jmn_X9_current (idx := 165) (jW_of 762 (by decide +kernel) rfl) (Nat.le_of_ble_eq_true rfl) (by decide +kernel)) ?_
          obtain ⟨w10, H⟩ := jgd_ok H
          refine jS.adv O [(.astore_n 3, 0, 0, 0, 0, 0, 0), (.aload_n 3, 0, 0, 0, 0, 0, 0), (.getfield 193, 0, 2, 5, 434, 0, 0)] (pc' := 39) (ls' := [(3, .inr (.inr t9.1)), (0, .inr (.inr x0)), (1, .inl x1), (2, .inl x2)]) (st' := [.inl (jI t9.2 t9.1 5)]) (m2 := t9.2) (by decide +kernel) rfl ⟨w10, trivial⟩ ?_
          refine jS.br (i := .ifCond .eq 6) (P := (jI t9.2 t9.1 5) = 0) (rest := []) rfl (by decide +kernel) (tgt := 45) (by decide) (fun c11 => ?_) (fun c11 => ?_)
          · replace H := jif_t c11 H
            obtain ⟨w12, H⟩ := jgd_ok H
            obtain ⟨w13, H⟩ := jgd_ok H
            obtain ⟨w14, H⟩ := jgd_ok H
            obtain ⟨w15, H⟩ := jgd_ok H
            refine jS.adv O [(.aload_n 0, 0, 0, 0, 0, 0, 0), (.getfield 23, 0, 9, 2, 580, 0, 0), (.iload_n 1, 0, 0, 0, 0, 0, 0), (.aaload, 0, 7, 0, 0, 0, 0), (.iconst 1, 0, 0, 0, 0, (1 : Int32), 0), (.iload_n 2, 0, 0, 0, 0, 0, 0)] (pc' := 53) (ls' := [(3, .inr (.inr t9.1)), (0, .inr (.inr x0)), (1, .inl x1), (2, .inl x2)]) (st' := [.inl x2, .inl (1 : Int32), .inr (.inr (jP t9.2 (jP t9.2 x0 2) x1.toNatClampNeg))]) (m2 := t9.2) (by decide +kernel) rfl ⟨w12, ⟨w13, jib_ok w14⟩, trivial⟩ ?_
            obtain ⟨t17, w16, H⟩ := jb_ok H
            refine jS.step (c' := (56, [(3, .inr (.inr t9.1)), (0, .inr (.inr x0)), (1, .inl x1), (2, .inl x2)], [], t17)) (jSt.callV (c := 5) (As := [.inl (1 : Int32), .inl x2]) (rest := []) O (ec_X5_become (d := 3) O (Nat.le_refl _) w16) w15 (by decide) rfl (by omega) jmw_X5_become jmv_X5_become jmn_X5_become (idx := 309) (jW_of 1285 (by decide +kernel) rfl) (Nat.le_of_ble_eq_true rfl) (by decide +kernel)) ?_
            refine jS.adv O [(.iconst 0, 0, 0, 0, 0, (0 : Int32), 0), (.istore 4, 0, 0, 0, 0, 0, 0)] (pc' := 59) (ls' := [(4, .inl (0 : Int32)), (3, .inr (.inr t9.1)), (0, .inr (.inr x0)), (1, .inl x1), (2, .inl x2)]) (st' := []) (m2 := t17) (by decide +kernel) rfl trivial ?_
            refine jS.loc' [2, 3, 4, 1, 0] (ls' := [(0, .inr (.inr x0)), (1, .inl x1), (2, .inl x2), (3, .inr (.inr t9.1)), (4, .inl (0 : Int32))]) rfl ?_
            obtain ⟨e29, w30, H⟩ := jb_ok H
            refine ec_X9_film_l59 O hd F w30 ?_
            refine jS.adv O [(.iload_n 2, 0, 0, 0, 0, 0, 0)] (pc' := 90) (ls' := [(2, .inl e29.2)]) (st' := [.inl e29.2]) (m2 := e29.1) (by decide +kernel) rfl trivial ?_
            replace H := Option.some.inj H
            subst H
            exact jS.iret rfl (by decide +kernel)
          · replace H := jif_f c11 H
            refine jS.adv O [(.bipush (-5), 0, 0, 0, 0, (-5 : Int32), 0)] (pc' := 44) (ls' := [(3, .inr (.inr t9.1)), (0, .inr (.inr x0)), (1, .inl x1), (2, .inl x2)]) (st' := [.inl (-5 : Int32)]) (m2 := t9.2) (by decide +kernel) rfl trivial ?_
            replace H := Option.some.inj H
            subst H
            exact jS.iret rfl (by decide +kernel)
        · replace H := jif_t (Classical.not_not.mp c7) H
          refine jS.adv O [(.bipush (-3), 0, 0, 0, 0, (-3 : Int32), 0)] (pc' := 29) (ls' := [(0, .inr (.inr x0)), (1, .inl x1), (2, .inl x2)]) (st' := [.inl (-3 : Int32)]) (m2 := m) (by decide +kernel) rfl trivial ?_
          replace H := Option.some.inj H
          subst H
          exact jS.iret rfl (by decide +kernel)
      · replace H := jif_f c5 H
        refine jS.adv O [(.bipush (-2), 0, 0, 0, 0, (-2 : Int32), 0)] (pc' := 19) (ls' := [(0, .inr (.inr x0)), (1, .inl x1), (2, .inl x2)]) (st' := [.inl (-2 : Int32)]) (m2 := m) (by decide +kernel) rfl trivial ?_
        replace H := Option.some.inj H
        subst H
        exact jS.iret rfl (by decide +kernel)
def c_X9_image (F : Nat) (m : jMe) (x0 : Nat) : Option (Int32 × jMe) :=
  jgd (jK m x0 = 41) <| jgd (jK m (jP m x0 4) = 33) <| jb (c_X1_keep F m (jP m x0 4) (jP m x0 0) (jI m x0 11) (jI m x0 15) (jI m x0 14)) fun t4 => jgd (jK t4 x0 = 41) <| some ((jI t4 x0 11), t4)
theorem ec_X9_image {X : jX} {l : Launch} {d : Nat} (O : jOk X) (hd : 3 ≤ d) {F : Nat} {m : jMe} {x0 : Nat} {r : Int32 × jMe} (H : c_X9_image F m x0 = some r) : jH X l d jm_X9_image [.inr (.inr x0)] m (some (.inl r.1)) r.2 := by
  refine jH.of jpl_RX9 rfl (Nat.le_of_ble_eq_true rfl) ?_
  show jS X l d jm_X9_image m _ _ (0, [(0, .inr (.inr x0))], [], m)
  unfold c_X9_image at H
  obtain ⟨w1, H⟩ := jgd_ok H
  obtain ⟨w2, H⟩ := jgd_ok H
  refine jS.adv O [(.aload_n 0, 0, 0, 0, 0, 0, 0), (.getfield 37, 0, 9, 4, 582, 0, 0), (.aload_n 0, 0, 0, 0, 0, 0, 0), (.getfield 11, 0, 9, 0, 578, 0, 0), (.aload_n 0, 0, 0, 0, 0, 0, 0), (.getfield 69, 0, 9, 11, 589, 0, 0), (.aload_n 0, 0, 0, 0, 0, 0, 0), (.getfield 82, 0, 9, 15, 593, 0, 0), (.aload_n 0, 0, 0, 0, 0, 0, 0), (.getfield 79, 0, 9, 14, 592, 0, 0)] (pc' := 20) (ls' := [(0, .inr (.inr x0))]) (st' := [.inl (jI m x0 14), .inl (jI m x0 15), .inl (jI m x0 11), .inr (.inr (jP m x0 0)), .inr (.inr (jP m x0 4))]) (m2 := m) (by decide +kernel) rfl ⟨w1, w1, w1, w1, w1, trivial⟩ ?_
  obtain ⟨t4, w3, H⟩ := jb_ok H
  refine jS.step (c' := (23, [(0, .inr (.inr x0))], [], t4)) (jSt.callV (c := 1) (As := [.inr (.inr (jP m x0 0)), .inl (jI m x0 11), .inl (jI m x0 15), .inl (jI m x0 14)]) (rest := []) O (ec_X1_keep (d := 2) O (Nat.le_refl _) w3) w2 (by decide) rfl (by omega) jmw_X1_keep jmv_X1_keep jmn_X1_keep (idx := 316) (jW_of 1298 (by decide +kernel) rfl) (Nat.le_of_ble_eq_true rfl) (by decide +kernel)) ?_
  obtain ⟨w5, H⟩ := jgd_ok H
  refine jS.adv O [(.aload_n 0, 0, 0, 0, 0, 0, 0), (.getfield 69, 0, 9, 11, 589, 0, 0)] (pc' := 27) (ls' := [(0, .inr (.inr x0))]) (st' := [.inl (jI t4 x0 11)]) (m2 := t4) (by decide +kernel) rfl ⟨w5, trivial⟩ ?_
  replace H := Option.some.inj H
  subst H
  exact jS.iret rfl (by decide +kernel)
def c_X9_back (F : Nat) (m : jMe) (x0 : Nat) : Option (Int32 × jMe) :=
  jgd (jK m x0 = 41) <| jgd (jK m (jP m x0 4) = 33) <| (if (jI m (jP m x0 4) 0) = 0 then some ((-3 : Int32), m) else jb (c_X1_layBack F m (jP m x0 4) (jP m x0 0)) fun t5 => jgd (jK t5 x0 = 41) <| jgd (jK t5 (jP t5 x0 4) = 33) <| jgd (jK t5 (jP (jsI t5 x0 11 (jI t5 (jP t5 x0 4) 1)) x0 4) = 33) <| jgd (jK t5 (jP (jsI (jsI t5 x0 11 (jI t5 (jP t5 x0 4) 1)) x0 15 (jI (jsI t5 x0 11 (jI t5 (jP t5 x0 4) 1)) (jP (jsI t5 x0 11 (jI t5 (jP t5 x0 4) 1)) x0 4) 2)) x0 4) = 33) <| jlet (jsI (jsI (jsI t5 x0 11 (jI t5 (jP t5 x0 4) 1)) x0 15 (jI (jsI t5 x0 11 (jI t5 (jP t5 x0 4) 1)) (jP (jsI t5 x0 11 (jI t5 (jP t5 x0 4) 1)) x0 4) 2)) x0 14 (jI (jsI (jsI t5 x0 11 (jI t5 (jP t5 x0 4) 1)) x0 15 (jI (jsI t5 x0 11 (jI t5 (jP t5 x0 4) 1)) (jP (jsI t5 x0 11 (jI t5 (jP t5 x0 4) 1)) x0 4) 2)) (jP (jsI (jsI t5 x0 11 (jI t5 (jP t5 x0 4) 1)) x0 15 (jI (jsI t5 x0 11 (jI t5 (jP t5 x0 4) 1)) (jP (jsI t5 x0 11 (jI t5 (jP t5 x0 4) 1)) x0 4) 2)) x0 4) 3)) fun m10 => jgd (jK m10 x0 = 41) <| some ((jI (jsI m10 x0 10 (1 : Int32)) x0 11), (jsI m10 x0 10 (1 : Int32))))
theorem ec_X9_back {X : jX} {l : Launch} {d : Nat} (O : jOk X) (hd : 3 ≤ d) {F : Nat} {m : jMe} {x0 : Nat} {r : Int32 × jMe} (H : c_X9_back F m x0 = some r) : jH X l d jm_X9_back [.inr (.inr x0)] m (some (.inl r.1)) r.2 := by
  refine jH.of jpl_RX9 rfl (Nat.le_of_ble_eq_true rfl) ?_
  show jS X l d jm_X9_back m _ _ (0, [(0, .inr (.inr x0))], [], m)
  unfold c_X9_back at H
  obtain ⟨w1, H⟩ := jgd_ok H
  obtain ⟨w2, H⟩ := jgd_ok H
  refine jS.adv O [(.aload_n 0, 0, 0, 0, 0, 0, 0), (.getfield 37, 0, 9, 4, 582, 0, 0), (.getfield 320, 0, 1, 0, 321, 0, 0)] (pc' := 7) (ls' := [(0, .inr (.inr x0))]) (st' := [.inl (jI m (jP m x0 4) 0)]) (m2 := m) (by decide +kernel) rfl ⟨w1, w2, trivial⟩ ?_
  refine jS.br (i := .ifCond .ne 6) (P := ¬ (jI m (jP m x0 4) 0) = 0) (rest := []) rfl (by decide +kernel) (tgt := 13) (by decide) (fun c3 => ?_) (fun c3 => ?_)
  · replace H := jif_f c3 H
    refine jS.adv O [(.aload_n 0, 0, 0, 0, 0, 0, 0), (.getfield 37, 0, 9, 4, 582, 0, 0), (.aload_n 0, 0, 0, 0, 0, 0, 0), (.getfield 11, 0, 9, 0, 578, 0, 0)] (pc' := 21) (ls' := [(0, .inr (.inr x0))]) (st' := [.inr (.inr (jP m x0 0)), .inr (.inr (jP m x0 4))]) (m2 := m) (by decide +kernel) rfl ⟨w1, w1, trivial⟩ ?_
    obtain ⟨t5, w4, H⟩ := jb_ok H
    refine jS.step (c' := (24, [(0, .inr (.inr x0))], [], t5)) (jSt.callV (c := 1) (As := [.inr (.inr (jP m x0 0))]) (rest := []) O (ec_X1_layBack (d := 2) O (Nat.le_refl _) w4) w2 (by decide) rfl (by omega) jmw_X1_layBack jmv_X1_layBack jmn_X1_layBack (idx := 323) (jW_of 1307 (by decide +kernel) rfl) (Nat.le_of_ble_eq_true rfl) (by decide +kernel)) ?_
    obtain ⟨w6, H⟩ := jgd_ok H
    obtain ⟨w7, H⟩ := jgd_ok H
    obtain ⟨w8, H⟩ := jgd_ok H
    obtain ⟨w9, H⟩ := jgd_ok H
    obtain ⟨m10, em10, H⟩ := jlet_ok H
    refine jS.adv O [(.aload_n 0, 0, 0, 0, 0, 0, 0), (.aload_n 0, 0, 0, 0, 0, 0, 0), (.getfield 37, 0, 9, 4, 582, 0, 0), (.getfield 327, 0, 1, 1, 323, 0, 0), (.putfield 69, 0, 9, 11, 589, 0, 0), (.aload_n 0, 0, 0, 0, 0, 0, 0), (.aload_n 0, 0, 0, 0, 0, 0, 0), (.getfield 37, 0, 9, 4, 582, 0, 0), (.getfield 328, 0, 1, 2, 325, 0, 0), (.putfield 82, 0, 9, 15, 593, 0, 0), (.aload_n 0, 0, 0, 0, 0, 0, 0), (.aload_n 0, 0, 0, 0, 0, 0, 0), (.getfield 37, 0, 9, 4, 582, 0, 0), (.getfield 329, 0, 1, 3, 327, 0, 0), (.putfield 79, 0, 9, 14, 592, 0, 0)] (pc' := 57) (ls' := [(0, .inr (.inr x0))]) (st' := []) (m2 := (jsI (jsI (jsI t5 x0 11 (jI t5 (jP t5 x0 4) 1)) x0 15 (jI (jsI t5 x0 11 (jI t5 (jP t5 x0 4) 1)) (jP (jsI t5 x0 11 (jI t5 (jP t5 x0 4) 1)) x0 4) 2)) x0 14 (jI (jsI (jsI t5 x0 11 (jI t5 (jP t5 x0 4) 1)) x0 15 (jI (jsI t5 x0 11 (jI t5 (jP t5 x0 4) 1)) (jP (jsI t5 x0 11 (jI t5 (jP t5 x0 4) 1)) x0 4) 2)) (jP (jsI (jsI t5 x0 11 (jI t5 (jP t5 x0 4) 1)) x0 15 (jI (jsI t5 x0 11 (jI t5 (jP t5 x0 4) 1)) (jP (jsI t5 x0 11 (jI t5 (jP t5 x0 4) 1)) x0 4) 2)) x0 4) 3))) (by decide +kernel) rfl ⟨w6, w7, w6, w6, w8, w6, w6, w9, w6, trivial⟩ ?_
    refine jS.cast (c' := (57, [(0, .inr (.inr x0))], [], m10)) (by rw [em10]) ?_
    obtain ⟨w11, H⟩ := jgd_ok H
    refine jS.adv O [(.aload_n 0, 0, 0, 0, 0, 0, 0), (.iconst 1, 0, 0, 0, 0, (1 : Int32), 0), (.putfield 65, 0, 9, 10, 588, 0, 0), (.aload_n 0, 0, 0, 0, 0, 0, 0), (.getfield 69, 0, 9, 11, 589, 0, 0)] (pc' := 66) (ls' := [(0, .inr (.inr x0))]) (st' := [.inl (jI (jsI m10 x0 10 (1 : Int32)) x0 11)]) (m2 := (jsI m10 x0 10 (1 : Int32))) (by decide +kernel) rfl ⟨⟨w11, Or.inr rfl⟩, w11, trivial⟩ ?_
    replace H := Option.some.inj H
    subst H
    exact jS.iret rfl (by decide +kernel)
  · replace H := jif_t (Classical.not_not.mp c3) H
    refine jS.adv O [(.bipush (-3), 0, 0, 0, 0, (-3 : Int32), 0)] (pc' := 12) (ls' := [(0, .inr (.inr x0))]) (st' := [.inl (-3 : Int32)]) (m2 := m) (by decide +kernel) rfl trivial ?_
    replace H := Option.some.inj H
    subst H
    exact jS.iret rfl (by decide +kernel)
def c_X9_rowsOfAll_l4_b (F : Nat) (B : Nat → Int32 → Int32 → Int32 → Option (Int32)) (m : jMe) (y0 : Nat) (y1 : Int32) (y2 : Int32) (y3 : Int32) : Option (Int32) :=
  jgd (jK m y0 = 41) <| (if (jI m y0 11) ≤ y3 then some (y2) else (if y1 = 0 then jgd (jK m (jP m y0 0) = 5) <| jgd (jin y3 (jZ m (jP m y0 0)) = true) <| jgd (jK m (jP m (jP m y0 0) y3.toNatClampNeg) = 36) <| B y0 y1 (y2 + (jI m (jP m (jP m y0 0) y3.toNatClampNeg) 5)) (y3 + (1 : Int32)) else jgd (jK m (jP m y0 0) = 5) <| jgd (jin y3 (jZ m (jP m y0 0)) = true) <| jgd (jK m (jP m (jP m y0 0) y3.toNatClampNeg) = 36) <| jb (c_J6_bitCount_0f7a4 F m (jI m (jP m (jP m y0 0) y3.toNatClampNeg) 6)) fun t11 => B y0 y1 (y2 + t11) (y3 + (1 : Int32))))
theorem ec_X9_rowsOfAll_l4_b {X : jX} {l : Launch} {d : Nat} (O : jOk X) (hd : 3 ≤ d) {F : Nat} {m0 m' : jMe} {v : Option jAV} {m : jMe} {B : Nat → Int32 → Int32 → Int32 → Option (Int32)} (hB : ∀ (y0 : Nat) (y1 : Int32) (y2 : Int32) (y3 : Int32) (r : Int32), B y0 y1 y2 y3 = some r → (jS X l d jm_X9_rowsOfAll m0 v m' (49, [(2, .inl r)], [], m)) → jS X l d jm_X9_rowsOfAll m0 v m' (4, [(0, .inr (.inr y0)), (1, .inl y1), (2, .inl y2), (3, .inl y3)], [], m)) {y0 : Nat} {y1 : Int32} {y2 : Int32} {y3 : Int32} {r : Int32} (H : c_X9_rowsOfAll_l4_b F B m y0 y1 y2 y3 = some r) (h2 : jS X l d jm_X9_rowsOfAll m0 v m' (49, [(2, .inl r)], [], m)) : jS X l d jm_X9_rowsOfAll m0 v m' (4, [(0, .inr (.inr y0)), (1, .inl y1), (2, .inl y2), (3, .inl y3)], [], m) := by
  unfold c_X9_rowsOfAll_l4_b at H
  obtain ⟨w1, H⟩ := jgd_ok H
  refine jS.adv O [(.iload_n 3, 0, 0, 0, 0, 0, 0), (.aload_n 0, 0, 0, 0, 0, 0, 0), (.getfield 69, 0, 9, 11, 589, 0, 0)] (pc' := 9) (ls' := [(0, .inr (.inr y0)), (1, .inl y1), (2, .inl y2), (3, .inl y3)]) (st' := [.inl (jI m y0 11), .inl y3]) (m2 := m) (by decide +kernel) rfl ⟨w1, trivial⟩ ?_
  refine jS.br (i := .if_icmp .ge 40) (P := (jI m y0 11) ≤ y3) (rest := []) rfl (by decide +kernel) (tgt := 49) (by decide) (fun c2 => ?_) (fun c2 => ?_)
  · replace H := jif_t c2 H
    replace H := Option.some.inj H
    subst H
    refine jS.loc' [2] (ls' := [(2, .inl y2)]) rfl ?_
    exact h2
  · replace H := jif_f c2 H
    refine jS.adv O [(.iload_n 2, 0, 0, 0, 0, 0, 0), (.iload_n 1, 0, 0, 0, 0, 0, 0)] (pc' := 14) (ls' := [(0, .inr (.inr y0)), (1, .inl y1), (2, .inl y2), (3, .inl y3)]) (st' := [.inl y1, .inl y2]) (m2 := m) (by decide +kernel) rfl trivial ?_
    refine jS.br (i := .ifCond .eq 18) (P := y1 = 0) (rest := [.inl y2]) rfl (by decide +kernel) (tgt := 32) (by decide) (fun c3 => ?_) (fun c3 => ?_)
    · replace H := jif_t c3 H
      obtain ⟨w4, H⟩ := jgd_ok H
      obtain ⟨w5, H⟩ := jgd_ok H
      obtain ⟨w6, H⟩ := jgd_ok H
      refine jS.adv O [(.aload_n 0, 0, 0, 0, 0, 0, 0), (.getfield 11, 0, 9, 0, 578, 0, 0), (.iload_n 3, 0, 0, 0, 0, 0, 0), (.aaload, 0, 5, 0, 0, 0, 0), (.getfield 162, 0, 4, 5, 510, 0, 0), (.iadd, 0, 0, 0, 0, 0, 0), (.istore_n 2, 0, 0, 0, 0, 0, 0), (.iinc 3 1, 0, 0, 0, 0, (1 : Int32), 0), (.goto (-42), 0, 4, 0, 0, 0, 0)] (pc' := 4) (ls' := [(3, .inl (y3 + (1 : Int32))), (2, .inl (y2 + (jI m (jP m (jP m y0 0) y3.toNatClampNeg) 5))), (0, .inr (.inr y0)), (1, .inl y1)]) (st' := []) (m2 := m) (by decide +kernel) rfl ⟨w1, ⟨w4, jib_ok w5⟩, w6, trivial⟩ ?_
      refine jS.loc' [2, 3, 1, 0] (ls' := [(0, .inr (.inr y0)), (1, .inl y1), (2, .inl (y2 + (jI m (jP m (jP m y0 0) y3.toNatClampNeg) 5))), (3, .inl (y3 + (1 : Int32)))]) rfl ?_
      exact hB _ _ _ _ _ H h2
    · replace H := jif_f c3 H
      obtain ⟨w7, H⟩ := jgd_ok H
      obtain ⟨w8, H⟩ := jgd_ok H
      obtain ⟨w9, H⟩ := jgd_ok H
      refine jS.adv O [(.aload_n 0, 0, 0, 0, 0, 0, 0), (.getfield 11, 0, 9, 0, 578, 0, 0), (.iload_n 3, 0, 0, 0, 0, 0, 0), (.aaload, 0, 5, 0, 0, 0, 0), (.getfield 123, 0, 4, 6, 513, 0, 0)] (pc' := 26) (ls' := [(0, .inr (.inr y0)), (1, .inl y1), (2, .inl y2), (3, .inl y3)]) (st' := [.inl (jI m (jP m (jP m y0 0) y3.toNatClampNeg) 6), .inl y2]) (m2 := m) (by decide +kernel) rfl ⟨w1, ⟨w7, jib_ok w8⟩, w9, trivial⟩ ?_
      obtain ⟨t11, w10, H⟩ := jb_ok H
      refine jS.step (c' := (29, [(0, .inr (.inr y0)), (1, .inl y1), (2, .inl y2), (3, .inl y3)], [.inl t11, .inl y2], m)) (jSt.callS (As := [.inl (jI m (jP m (jP m y0 0) y3.toNatClampNeg) 6)]) (rest := [.inl y2]) O (ec_J6_bitCount_0f7a4 (d := 2) O (Nat.le_refl _) w10) (by omega) jmw_J6_bitCount_0f7a4 jmv_J6_bitCount_0f7a4 jmn_J6_bitCount_0f7a4 (idx := 90) (jW_of 631 (by decide +kernel) rfl) (Nat.le_of_ble_eq_true rfl) (by decide +kernel)) ?_
      refine jS.adv O [(.goto 12, 0, 41, 0, 0, 0, 0), (.iadd, 0, 0, 0, 0, 0, 0), (.istore_n 2, 0, 0, 0, 0, 0, 0), (.iinc 3 1, 0, 0, 0, 0, (1 : Int32), 0), (.goto (-42), 0, 4, 0, 0, 0, 0)] (pc' := 4) (ls' := [(3, .inl (y3 + (1 : Int32))), (2, .inl (y2 + t11)), (0, .inr (.inr y0)), (1, .inl y1)]) (st' := []) (m2 := m) (by decide +kernel) rfl trivial ?_
      refine jS.loc' [2, 3, 1, 0] (ls' := [(0, .inr (.inr y0)), (1, .inl y1), (2, .inl (y2 + t11)), (3, .inl (y3 + (1 : Int32)))]) rfl ?_
      exact hB _ _ _ _ _ H h2
def c_X9_rowsOfAll_l4 (F : Nat) (m : jMe) : Nat → Nat → Int32 → Int32 → Int32 → Option (Int32)
  | 0, _, _, _, _ => none
  | n + 1, y0, y1, y2, y3 => c_X9_rowsOfAll_l4_b F (fun y0 y1 y2 y3 => c_X9_rowsOfAll_l4 F m n y0 y1 y2 y3) m y0 y1 y2 y3
theorem ec_X9_rowsOfAll_l4 {X : jX} {l : Launch} {d : Nat} (O : jOk X) (hd : 3 ≤ d) {F : Nat} {m0 m' : jMe} {v : Option jAV} {m : jMe} : ∀ (n : Nat) {y0 : Nat} {y1 : Int32} {y2 : Int32} {y3 : Int32} {r : Int32} (H : c_X9_rowsOfAll_l4 F m n y0 y1 y2 y3 = some r) (h2 : jS X l d jm_X9_rowsOfAll m0 v m' (49, [(2, .inl r)], [], m)), jS X l d jm_X9_rowsOfAll m0 v m' (4, [(0, .inr (.inr y0)), (1, .inl y1), (2, .inl y2), (3, .inl y3)], [], m) := by
  intro n
  induction n with
  | zero =>
    intro y0 y1 y2 y3 r H h2
    cases (show none = some r from H)
  | succ n ih =>
    intro y0 y1 y2 y3 r H h2
    exact ec_X9_rowsOfAll_l4_b O hd (B := (fun y0 y1 y2 y3 => c_X9_rowsOfAll_l4 F m n y0 y1 y2 y3)) (fun y0 y1 y2 y3 r H h2 => ih H h2) H h2
def c_X9_rowsOfAll (F : Nat) (m : jMe) (x0 : Nat) (x1 : Int32) : Option (Int32) :=
  jb (c_X9_rowsOfAll_l4 F m F x0 x1 (0 : Int32) (0 : Int32)) fun e13 => some e13
theorem ec_X9_rowsOfAll {X : jX} {l : Launch} {d : Nat} (O : jOk X) (hd : 3 ≤ d) {F : Nat} {m : jMe} {x0 : Nat} {x1 : Int32} {r : Int32} (H : c_X9_rowsOfAll F m x0 x1 = some r) : jH X l d jm_X9_rowsOfAll [.inr (.inr x0), .inl x1] m (some (.inl r)) m := by
  refine jH.of jpl_RX9 rfl (Nat.le_of_ble_eq_true rfl) ?_
  show jS X l d jm_X9_rowsOfAll m _ _ (0, [(0, .inr (.inr x0)), (1, .inl x1)], [], m)
  unfold c_X9_rowsOfAll at H
  refine jS.adv O [(.iconst 0, 0, 0, 0, 0, (0 : Int32), 0), (.istore_n 2, 0, 0, 0, 0, 0, 0), (.iconst 0, 0, 0, 0, 0, (0 : Int32), 0), (.istore_n 3, 0, 0, 0, 0, 0, 0)] (pc' := 4) (ls' := [(3, .inl (0 : Int32)), (2, .inl (0 : Int32)), (0, .inr (.inr x0)), (1, .inl x1)]) (st' := []) (m2 := m) (by decide +kernel) rfl trivial ?_
  refine jS.loc' [2, 3, 1, 0] (ls' := [(0, .inr (.inr x0)), (1, .inl x1), (2, .inl (0 : Int32)), (3, .inl (0 : Int32))]) rfl ?_
  obtain ⟨e13, w14, H⟩ := jb_ok H
  refine ec_X9_rowsOfAll_l4 O hd F w14 ?_
  refine jS.adv O [(.iload_n 2, 0, 0, 0, 0, 0, 0)] (pc' := 50) (ls' := [(2, .inl e13)]) (st' := [.inl e13]) (m2 := m) (by decide +kernel) rfl trivial ?_
  replace H := Option.some.inj H
  subst H
  exact jS.iret rfl (by decide +kernel)
def c_X9_count (F : Nat) (m : jMe) (x0 : Nat) (x1 : Int32) : Option (Int32) :=
  (if x1 = (0 : Int32) then jgd (jK m x0 = 41) <| some (jI m x0 11) else if x1 = (1 : Int32) then jgd (jK m x0 = 41) <| jb (c_X9_rowsOfAll F m x0 (0 : Int32)) fun t6 => some t6 else if x1 = (2 : Int32) then jgd (jK m x0 = 41) <| jb (c_X9_rowsOfAll F m x0 (1 : Int32)) fun t10 => some t10 else if x1 = (3 : Int32) then jgd (jK m x0 = 41) <| some (jI m x0 12) else if x1 = (4 : Int32) then jgd (jK m x0 = 41) <| jgd (jK m (jP m x0 3) = 35) <| some (jI m (jP m x0 3) 2) else if x1 = (5 : Int32) then jgd (jK m x0 = 41) <| some (jI m x0 14) else if x1 = (6 : Int32) then jgd (jK m x0 = 41) <| some (jI m x0 15) else if x1 = (7 : Int32) then jgd (jK m x0 = 41) <| some (jI m x0 13) else some (-2 : Int32))
theorem ec_X9_count {X : jX} {l : Launch} {d : Nat} (O : jOk X) (hd : 4 ≤ d) {F : Nat} {m : jMe} {x0 : Nat} {x1 : Int32} {r : Int32} (H : c_X9_count F m x0 x1 = some r) : jH X l d jm_X9_count [.inr (.inr x0), .inl x1] m (some (.inl r)) m := by
  refine jH.of jpl_RX9 rfl (Nat.le_of_ble_eq_true rfl) ?_
  show jS X l d jm_X9_count m _ _ (0, [(0, .inr (.inr x0)), (1, .inl x1)], [], m)
  unfold c_X9_count at H
  refine jS.adv O [(.iload_n 1, 0, 0, 0, 0, 0, 0)] (pc' := 1) (ls' := [(0, .inr (.inr x0)), (1, .inl x1)]) (st' := [.inl x1]) (m2 := m) (by decide +kernel) rfl trivial ?_
  by_cases c1 : x1 = (0 : Int32)
  · replace H := jif_t c1 H
    refine jS.tswIn (dflt := 92) (lo := 0) (hi := 7) (offs := #[47, 52, 58, 64, 69, 77, 82, 87]) (off := 47) c1 (len := 47) (tgt := 48) (by decide +kernel) (by decide) (by decide) rfl (by decide) ?_
    obtain ⟨w2, H⟩ := jgd_ok H
    refine jS.adv O [(.aload_n 0, 0, 0, 0, 0, 0, 0), (.getfield 69, 0, 9, 11, 589, 0, 0)] (pc' := 52) (ls' := [(0, .inr (.inr x0)), (1, .inl x1)]) (st' := [.inl (jI m x0 11)]) (m2 := m) (by decide +kernel) rfl ⟨w2, trivial⟩ ?_
    replace H := Option.some.inj H
    subst H
    exact jS.iret rfl (by decide +kernel)
  replace H := jif_f c1 H
  by_cases c3 : x1 = (1 : Int32)
  · replace H := jif_t c3 H
    refine jS.tswIn (dflt := 92) (lo := 0) (hi := 7) (offs := #[47, 52, 58, 64, 69, 77, 82, 87]) (off := 52) c3 (len := 47) (tgt := 53) (by decide +kernel) (by decide) (by decide) rfl (by decide) ?_
    obtain ⟨w4, H⟩ := jgd_ok H
    refine jS.adv O [(.aload_n 0, 0, 0, 0, 0, 0, 0), (.iconst 0, 0, 0, 0, 0, (0 : Int32), 0)] (pc' := 55) (ls' := [(0, .inr (.inr x0)), (1, .inl x1)]) (st' := [.inl (0 : Int32), .inr (.inr x0)]) (m2 := m) (by decide +kernel) rfl trivial ?_
    obtain ⟨t6, w5, H⟩ := jb_ok H
    refine jS.step (c' := (58, [(0, .inr (.inr x0)), (1, .inl x1)], [.inl t6], m)) (jSt.callV (c := 9) (As := [.inl (0 : Int32)]) (rest := []) O (ec_X9_rowsOfAll (d := 3) O (Nat.le_refl _) w5) w4 (by decide) rfl (by omega) jmw_X9_rowsOfAll jmv_X9_rowsOfAll jmn_X9_rowsOfAll (idx := 330) (jW_of 1315 (by decide +kernel) rfl) (Nat.le_of_ble_eq_true rfl) (by decide +kernel)) ?_
    replace H := Option.some.inj H
    subst H
    exact jS.iret rfl (by decide +kernel)
  replace H := jif_f c3 H
  by_cases c7 : x1 = (2 : Int32)
  · replace H := jif_t c7 H
    refine jS.tswIn (dflt := 92) (lo := 0) (hi := 7) (offs := #[47, 52, 58, 64, 69, 77, 82, 87]) (off := 58) c7 (len := 47) (tgt := 59) (by decide +kernel) (by decide) (by decide) rfl (by decide) ?_
    obtain ⟨w8, H⟩ := jgd_ok H
    refine jS.adv O [(.aload_n 0, 0, 0, 0, 0, 0, 0), (.iconst 1, 0, 0, 0, 0, (1 : Int32), 0)] (pc' := 61) (ls' := [(0, .inr (.inr x0)), (1, .inl x1)]) (st' := [.inl (1 : Int32), .inr (.inr x0)]) (m2 := m) (by decide +kernel) rfl trivial ?_
    obtain ⟨t10, w9, H⟩ := jb_ok H
    refine jS.step (c' := (64, [(0, .inr (.inr x0)), (1, .inl x1)], [.inl t10], m)) (jSt.callV (c := 9) (As := [.inl (1 : Int32)]) (rest := []) O (ec_X9_rowsOfAll (d := 3) O (Nat.le_refl _) w9) w8 (by decide) rfl (by omega) jmw_X9_rowsOfAll jmv_X9_rowsOfAll jmn_X9_rowsOfAll (idx := 330) (jW_of 1315 (by decide +kernel) rfl) (Nat.le_of_ble_eq_true rfl) (by decide +kernel)) ?_
    replace H := Option.some.inj H
    subst H
    exact jS.iret rfl (by decide +kernel)
  replace H := jif_f c7 H
  by_cases c11 : x1 = (3 : Int32)
  · replace H := jif_t c11 H
    refine jS.tswIn (dflt := 92) (lo := 0) (hi := 7) (offs := #[47, 52, 58, 64, 69, 77, 82, 87]) (off := 64) c11 (len := 47) (tgt := 65) (by decide +kernel) (by decide) (by decide) rfl (by decide) ?_
    obtain ⟨w12, H⟩ := jgd_ok H
    refine jS.adv O [(.aload_n 0, 0, 0, 0, 0, 0, 0), (.getfield 73, 0, 9, 12, 590, 0, 0)] (pc' := 69) (ls' := [(0, .inr (.inr x0)), (1, .inl x1)]) (st' := [.inl (jI m x0 12)]) (m2 := m) (by decide +kernel) rfl ⟨w12, trivial⟩ ?_
    replace H := Option.some.inj H
    subst H
    exact jS.iret rfl (by decide +kernel)
  replace H := jif_f c11 H
  by_cases c13 : x1 = (4 : Int32)
  · replace H := jif_t c13 H
    refine jS.tswIn (dflt := 92) (lo := 0) (hi := 7) (offs := #[47, 52, 58, 64, 69, 77, 82, 87]) (off := 69) c13 (len := 47) (tgt := 70) (by decide +kernel) (by decide) (by decide) rfl (by decide) ?_
    obtain ⟨w14, H⟩ := jgd_ok H
    obtain ⟨w15, H⟩ := jgd_ok H
    refine jS.adv O [(.aload_n 0, 0, 0, 0, 0, 0, 0), (.getfield 30, 0, 9, 3, 581, 0, 0), (.getfield 203, 0, 3, 2, 285, 0, 0)] (pc' := 77) (ls' := [(0, .inr (.inr x0)), (1, .inl x1)]) (st' := [.inl (jI m (jP m x0 3) 2)]) (m2 := m) (by decide +kernel) rfl ⟨w14, w15, trivial⟩ ?_
    replace H := Option.some.inj H
    subst H
    exact jS.iret rfl (by decide +kernel)
  replace H := jif_f c13 H
  by_cases c16 : x1 = (5 : Int32)
  · replace H := jif_t c16 H
    refine jS.tswIn (dflt := 92) (lo := 0) (hi := 7) (offs := #[47, 52, 58, 64, 69, 77, 82, 87]) (off := 77) c16 (len := 47) (tgt := 78) (by decide +kernel) (by decide) (by decide) rfl (by decide) ?_
    obtain ⟨w17, H⟩ := jgd_ok H
    refine jS.adv O [(.aload_n 0, 0, 0, 0, 0, 0, 0), (.getfield 79, 0, 9, 14, 592, 0, 0)] (pc' := 82) (ls' := [(0, .inr (.inr x0)), (1, .inl x1)]) (st' := [.inl (jI m x0 14)]) (m2 := m) (by decide +kernel) rfl ⟨w17, trivial⟩ ?_
    replace H := Option.some.inj H
    subst H
    exact jS.iret rfl (by decide +kernel)
  replace H := jif_f c16 H
  by_cases c18 : x1 = (6 : Int32)
  · replace H := jif_t c18 H
    refine jS.tswIn (dflt := 92) (lo := 0) (hi := 7) (offs := #[47, 52, 58, 64, 69, 77, 82, 87]) (off := 82) c18 (len := 47) (tgt := 83) (by decide +kernel) (by decide) (by decide) rfl (by decide) ?_
    obtain ⟨w19, H⟩ := jgd_ok H
    refine jS.adv O [(.aload_n 0, 0, 0, 0, 0, 0, 0), (.getfield 82, 0, 9, 15, 593, 0, 0)] (pc' := 87) (ls' := [(0, .inr (.inr x0)), (1, .inl x1)]) (st' := [.inl (jI m x0 15)]) (m2 := m) (by decide +kernel) rfl ⟨w19, trivial⟩ ?_
    replace H := Option.some.inj H
    subst H
    exact jS.iret rfl (by decide +kernel)
  replace H := jif_f c18 H
  by_cases c20 : x1 = (7 : Int32)
  · replace H := jif_t c20 H
    refine jS.tswIn (dflt := 92) (lo := 0) (hi := 7) (offs := #[47, 52, 58, 64, 69, 77, 82, 87]) (off := 87) c20 (len := 47) (tgt := 88) (by decide +kernel) (by decide) (by decide) rfl (by decide) ?_
    obtain ⟨w21, H⟩ := jgd_ok H
    refine jS.adv O [(.aload_n 0, 0, 0, 0, 0, 0, 0), (.getfield 76, 0, 9, 13, 591, 0, 0)] (pc' := 92) (ls' := [(0, .inr (.inr x0)), (1, .inl x1)]) (st' := [.inl (jI m x0 13)]) (m2 := m) (by decide +kernel) rfl ⟨w21, trivial⟩ ?_
    replace H := Option.some.inj H
    subst H
    exact jS.iret rfl (by decide +kernel)
  replace H := jif_f c20 H
  refine jS.tswOut (dflt := 92) (lo := 0) (hi := 7) (offs := #[47, 52, 58, 64, 69, 77, 82, 87]) (by have q := jsw_out (x := x1) (vs := [(0 : Int32), (1 : Int32), (2 : Int32), (3 : Int32), (4 : Int32), (5 : Int32), (6 : Int32), (7 : Int32)]) (lo := 0) (n := 8) (by decide) (List.forall_mem_cons.mpr ⟨c1, List.forall_mem_cons.mpr ⟨c3, List.forall_mem_cons.mpr ⟨c7, List.forall_mem_cons.mpr ⟨c11, List.forall_mem_cons.mpr ⟨c13, List.forall_mem_cons.mpr ⟨c16, List.forall_mem_cons.mpr ⟨c18, List.forall_mem_cons.mpr ⟨c20, List.forall_mem_nil _⟩⟩⟩⟩⟩⟩⟩⟩); first | exact q | omega) (len := 47) (tgt := 93) (by decide +kernel) (by decide) ?_
  refine jS.adv O [(.bipush (-2), 0, 0, 0, 0, (-2 : Int32), 0)] (pc' := 95) (ls' := [(0, .inr (.inr x0)), (1, .inl x1)]) (st' := [.inl (-2 : Int32)]) (m2 := m) (by decide +kernel) rfl trivial ?_
  replace H := Option.some.inj H
  subst H
  exact jS.iret rfl (by decide +kernel)
def c_X9_sheet (F : Nat) (m : jMe) (x0 : Nat) (x1 : Int32) (x2 : Int32) (x3 : Int32) : Option (Int32 × jMe) :=
  jb (c_X9_isSheet F m x1) fun t2 => (if t2 = 0 then some ((-2 : Int32), m) else (if x2 < (-1 : Int32) then some ((-2 : Int32), m) else (if x2 ≤ (2 : Int32) then (if x2 = (-1 : Int32) then jgd (jK m x0 = 41) <| jgd (jK m (jP m x0 2) = 7) <| jgd (jin x1 (jZ m (jP m x0 2)) = true) <| jgd (jK m (jP m (jP m x0 2) x1.toNatClampNeg) = 37) <| jb (c_X5_become F m (jP m (jP m x0 2) x1.toNatClampNeg) (-1 : Int32) (0 : Int32)) fun t20 => some ((1 : Int32), t20) else (if x3 ≤ (40 : Int32) then (if 0 ≤ x3 then jgd (jK m x0 = 41) <| jgd (jK m (jP m x0 2) = 7) <| jgd (jin x1 (jZ m (jP m x0 2)) = true) <| jgd (jK m (jP m (jP m x0 2) x1.toNatClampNeg) = 37) <| jb (c_X5_become F m (jP m (jP m x0 2) x1.toNatClampNeg) x2 x3) fun t14 => some ((1 : Int32), t14) else some ((-14 : Int32), m)) else some ((-2 : Int32), m))) else some ((-2 : Int32), m))))
theorem ec_X9_sheet {X : jX} {l : Launch} {d : Nat} (O : jOk X) (hd : 4 ≤ d) {F : Nat} {m : jMe} {x0 : Nat} {x1 : Int32} {x2 : Int32} {x3 : Int32} {r : Int32 × jMe} (H : c_X9_sheet F m x0 x1 x2 x3 = some r) : jH X l d jm_X9_sheet [.inr (.inr x0), .inl x1, .inl x2, .inl x3] m (some (.inl r.1)) r.2 := by
  refine jH.of jpl_RX9 rfl (Nat.le_of_ble_eq_true rfl) ?_
  show jS X l d jm_X9_sheet m _ _ (0, [(0, .inr (.inr x0)), (1, .inl x1), (2, .inl x2), (3, .inl x3)], [], m)
  unfold c_X9_sheet at H
  refine jS.adv O [(.iload_n 1, 0, 0, 0, 0, 0, 0)] (pc' := 1) (ls' := [(0, .inr (.inr x0)), (1, .inl x1), (2, .inl x2), (3, .inl x3)]) (st' := [.inl x1]) (m2 := m) (by decide +kernel) rfl trivial ?_
  obtain ⟨t2, w1, H⟩ := jb_ok H
  refine jS.step (c' := (4, [(0, .inr (.inr x0)), (1, .inl x1), (2, .inl x2), (3, .inl x3)], [.inl t2], m)) (jSt.callS (As := [.inl x1]) (rest := []) O (ec_X9_isSheet (d := 2) O (Nat.le_refl _) w1) (by omega) jmw_X9_isSheet jmv_X9_isSheet jmn_X9_isSheet (idx := 278) (jW_of 1242 (by decide +kernel) rfl) (Nat.le_of_ble_eq_true rfl) (by decide +kernel)) ?_
  refine jS.br (i := .ifCond .eq 13) (P := t2 = 0) (rest := []) rfl (by decide +kernel) (tgt := 17) (by decide) (fun c3 => ?_) (fun c3 => ?_)
  · replace H := jif_t c3 H
    refine jS.adv O [(.bipush (-2), 0, 0, 0, 0, (-2 : Int32), 0)] (pc' := 19) (ls' := [(0, .inr (.inr x0)), (1, .inl x1), (2, .inl x2), (3, .inl x3)]) (st' := [.inl (-2 : Int32)]) (m2 := m) (by decide +kernel) rfl trivial ?_
    replace H := Option.some.inj H
    subst H
    exact jS.iret rfl (by decide +kernel)
  · replace H := jif_f c3 H
    refine jS.adv O [(.iload_n 2, 0, 0, 0, 0, 0, 0), (.iconst (-1), 0, 0, 0, 0, (-1 : Int32), 0)] (pc' := 9) (ls' := [(0, .inr (.inr x0)), (1, .inl x1), (2, .inl x2), (3, .inl x3)]) (st' := [.inl (-1 : Int32), .inl x2]) (m2 := m) (by decide +kernel) rfl trivial ?_
    refine jS.br (i := .if_icmp .lt 8) (P := x2 < (-1 : Int32)) (rest := []) rfl (by decide +kernel) (tgt := 17) (by decide) (fun c4 => ?_) (fun c4 => ?_)
    · replace H := jif_t c4 H
      refine jS.adv O [(.bipush (-2), 0, 0, 0, 0, (-2 : Int32), 0)] (pc' := 19) (ls' := [(0, .inr (.inr x0)), (1, .inl x1), (2, .inl x2), (3, .inl x3)]) (st' := [.inl (-2 : Int32)]) (m2 := m) (by decide +kernel) rfl trivial ?_
      replace H := Option.some.inj H
      subst H
      exact jS.iret rfl (by decide +kernel)
    · replace H := jif_f c4 H
      refine jS.adv O [(.iload_n 2, 0, 0, 0, 0, 0, 0), (.iconst 2, 0, 0, 0, 0, (2 : Int32), 0)] (pc' := 14) (ls' := [(0, .inr (.inr x0)), (1, .inl x1), (2, .inl x2), (3, .inl x3)]) (st' := [.inl (2 : Int32), .inl x2]) (m2 := m) (by decide +kernel) rfl trivial ?_
      refine jS.br (i := .if_icmp .le 6) (P := x2 ≤ (2 : Int32)) (rest := []) rfl (by decide +kernel) (tgt := 20) (by decide) (fun c5 => ?_) (fun c5 => ?_)
      · replace H := jif_t c5 H
        refine jS.adv O [(.iload_n 2, 0, 0, 0, 0, 0, 0), (.iconst (-1), 0, 0, 0, 0, (-1 : Int32), 0)] (pc' := 22) (ls' := [(0, .inr (.inr x0)), (1, .inl x1), (2, .inl x2), (3, .inl x3)]) (st' := [.inl (-1 : Int32), .inl x2]) (m2 := m) (by decide +kernel) rfl trivial ?_
        refine jS.br (i := .if_icmp .ne 16) (P := ¬ x2 = (-1 : Int32)) (rest := []) rfl (by decide +kernel) (tgt := 38) (by decide) (fun c6 => ?_) (fun c6 => ?_)
        · replace H := jif_f c6 H
          refine jS.adv O [(.iload_n 3, 0, 0, 0, 0, 0, 0), (.bipush 40, 0, 0, 0, 0, (40 : Int32), 0)] (pc' := 41) (ls' := [(0, .inr (.inr x0)), (1, .inl x1), (2, .inl x2), (3, .inl x3)]) (st' := [.inl (40 : Int32), .inl x3]) (m2 := m) (by decide +kernel) rfl trivial ?_
          refine jS.br (i := .if_icmp .le 6) (P := x3 ≤ (40 : Int32)) (rest := []) rfl (by decide +kernel) (tgt := 47) (by decide) (fun c7 => ?_) (fun c7 => ?_)
          · replace H := jif_t c7 H
            refine jS.adv O [(.iload_n 3, 0, 0, 0, 0, 0, 0)] (pc' := 48) (ls' := [(0, .inr (.inr x0)), (1, .inl x1), (2, .inl x2), (3, .inl x3)]) (st' := [.inl x3]) (m2 := m) (by decide +kernel) rfl trivial ?_
            refine jS.br (i := .ifCond .ge 6) (P := 0 ≤ x3) (rest := []) rfl (by decide +kernel) (tgt := 54) (by decide) (fun c8 => ?_) (fun c8 => ?_)
            · replace H := jif_t c8 H
              obtain ⟨w9, H⟩ := jgd_ok H
              obtain ⟨w10, H⟩ := jgd_ok H
              obtain ⟨w11, H⟩ := jgd_ok H
              obtain ⟨w12, H⟩ := jgd_ok H
              refine jS.adv O [(.aload_n 0, 0, 0, 0, 0, 0, 0), (.getfield 23, 0, 9, 2, 580, 0, 0), (.iload_n 1, 0, 0, 0, 0, 0, 0), (.aaload, 0, 7, 0, 0, 0, 0), (.iload_n 2, 0, 0, 0, 0, 0, 0), (.iload_n 3, 0, 0, 0, 0, 0, 0)] (pc' := 62) (ls' := [(0, .inr (.inr x0)), (1, .inl x1), (2, .inl x2), (3, .inl x3)]) (st' := [.inl x3, .inl x2, .inr (.inr (jP m (jP m x0 2) x1.toNatClampNeg))]) (m2 := m) (by decide +kernel) rfl ⟨w9, ⟨w10, jib_ok w11⟩, trivial⟩ ?_
              obtain ⟨t14, w13, H⟩ := jb_ok H
              refine jS.step (c' := (65, [(0, .inr (.inr x0)), (1, .inl x1), (2, .inl x2), (3, .inl x3)], [], t14)) (jSt.callV (c := 5) (As := [.inl x2, .inl x3]) (rest := []) O (ec_X5_become (d := 3) O (Nat.le_refl _) w13) w12 (by decide) rfl (by omega) jmw_X5_become jmv_X5_become jmn_X5_become (idx := 309) (jW_of 1285 (by decide +kernel) rfl) (Nat.le_of_ble_eq_true rfl) (by decide +kernel)) ?_
              refine jS.adv O [(.iconst 1, 0, 0, 0, 0, (1 : Int32), 0)] (pc' := 66) (ls' := [(0, .inr (.inr x0)), (1, .inl x1), (2, .inl x2), (3, .inl x3)]) (st' := [.inl (1 : Int32)]) (m2 := t14) (by decide +kernel) rfl trivial ?_
              replace H := Option.some.inj H
              subst H
              exact jS.iret rfl (by decide +kernel)
            · replace H := jif_f c8 H
              refine jS.adv O [(.bipush (-14), 0, 0, 0, 0, (-14 : Int32), 0)] (pc' := 53) (ls' := [(0, .inr (.inr x0)), (1, .inl x1), (2, .inl x2), (3, .inl x3)]) (st' := [.inl (-14 : Int32)]) (m2 := m) (by decide +kernel) rfl trivial ?_
              replace H := Option.some.inj H
              subst H
              exact jS.iret rfl (by decide +kernel)
          · replace H := jif_f c7 H
            refine jS.adv O [(.bipush (-2), 0, 0, 0, 0, (-2 : Int32), 0)] (pc' := 46) (ls' := [(0, .inr (.inr x0)), (1, .inl x1), (2, .inl x2), (3, .inl x3)]) (st' := [.inl (-2 : Int32)]) (m2 := m) (by decide +kernel) rfl trivial ?_
            replace H := Option.some.inj H
            subst H
            exact jS.iret rfl (by decide +kernel)
        · replace H := jif_t (Classical.not_not.mp c6) H
          obtain ⟨w15, H⟩ := jgd_ok H
          obtain ⟨w16, H⟩ := jgd_ok H
          obtain ⟨w17, H⟩ := jgd_ok H
          obtain ⟨w18, H⟩ := jgd_ok H
          refine jS.adv O [(.aload_n 0, 0, 0, 0, 0, 0, 0), (.getfield 23, 0, 9, 2, 580, 0, 0), (.iload_n 1, 0, 0, 0, 0, 0, 0), (.aaload, 0, 7, 0, 0, 0, 0), (.iconst (-1), 0, 0, 0, 0, (-1 : Int32), 0), (.iconst 0, 0, 0, 0, 0, (0 : Int32), 0)] (pc' := 33) (ls' := [(0, .inr (.inr x0)), (1, .inl x1), (2, .inl x2), (3, .inl x3)]) (st' := [.inl (0 : Int32), .inl (-1 : Int32), .inr (.inr (jP m (jP m x0 2) x1.toNatClampNeg))]) (m2 := m) (by decide +kernel) rfl ⟨w15, ⟨w16, jib_ok w17⟩, trivial⟩ ?_
          obtain ⟨t20, w19, H⟩ := jb_ok H
          refine jS.step (c' := (36, [(0, .inr (.inr x0)), (1, .inl x1), (2, .inl x2), (3, .inl x3)], [], t20)) (jSt.callV (c := 5) (As := [.inl (-1 : Int32), .inl (0 : Int32)]) (rest := []) O (ec_X5_become (d := 3) O (Nat.le_refl _) w19) w18 (by decide) rfl (by omega) jmw_X5_become jmv_X5_become jmn_X5_become (idx := 309) (jW_of 1285 (by decide +kernel) rfl) (Nat.le_of_ble_eq_true rfl) (by decide +kernel)) ?_
          refine jS.adv O [(.iconst 1, 0, 0, 0, 0, (1 : Int32), 0)] (pc' := 37) (ls' := [(0, .inr (.inr x0)), (1, .inl x1), (2, .inl x2), (3, .inl x3)]) (st' := [.inl (1 : Int32)]) (m2 := t20) (by decide +kernel) rfl trivial ?_
          replace H := Option.some.inj H
          subst H
          exact jS.iret rfl (by decide +kernel)
      · replace H := jif_f c5 H
        refine jS.adv O [(.bipush (-2), 0, 0, 0, 0, (-2 : Int32), 0)] (pc' := 19) (ls' := [(0, .inr (.inr x0)), (1, .inl x1), (2, .inl x2), (3, .inl x3)]) (st' := [.inl (-2 : Int32)]) (m2 := m) (by decide +kernel) rfl trivial ?_
        replace H := Option.some.inj H
        subst H
        exact jS.iret rfl (by decide +kernel)
def c_X9_put (F : Nat) (m : jMe) (x0 : Nat) (x1 : Int32) (x2 : Int32) (x3 : Int64) : Option (Int32 × jMe) :=
  jb (c_X9_isSheet F m x1) fun t2 => (if t2 = 0 then some ((-2 : Int32), m) else jgd (jK m x0 = 41) <| jgd (jK m (jP m x0 2) = 7) <| jgd (jin x1 (jZ m (jP m x0 2)) = true) <| jgd (jK m (jP m (jP m x0 2) x1.toNatClampNeg) = 37) <| (if (jI m (jP m (jP m x0 2) x1.toNatClampNeg) 1) = (-1 : Int32) then some ((-11 : Int32), m) else jgd (jin x1 (jZ m (jP m x0 2)) = true) <| jb (c_X5_has F m (jP m (jP m x0 2) x1.toNatClampNeg) x2) fun t11 => (if t11 = 0 then some ((-12 : Int32), m) else jgd (jin x1 (jZ m (jP m x0 2)) = true) <| jb (c_X5_lay F m (jP m (jP m x0 2) x1.toNatClampNeg) x2 x3) fun t15 => some ((1 : Int32), t15))))
theorem ec_X9_put {X : jX} {l : Launch} {d : Nat} (O : jOk X) (hd : 3 ≤ d) {F : Nat} {m : jMe} {x0 : Nat} {x1 : Int32} {x2 : Int32} {x3 : Int64} {r : Int32 × jMe} (H : c_X9_put F m x0 x1 x2 x3 = some r) : jH X l d jm_X9_put [.inr (.inr x0), .inl x1, .inl x2, .inr (.inl x3)] m (some (.inl r.1)) r.2 := by
  refine jH.of jpl_RX9 rfl (Nat.le_of_ble_eq_true rfl) ?_
  show jS X l d jm_X9_put m _ _ (0, [(0, .inr (.inr x0)), (1, .inl x1), (2, .inl x2), (3, .inr (.inl x3))], [], m)
  unfold c_X9_put at H
  refine jS.adv O [(.iload_n 1, 0, 0, 0, 0, 0, 0)] (pc' := 1) (ls' := [(0, .inr (.inr x0)), (1, .inl x1), (2, .inl x2), (3, .inr (.inl x3))]) (st' := [.inl x1]) (m2 := m) (by decide +kernel) rfl trivial ?_
  obtain ⟨t2, w1, H⟩ := jb_ok H
  refine jS.step (c' := (4, [(0, .inr (.inr x0)), (1, .inl x1), (2, .inl x2), (3, .inr (.inl x3))], [.inl t2], m)) (jSt.callS (As := [.inl x1]) (rest := []) O (ec_X9_isSheet (d := 2) O (Nat.le_refl _) w1) (by omega) jmw_X9_isSheet jmv_X9_isSheet jmn_X9_isSheet (idx := 278) (jW_of 1242 (by decide +kernel) rfl) (Nat.le_of_ble_eq_true rfl) (by decide +kernel)) ?_
  refine jS.br (i := .ifCond .ne 6) (P := ¬ t2 = 0) (rest := []) rfl (by decide +kernel) (tgt := 10) (by decide) (fun c3 => ?_) (fun c3 => ?_)
  · replace H := jif_f c3 H
    obtain ⟨w4, H⟩ := jgd_ok H
    obtain ⟨w5, H⟩ := jgd_ok H
    obtain ⟨w6, H⟩ := jgd_ok H
    obtain ⟨w7, H⟩ := jgd_ok H
    refine jS.adv O [(.aload_n 0, 0, 0, 0, 0, 0, 0), (.getfield 23, 0, 9, 2, 580, 0, 0), (.iload_n 1, 0, 0, 0, 0, 0, 0), (.aaload, 0, 7, 0, 0, 0, 0), (.getfield 281, 0, 5, 1, 537, 0, 0), (.iconst (-1), 0, 0, 0, 0, (-1 : Int32), 0)] (pc' := 20) (ls' := [(0, .inr (.inr x0)), (1, .inl x1), (2, .inl x2), (3, .inr (.inl x3))]) (st' := [.inl (-1 : Int32), .inl (jI m (jP m (jP m x0 2) x1.toNatClampNeg) 1)]) (m2 := m) (by decide +kernel) rfl ⟨w4, ⟨w5, jib_ok w6⟩, w7, trivial⟩ ?_
    refine jS.br (i := .if_icmp .ne 6) (P := ¬ (jI m (jP m (jP m x0 2) x1.toNatClampNeg) 1) = (-1 : Int32)) (rest := []) rfl (by decide +kernel) (tgt := 26) (by decide) (fun c8 => ?_) (fun c8 => ?_)
    · replace H := jif_f c8 H
      obtain ⟨w9, H⟩ := jgd_ok H
      refine jS.adv O [(.aload_n 0, 0, 0, 0, 0, 0, 0), (.getfield 23, 0, 9, 2, 580, 0, 0), (.iload_n 1, 0, 0, 0, 0, 0, 0), (.aaload, 0, 7, 0, 0, 0, 0), (.iload_n 2, 0, 0, 0, 0, 0, 0)] (pc' := 33) (ls' := [(0, .inr (.inr x0)), (1, .inl x1), (2, .inl x2), (3, .inr (.inl x3))]) (st' := [.inl x2, .inr (.inr (jP m (jP m x0 2) x1.toNatClampNeg))]) (m2 := m) (by decide +kernel) rfl ⟨w4, ⟨w5, jib_ok w9⟩, trivial⟩ ?_
      obtain ⟨t11, w10, H⟩ := jb_ok H
      refine jS.step (c' := (36, [(0, .inr (.inr x0)), (1, .inl x1), (2, .inl x2), (3, .inr (.inl x3))], [.inl t11], m)) (jSt.callV (c := 5) (As := [.inl x2]) (rest := []) O (ec_X5_has (d := 2) O (Nat.le_refl _) w10) w7 (by decide) rfl (by omega) jmw_X5_has jmv_X5_has jmn_X5_has (idx := 334) (jW_of 1327 (by decide +kernel) rfl) (Nat.le_of_ble_eq_true rfl) (by decide +kernel)) ?_
      refine jS.br (i := .ifCond .ne 6) (P := ¬ t11 = 0) (rest := []) rfl (by decide +kernel) (tgt := 42) (by decide) (fun c12 => ?_) (fun c12 => ?_)
      · replace H := jif_f c12 H
        obtain ⟨w13, H⟩ := jgd_ok H
        refine jS.adv O [(.aload_n 0, 0, 0, 0, 0, 0, 0), (.getfield 23, 0, 9, 2, 580, 0, 0), (.iload_n 1, 0, 0, 0, 0, 0, 0), (.aaload, 0, 7, 0, 0, 0, 0), (.iload_n 2, 0, 0, 0, 0, 0, 0), (.lload_n 3, 0, 0, 0, 0, 0, 0)] (pc' := 50) (ls' := [(0, .inr (.inr x0)), (1, .inl x1), (2, .inl x2), (3, .inr (.inl x3))]) (st' := [.inr (.inl x3), .inl x2, .inr (.inr (jP m (jP m x0 2) x1.toNatClampNeg))]) (m2 := m) (by decide +kernel) rfl ⟨w4, ⟨w5, jib_ok w13⟩, trivial⟩ ?_
        obtain ⟨t15, w14, H⟩ := jb_ok H
        refine jS.step (c' := (53, [(0, .inr (.inr x0)), (1, .inl x1), (2, .inl x2), (3, .inr (.inl x3))], [], t15)) (jSt.callV (c := 5) (As := [.inl x2, .inr (.inl x3)]) (rest := []) O (ec_X5_lay (d := 2) O (Nat.le_refl _) w14) w7 (by decide) rfl (by omega) jmw_X5_lay jmv_X5_lay jmn_X5_lay (idx := 312) (jW_of 1290 (by decide +kernel) rfl) (Nat.le_of_ble_eq_true rfl) (by decide +kernel)) ?_
        refine jS.adv O [(.iconst 1, 0, 0, 0, 0, (1 : Int32), 0)] (pc' := 54) (ls' := [(0, .inr (.inr x0)), (1, .inl x1), (2, .inl x2), (3, .inr (.inl x3))]) (st' := [.inl (1 : Int32)]) (m2 := t15) (by decide +kernel) rfl trivial ?_
        replace H := Option.some.inj H
        subst H
        exact jS.iret rfl (by decide +kernel)
      · replace H := jif_t (Classical.not_not.mp c12) H
        refine jS.adv O [(.bipush (-12), 0, 0, 0, 0, (-12 : Int32), 0)] (pc' := 41) (ls' := [(0, .inr (.inr x0)), (1, .inl x1), (2, .inl x2), (3, .inr (.inl x3))]) (st' := [.inl (-12 : Int32)]) (m2 := m) (by decide +kernel) rfl trivial ?_
        replace H := Option.some.inj H
        subst H
        exact jS.iret rfl (by decide +kernel)
    · replace H := jif_t (Classical.not_not.mp c8) H
      refine jS.adv O [(.bipush (-11), 0, 0, 0, 0, (-11 : Int32), 0)] (pc' := 25) (ls' := [(0, .inr (.inr x0)), (1, .inl x1), (2, .inl x2), (3, .inr (.inl x3))]) (st' := [.inl (-11 : Int32)]) (m2 := m) (by decide +kernel) rfl trivial ?_
      replace H := Option.some.inj H
      subst H
      exact jS.iret rfl (by decide +kernel)
  · replace H := jif_t (Classical.not_not.mp c3) H
    refine jS.adv O [(.bipush (-2), 0, 0, 0, 0, (-2 : Int32), 0)] (pc' := 9) (ls' := [(0, .inr (.inr x0)), (1, .inl x1), (2, .inl x2), (3, .inr (.inl x3))]) (st' := [.inl (-2 : Int32)]) (m2 := m) (by decide +kernel) rfl trivial ?_
    replace H := Option.some.inj H
    subst H
    exact jS.iret rfl (by decide +kernel)
def c_X9_item (F : Nat) (m : jMe) (x0 : Nat) (x1 : Int32) (x2 : Int32) : Option (Int64) :=
  jb (c_X9_isSheet F m x1) fun t2 => (if t2 = 0 then some (-4611686018427387904 : Int64) else jgd (jK m x0 = 41) <| jgd (jK m (jP m x0 2) = 7) <| jgd (jin x1 (jZ m (jP m x0 2)) = true) <| jgd (jK m (jP m (jP m x0 2) x1.toNatClampNeg) = 37) <| jb (c_X5_has F m (jP m (jP m x0 2) x1.toNatClampNeg) x2) fun t9 => (if t9 = 0 then some (-4611686018427387904 : Int64) else jgd (jin x1 (jZ m (jP m x0 2)) = true) <| jgd (jK m (jP m (jP m (jP m x0 2) x1.toNatClampNeg) 0) = 2) <| jgd (jin x2 (jZ m (jP m (jP m (jP m x0 2) x1.toNatClampNeg) 0)) = true) <| some (jL m (jP m (jP m (jP m x0 2) x1.toNatClampNeg) 0) x2.toNatClampNeg)))
theorem ec_X9_item {X : jX} {l : Launch} {d : Nat} (O : jOk X) (hd : 3 ≤ d) {F : Nat} {m : jMe} {x0 : Nat} {x1 : Int32} {x2 : Int32} {r : Int64} (H : c_X9_item F m x0 x1 x2 = some r) : jH X l d jm_X9_item [.inr (.inr x0), .inl x1, .inl x2] m (some (.inr (.inl r))) m := by
  refine jH.of jpl_RX9 rfl (Nat.le_of_ble_eq_true rfl) ?_
  show jS X l d jm_X9_item m _ _ (0, [(0, .inr (.inr x0)), (1, .inl x1), (2, .inl x2)], [], m)
  unfold c_X9_item at H
  refine jS.adv O [(.iload_n 1, 0, 0, 0, 0, 0, 0)] (pc' := 1) (ls' := [(0, .inr (.inr x0)), (1, .inl x1), (2, .inl x2)]) (st' := [.inl x1]) (m2 := m) (by decide +kernel) rfl trivial ?_
  obtain ⟨t2, w1, H⟩ := jb_ok H
  refine jS.step (c' := (4, [(0, .inr (.inr x0)), (1, .inl x1), (2, .inl x2)], [.inl t2], m)) (jSt.callS (As := [.inl x1]) (rest := []) O (ec_X9_isSheet (d := 2) O (Nat.le_refl _) w1) (by omega) jmw_X9_isSheet jmv_X9_isSheet jmn_X9_isSheet (idx := 278) (jW_of 1242 (by decide +kernel) rfl) (Nat.le_of_ble_eq_true rfl) (by decide +kernel)) ?_
  refine jS.br (i := .ifCond .eq 30) (P := t2 = 0) (rest := []) rfl (by decide +kernel) (tgt := 34) (by decide) (fun c3 => ?_) (fun c3 => ?_)
  · replace H := jif_t c3 H
    refine jS.adv O [(.ldc2_w 154, 0, 757, 0, 0, 0, (-4611686018427387904 : Int64))] (pc' := 37) (ls' := [(0, .inr (.inr x0)), (1, .inl x1), (2, .inl x2)]) (st' := [.inr (.inl (-4611686018427387904 : Int64))]) (m2 := m) (by decide +kernel) rfl trivial ?_
    replace H := Option.some.inj H
    subst H
    exact jS.lret rfl (by decide +kernel)
  · replace H := jif_f c3 H
    obtain ⟨w4, H⟩ := jgd_ok H
    obtain ⟨w5, H⟩ := jgd_ok H
    obtain ⟨w6, H⟩ := jgd_ok H
    obtain ⟨w7, H⟩ := jgd_ok H
    refine jS.adv O [(.aload_n 0, 0, 0, 0, 0, 0, 0), (.getfield 23, 0, 9, 2, 580, 0, 0), (.iload_n 1, 0, 0, 0, 0, 0, 0), (.aaload, 0, 7, 0, 0, 0, 0), (.iload_n 2, 0, 0, 0, 0, 0, 0)] (pc' := 14) (ls' := [(0, .inr (.inr x0)), (1, .inl x1), (2, .inl x2)]) (st' := [.inl x2, .inr (.inr (jP m (jP m x0 2) x1.toNatClampNeg))]) (m2 := m) (by decide +kernel) rfl ⟨w4, ⟨w5, jib_ok w6⟩, trivial⟩ ?_
    obtain ⟨t9, w8, H⟩ := jb_ok H
    refine jS.step (c' := (17, [(0, .inr (.inr x0)), (1, .inl x1), (2, .inl x2)], [.inl t9], m)) (jSt.callV (c := 5) (As := [.inl x2]) (rest := []) O (ec_X5_has (d := 2) O (Nat.le_refl _) w8) w7 (by decide) rfl (by omega) jmw_X5_has jmv_X5_has jmn_X5_has (idx := 334) (jW_of 1327 (by decide +kernel) rfl) (Nat.le_of_ble_eq_true rfl) (by decide +kernel)) ?_
    refine jS.br (i := .ifCond .eq 17) (P := t9 = 0) (rest := []) rfl (by decide +kernel) (tgt := 34) (by decide) (fun c10 => ?_) (fun c10 => ?_)
    · replace H := jif_t c10 H
      refine jS.adv O [(.ldc2_w 154, 0, 757, 0, 0, 0, (-4611686018427387904 : Int64))] (pc' := 37) (ls' := [(0, .inr (.inr x0)), (1, .inl x1), (2, .inl x2)]) (st' := [.inr (.inl (-4611686018427387904 : Int64))]) (m2 := m) (by decide +kernel) rfl trivial ?_
      replace H := Option.some.inj H
      subst H
      exact jS.lret rfl (by decide +kernel)
    · replace H := jif_f c10 H
      obtain ⟨w11, H⟩ := jgd_ok H
      obtain ⟨w12, H⟩ := jgd_ok H
      obtain ⟨w13, H⟩ := jgd_ok H
      refine jS.adv O [(.aload_n 0, 0, 0, 0, 0, 0, 0), (.getfield 23, 0, 9, 2, 580, 0, 0), (.iload_n 1, 0, 0, 0, 0, 0, 0), (.aaload, 0, 7, 0, 0, 0, 0), (.getfield 285, 0, 5, 0, 535, 0, 0), (.iload_n 2, 0, 0, 0, 0, 0, 0), (.laload, 0, 0, 0, 0, 0, 0), (.goto 6, 0, 37, 0, 0, 0, 0)] (pc' := 37) (ls' := [(0, .inr (.inr x0)), (1, .inl x1), (2, .inl x2)]) (st' := [.inr (.inl (jL m (jP m (jP m (jP m x0 2) x1.toNatClampNeg) 0) x2.toNatClampNeg))]) (m2 := m) (by decide +kernel) rfl ⟨w4, ⟨w5, jib_ok w11⟩, w7, ⟨w12, jib_ok w13⟩, trivial⟩ ?_
      replace H := Option.some.inj H
      subst H
      exact jS.lret rfl (by decide +kernel)
def c_X9_copy (F : Nat) (m : jMe) (x0 : Nat) (x1 : Int32) (x2 : Int32) (x3 : Int32) (x4 : Int32) (x5 : Int32) : Option (Int32 × jMe) :=
  jb (c_X9_isSheet F m x1) fun t2 => (if t2 = 0 then some ((-2 : Int32), m) else jb (c_X9_isSheet F m x3) fun t5 => (if t5 = 0 then some ((-2 : Int32), m) else jgd (jK m x0 = 41) <| jgd (jK m (jP m x0 2) = 7) <| jgd (jin x1 (jZ m (jP m x0 2)) = true) <| jgd (jin x3 (jZ m (jP m x0 2)) = true) <| jgd (jK m (jP m (jP m x0 2) x1.toNatClampNeg) = 37) <| (if (jI m (jP m (jP m x0 2) x1.toNatClampNeg) 1) = (-1 : Int32) then some ((-11 : Int32), m) else jgd (jK m (jP m (jP m x0 2) x3.toNatClampNeg) = 37) <| (if (jI m (jP m (jP m x0 2) x3.toNatClampNeg) 1) = (-1 : Int32) then some ((-11 : Int32), m) else (if (jI m (jP m (jP m x0 2) x1.toNatClampNeg) 1) = (jI m (jP m (jP m x0 2) x3.toNatClampNeg) 1) then jb (c_X5_hasRun F m (jP m (jP m x0 2) x1.toNatClampNeg) x2 x5) fun t17 => (if t17 = 0 then some ((-12 : Int32), m) else jb (c_X5_hasRun F m (jP m (jP m x0 2) x3.toNatClampNeg) x4 x5) fun t20 => (if t20 = 0 then some ((-12 : Int32), m) else jgd (jK m (jP m (jP m (jP m x0 2) x1.toNatClampNeg) 0) = 2) <| jgd (jK m (jP m (jP m (jP m x0 2) x3.toNatClampNeg) 0) = 2) <| jgd (¬ x2 < 0) <| jgd (¬ x4 < 0) <| jgd (¬ x5 < 0) <| jgd (x2.toNatClampNeg + x5.toNatClampNeg ≤ jZ m (jP m (jP m (jP m x0 2) x1.toNatClampNeg) 0)) <| jgd (x4.toNatClampNeg + x5.toNatClampNeg ≤ jZ m (jP m (jP m (jP m x0 2) x3.toNatClampNeg) 0)) <| some (x5, (jcpL m (jP m (jP m (jP m x0 2) x1.toNatClampNeg) 0) x2.toNatClampNeg (jP m (jP m (jP m x0 2) x3.toNatClampNeg) 0) x4.toNatClampNeg x5.toNatClampNeg)))) else some ((-13 : Int32), m))))))
theorem ec_X9_copy {X : jX} {l : Launch} {d : Nat} (O : jOk X) (hd : 3 ≤ d) {F : Nat} {m : jMe} {x0 : Nat} {x1 : Int32} {x2 : Int32} {x3 : Int32} {x4 : Int32} {x5 : Int32} {r : Int32 × jMe} (H : c_X9_copy F m x0 x1 x2 x3 x4 x5 = some r) : jH X l d jm_X9_copy [.inr (.inr x0), .inl x1, .inl x2, .inl x3, .inl x4, .inl x5] m (some (.inl r.1)) r.2 := by
  refine jH.of jpl_RX9 rfl (Nat.le_of_ble_eq_true rfl) ?_
  show jS X l d jm_X9_copy m _ _ (0, [(0, .inr (.inr x0)), (1, .inl x1), (2, .inl x2), (3, .inl x3), (4, .inl x4), (5, .inl x5)], [], m)
  unfold c_X9_copy at H
  refine jS.adv O [(.iload_n 1, 0, 0, 0, 0, 0, 0)] (pc' := 1) (ls' := [(0, .inr (.inr x0)), (1, .inl x1), (2, .inl x2), (3, .inl x3), (4, .inl x4), (5, .inl x5)]) (st' := [.inl x1]) (m2 := m) (by decide +kernel) rfl trivial ?_
  obtain ⟨t2, w1, H⟩ := jb_ok H
  refine jS.step (c' := (4, [(0, .inr (.inr x0)), (1, .inl x1), (2, .inl x2), (3, .inl x3), (4, .inl x4), (5, .inl x5)], [.inl t2], m)) (jSt.callS (As := [.inl x1]) (rest := []) O (ec_X9_isSheet (d := 2) O (Nat.le_refl _) w1) (by omega) jmw_X9_isSheet jmv_X9_isSheet jmn_X9_isSheet (idx := 278) (jW_of 1242 (by decide +kernel) rfl) (Nat.le_of_ble_eq_true rfl) (by decide +kernel)) ?_
  refine jS.br (i := .ifCond .eq 10) (P := t2 = 0) (rest := []) rfl (by decide +kernel) (tgt := 14) (by decide) (fun c3 => ?_) (fun c3 => ?_)
  · replace H := jif_t c3 H
    refine jS.adv O [(.bipush (-2), 0, 0, 0, 0, (-2 : Int32), 0)] (pc' := 16) (ls' := [(0, .inr (.inr x0)), (1, .inl x1), (2, .inl x2), (3, .inl x3), (4, .inl x4), (5, .inl x5)]) (st' := [.inl (-2 : Int32)]) (m2 := m) (by decide +kernel) rfl trivial ?_
    replace H := Option.some.inj H
    subst H
    exact jS.iret rfl (by decide +kernel)
  · replace H := jif_f c3 H
    refine jS.adv O [(.iload_n 3, 0, 0, 0, 0, 0, 0)] (pc' := 8) (ls' := [(0, .inr (.inr x0)), (1, .inl x1), (2, .inl x2), (3, .inl x3), (4, .inl x4), (5, .inl x5)]) (st' := [.inl x3]) (m2 := m) (by decide +kernel) rfl trivial ?_
    obtain ⟨t5, w4, H⟩ := jb_ok H
    refine jS.step (c' := (11, [(0, .inr (.inr x0)), (1, .inl x1), (2, .inl x2), (3, .inl x3), (4, .inl x4), (5, .inl x5)], [.inl t5], m)) (jSt.callS (As := [.inl x3]) (rest := []) O (ec_X9_isSheet (d := 2) O (Nat.le_refl _) w4) (by omega) jmw_X9_isSheet jmv_X9_isSheet jmn_X9_isSheet (idx := 278) (jW_of 1242 (by decide +kernel) rfl) (Nat.le_of_ble_eq_true rfl) (by decide +kernel)) ?_
    refine jS.br (i := .ifCond .ne 6) (P := ¬ t5 = 0) (rest := []) rfl (by decide +kernel) (tgt := 17) (by decide) (fun c6 => ?_) (fun c6 => ?_)
    · replace H := jif_f c6 H
      obtain ⟨w7, H⟩ := jgd_ok H
      obtain ⟨w8, H⟩ := jgd_ok H
      obtain ⟨w9, H⟩ := jgd_ok H
      obtain ⟨w10, H⟩ := jgd_ok H
      obtain ⟨w11, H⟩ := jgd_ok H
      refine jS.adv O [(.aload_n 0, 0, 0, 0, 0, 0, 0), (.getfield 23, 0, 9, 2, 580, 0, 0), (.iload_n 1, 0, 0, 0, 0, 0, 0), (.aaload, 0, 7, 0, 0, 0, 0), (.astore 6, 0, 0, 0, 0, 0, 0), (.aload_n 0, 0, 0, 0, 0, 0, 0), (.getfield 23, 0, 9, 2, 580, 0, 0), (.iload_n 3, 0, 0, 0, 0, 0, 0), (.aaload, 0, 7, 0, 0, 0, 0), (.astore 7, 0, 0, 0, 0, 0, 0), (.aload 6, 0, 0, 0, 0, 0, 0), (.getfield 281, 0, 5, 1, 537, 0, 0), (.iconst (-1), 0, 0, 0, 0, (-1 : Int32), 0)] (pc' := 39) (ls' := [(7, .inr (.inr (jP m (jP m x0 2) x3.toNatClampNeg))), (6, .inr (.inr (jP m (jP m x0 2) x1.toNatClampNeg))), (0, .inr (.inr x0)), (1, .inl x1), (2, .inl x2), (3, .inl x3), (4, .inl x4), (5, .inl x5)]) (st' := [.inl (-1 : Int32), .inl (jI m (jP m (jP m x0 2) x1.toNatClampNeg) 1)]) (m2 := m) (by decide +kernel) rfl ⟨w7, ⟨w8, jib_ok w9⟩, w7, ⟨w8, jib_ok w10⟩, w11, trivial⟩ ?_
      refine jS.br (i := .if_icmp .eq 12) (P := (jI m (jP m (jP m x0 2) x1.toNatClampNeg) 1) = (-1 : Int32)) (rest := []) rfl (by decide +kernel) (tgt := 51) (by decide) (fun c12 => ?_) (fun c12 => ?_)
      · replace H := jif_t c12 H
        refine jS.adv O [(.bipush (-11), 0, 0, 0, 0, (-11 : Int32), 0)] (pc' := 53) (ls' := [(7, .inr (.inr (jP m (jP m x0 2) x3.toNatClampNeg))), (6, .inr (.inr (jP m (jP m x0 2) x1.toNatClampNeg))), (0, .inr (.inr x0)), (1, .inl x1), (2, .inl x2), (3, .inl x3), (4, .inl x4), (5, .inl x5)]) (st' := [.inl (-11 : Int32)]) (m2 := m) (by decide +kernel) rfl trivial ?_
        replace H := Option.some.inj H
        subst H
        exact jS.iret rfl (by decide +kernel)
      · replace H := jif_f c12 H
        obtain ⟨w13, H⟩ := jgd_ok H
        refine jS.adv O [(.aload 7, 0, 0, 0, 0, 0, 0), (.getfield 281, 0, 5, 1, 537, 0, 0), (.iconst (-1), 0, 0, 0, 0, (-1 : Int32), 0)] (pc' := 48) (ls' := [(7, .inr (.inr (jP m (jP m x0 2) x3.toNatClampNeg))), (6, .inr (.inr (jP m (jP m x0 2) x1.toNatClampNeg))), (0, .inr (.inr x0)), (1, .inl x1), (2, .inl x2), (3, .inl x3), (4, .inl x4), (5, .inl x5)]) (st' := [.inl (-1 : Int32), .inl (jI m (jP m (jP m x0 2) x3.toNatClampNeg) 1)]) (m2 := m) (by decide +kernel) rfl ⟨w13, trivial⟩ ?_
        refine jS.br (i := .if_icmp .ne 6) (P := ¬ (jI m (jP m (jP m x0 2) x3.toNatClampNeg) 1) = (-1 : Int32)) (rest := []) rfl (by decide +kernel) (tgt := 54) (by decide) (fun c14 => ?_) (fun c14 => ?_)
        · replace H := jif_f c14 H
          refine jS.adv O [(.aload 6, 0, 0, 0, 0, 0, 0), (.getfield 281, 0, 5, 1, 537, 0, 0), (.aload 7, 0, 0, 0, 0, 0, 0), (.getfield 281, 0, 5, 1, 537, 0, 0)] (pc' := 64) (ls' := [(7, .inr (.inr (jP m (jP m x0 2) x3.toNatClampNeg))), (6, .inr (.inr (jP m (jP m x0 2) x1.toNatClampNeg))), (0, .inr (.inr x0)), (1, .inl x1), (2, .inl x2), (3, .inl x3), (4, .inl x4), (5, .inl x5)]) (st' := [.inl (jI m (jP m (jP m x0 2) x3.toNatClampNeg) 1), .inl (jI m (jP m (jP m x0 2) x1.toNatClampNeg) 1)]) (m2 := m) (by decide +kernel) rfl ⟨w11, w13, trivial⟩ ?_
          refine jS.br (i := .if_icmp .eq 6) (P := (jI m (jP m (jP m x0 2) x1.toNatClampNeg) 1) = (jI m (jP m (jP m x0 2) x3.toNatClampNeg) 1)) (rest := []) rfl (by decide +kernel) (tgt := 70) (by decide) (fun c15 => ?_) (fun c15 => ?_)
          · replace H := jif_t c15 H
            refine jS.adv O [(.aload 6, 0, 0, 0, 0, 0, 0), (.iload_n 2, 0, 0, 0, 0, 0, 0), (.iload 5, 0, 0, 0, 0, 0, 0)] (pc' := 75) (ls' := [(7, .inr (.inr (jP m (jP m x0 2) x3.toNatClampNeg))), (6, .inr (.inr (jP m (jP m x0 2) x1.toNatClampNeg))), (0, .inr (.inr x0)), (1, .inl x1), (2, .inl x2), (3, .inl x3), (4, .inl x4), (5, .inl x5)]) (st' := [.inl x5, .inl x2, .inr (.inr (jP m (jP m x0 2) x1.toNatClampNeg))]) (m2 := m) (by decide +kernel) rfl trivial ?_
            obtain ⟨t17, w16, H⟩ := jb_ok H
            refine jS.step (c' := (78, [(7, .inr (.inr (jP m (jP m x0 2) x3.toNatClampNeg))), (6, .inr (.inr (jP m (jP m x0 2) x1.toNatClampNeg))), (0, .inr (.inr x0)), (1, .inl x1), (2, .inl x2), (3, .inl x3), (4, .inl x4), (5, .inl x5)], [.inl t17], m)) (jSt.callV (c := 5) (As := [.inl x2, .inl x5]) (rest := []) O (ec_X5_hasRun (d := 2) O (Nat.le_refl _) w16) w11 (by decide) rfl (by omega) jmw_X5_hasRun jmv_X5_hasRun jmn_X5_hasRun (idx := 337) (jW_of 1339 (by decide +kernel) rfl) (Nat.le_of_ble_eq_true rfl) (by decide +kernel)) ?_
            refine jS.br (i := .ifCond .eq 15) (P := t17 = 0) (rest := []) rfl (by decide +kernel) (tgt := 93) (by decide) (fun c18 => ?_) (fun c18 => ?_)
            · replace H := jif_t c18 H
              refine jS.adv O [(.bipush (-12), 0, 0, 0, 0, (-12 : Int32), 0)] (pc' := 95) (ls' := [(7, .inr (.inr (jP m (jP m x0 2) x3.toNatClampNeg))), (6, .inr (.inr (jP m (jP m x0 2) x1.toNatClampNeg))), (0, .inr (.inr x0)), (1, .inl x1), (2, .inl x2), (3, .inl x3), (4, .inl x4), (5, .inl x5)]) (st' := [.inl (-12 : Int32)]) (m2 := m) (by decide +kernel) rfl trivial ?_
              replace H := Option.some.inj H
              subst H
              exact jS.iret rfl (by decide +kernel)
            · replace H := jif_f c18 H
              refine jS.adv O [(.aload 7, 0, 0, 0, 0, 0, 0), (.iload 4, 0, 0, 0, 0, 0, 0), (.iload 5, 0, 0, 0, 0, 0, 0)] (pc' := 87) (ls' := [(7, .inr (.inr (jP m (jP m x0 2) x3.toNatClampNeg))), (6, .inr (.inr (jP m (jP m x0 2) x1.toNatClampNeg))), (0, .inr (.inr x0)), (1, .inl x1), (2, .inl x2), (3, .inl x3), (4, .inl x4), (5, .inl x5)]) (st' := [.inl x5, .inl x4, .inr (.inr (jP m (jP m x0 2) x3.toNatClampNeg))]) (m2 := m) (by decide +kernel) rfl trivial ?_
              obtain ⟨t20, w19, H⟩ := jb_ok H
              refine jS.step (c' := (90, [(7, .inr (.inr (jP m (jP m x0 2) x3.toNatClampNeg))), (6, .inr (.inr (jP m (jP m x0 2) x1.toNatClampNeg))), (0, .inr (.inr x0)), (1, .inl x1), (2, .inl x2), (3, .inl x3), (4, .inl x4), (5, .inl x5)], [.inl t20], m)) (jSt.callV (c := 5) (As := [.inl x4, .inl x5]) (rest := []) O (ec_X5_hasRun (d := 2) O (Nat.le_refl _) w19) w13 (by decide) rfl (by omega) jmw_X5_hasRun jmv_X5_hasRun jmn_X5_hasRun (idx := 337) (jW_of 1339 (by decide +kernel) rfl) (Nat.le_of_ble_eq_true rfl) (by decide +kernel)) ?_
              refine jS.br (i := .ifCond .ne 6) (P := ¬ t20 = 0) (rest := []) rfl (by decide +kernel) (tgt := 96) (by decide) (fun c21 => ?_) (fun c21 => ?_)
              · replace H := jif_f c21 H
                obtain ⟨w22, H⟩ := jgd_ok H
                obtain ⟨w23, H⟩ := jgd_ok H
                obtain ⟨w24, H⟩ := jgd_ok H
                obtain ⟨w25, H⟩ := jgd_ok H
                obtain ⟨w26, H⟩ := jgd_ok H
                obtain ⟨w27, H⟩ := jgd_ok H
                obtain ⟨w28, H⟩ := jgd_ok H
                refine jS.adv O [(.aload 6, 0, 0, 0, 0, 0, 0), (.getfield 285, 0, 5, 0, 535, 0, 0), (.iload_n 2, 0, 0, 0, 0, 0, 0), (.aload 7, 0, 0, 0, 0, 0, 0), (.getfield 285, 0, 5, 0, 535, 0, 0), (.iload 4, 0, 0, 0, 0, 0, 0), (.iload 5, 0, 0, 0, 0, 0, 0)] (pc' := 111) (ls' := [(7, .inr (.inr (jP m (jP m x0 2) x3.toNatClampNeg))), (6, .inr (.inr (jP m (jP m x0 2) x1.toNatClampNeg))), (0, .inr (.inr x0)), (1, .inl x1), (2, .inl x2), (3, .inl x3), (4, .inl x4), (5, .inl x5)]) (st' := [.inl x5, .inl x4, .inr (.inr (jP m (jP m (jP m x0 2) x3.toNatClampNeg) 0)), .inl x2, .inr (.inr (jP m (jP m (jP m x0 2) x1.toNatClampNeg) 0))]) (m2 := m) (by decide +kernel) rfl ⟨w11, w13, trivial⟩ ?_
                refine jS.step (c' := (114, [(7, .inr (.inr (jP m (jP m x0 2) x3.toNatClampNeg))), (6, .inr (.inr (jP m (jP m x0 2) x1.toNatClampNeg))), (0, .inr (.inr x0)), (1, .inl x1), (2, .inl x2), (3, .inl x3), (4, .inl x4), (5, .inl x5)], [], (jcpL m (jP m (jP m (jP m x0 2) x1.toNatClampNeg) 0) x2.toNatClampNeg (jP m (jP m (jP m x0 2) x3.toNatClampNeg) 0) x4.toNatClampNeg x5.toNatClampNeg))) (jSt.cpyL (idx := 340) O (by omega) (jW_of 1343 (by decide +kernel) rfl) jnat_cpy (jW_of 569 (by decide +kernel) rfl) (jW_of 253 (by decide +kernel) rfl) w22 w23 w24 w25 w26 w27 w28 (Nat.le_of_ble_eq_true rfl) (by decide +kernel)) ?_
                refine jS.adv O [(.iload 5, 0, 0, 0, 0, 0, 0)] (pc' := 116) (ls' := [(7, .inr (.inr (jP m (jP m x0 2) x3.toNatClampNeg))), (6, .inr (.inr (jP m (jP m x0 2) x1.toNatClampNeg))), (0, .inr (.inr x0)), (1, .inl x1), (2, .inl x2), (3, .inl x3), (4, .inl x4), (5, .inl x5)]) (st' := [.inl x5]) (m2 := (jcpL m (jP m (jP m (jP m x0 2) x1.toNatClampNeg) 0) x2.toNatClampNeg (jP m (jP m (jP m x0 2) x3.toNatClampNeg) 0) x4.toNatClampNeg x5.toNatClampNeg)) (by decide +kernel) rfl trivial ?_
                replace H := Option.some.inj H
                subst H
                exact jS.iret rfl (by decide +kernel)
              · replace H := jif_t (Classical.not_not.mp c21) H
                refine jS.adv O [(.bipush (-12), 0, 0, 0, 0, (-12 : Int32), 0)] (pc' := 95) (ls' := [(7, .inr (.inr (jP m (jP m x0 2) x3.toNatClampNeg))), (6, .inr (.inr (jP m (jP m x0 2) x1.toNatClampNeg))), (0, .inr (.inr x0)), (1, .inl x1), (2, .inl x2), (3, .inl x3), (4, .inl x4), (5, .inl x5)]) (st' := [.inl (-12 : Int32)]) (m2 := m) (by decide +kernel) rfl trivial ?_
                replace H := Option.some.inj H
                subst H
                exact jS.iret rfl (by decide +kernel)
          · replace H := jif_f c15 H
            refine jS.adv O [(.bipush (-13), 0, 0, 0, 0, (-13 : Int32), 0)] (pc' := 69) (ls' := [(7, .inr (.inr (jP m (jP m x0 2) x3.toNatClampNeg))), (6, .inr (.inr (jP m (jP m x0 2) x1.toNatClampNeg))), (0, .inr (.inr x0)), (1, .inl x1), (2, .inl x2), (3, .inl x3), (4, .inl x4), (5, .inl x5)]) (st' := [.inl (-13 : Int32)]) (m2 := m) (by decide +kernel) rfl trivial ?_
            replace H := Option.some.inj H
            subst H
            exact jS.iret rfl (by decide +kernel)
        · replace H := jif_t (Classical.not_not.mp c14) H
          refine jS.adv O [(.bipush (-11), 0, 0, 0, 0, (-11 : Int32), 0)] (pc' := 53) (ls' := [(7, .inr (.inr (jP m (jP m x0 2) x3.toNatClampNeg))), (6, .inr (.inr (jP m (jP m x0 2) x1.toNatClampNeg))), (0, .inr (.inr x0)), (1, .inl x1), (2, .inl x2), (3, .inl x3), (4, .inl x4), (5, .inl x5)]) (st' := [.inl (-11 : Int32)]) (m2 := m) (by decide +kernel) rfl trivial ?_
          replace H := Option.some.inj H
          subst H
          exact jS.iret rfl (by decide +kernel)
    · replace H := jif_t (Classical.not_not.mp c6) H
      refine jS.adv O [(.bipush (-2), 0, 0, 0, 0, (-2 : Int32), 0)] (pc' := 16) (ls' := [(0, .inr (.inr x0)), (1, .inl x1), (2, .inl x2), (3, .inl x3), (4, .inl x4), (5, .inl x5)]) (st' := [.inl (-2 : Int32)]) (m2 := m) (by decide +kernel) rfl trivial ?_
      replace H := Option.some.inj H
      subst H
      exact jS.iret rfl (by decide +kernel)
def c_X9_addItems (F : Nat) (m : jMe) (x0 : Nat) (x1 : Nat) (x2 : Nat) (x3 : Int32) : Option (Int32 × jMe) :=
  jgd (jK m x2 = 2) <| jgd (jin x3 (jZ m x2) = true) <| jgd (jin (x3 + (1 : Int32)) (jZ m x2) = true) <| jgd (jin (x3 + (2 : Int32)) (jZ m x2) = true) <| jgd (jin (x3 + (3 : Int32)) (jZ m x2) = true) <| jgd (jK m x0 = 41) <| jb (c_X9_addRow F m x0 x1 (Int64.toInt32 (jL m x2 x3.toNatClampNeg)) (Int64.toInt32 (jL m x2 (x3 + (1 : Int32)).toNatClampNeg)) (Int64.toInt32 (jL m x2 (x3 + (2 : Int32)).toNatClampNeg)) (Int64.toInt32 (jL m x2 (x3 + (3 : Int32)).toNatClampNeg))) fun t8 => some (t8.1, t8.2)
theorem ec_X9_addItems {X : jX} {l : Launch} {d : Nat} (O : jOk X) (hd : 7 ≤ d) {F : Nat} {m : jMe} {x0 : Nat} {x1 : Nat} {x2 : Nat} {x3 : Int32} {r : Int32 × jMe} (H : c_X9_addItems F m x0 x1 x2 x3 = some r) : jH X l d jm_X9_addItems [.inr (.inr x0), .inr (.inr x1), .inr (.inr x2), .inl x3] m (some (.inl r.1)) r.2 := by
  refine jH.of jpl_RX9 rfl (Nat.le_of_ble_eq_true rfl) ?_
  show jS X l d jm_X9_addItems m _ _ (0, [(0, .inr (.inr x0)), (1, .inr (.inr x1)), (2, .inr (.inr x2)), (3, .inl x3)], [], m)
  unfold c_X9_addItems at H
  obtain ⟨w1, H⟩ := jgd_ok H
  obtain ⟨w2, H⟩ := jgd_ok H
  obtain ⟨w3, H⟩ := jgd_ok H
  obtain ⟨w4, H⟩ := jgd_ok H
  obtain ⟨w5, H⟩ := jgd_ok H
  obtain ⟨w6, H⟩ := jgd_ok H
  refine jS.adv O [(.aload_n 0, 0, 0, 0, 0, 0, 0), (.aload_n 1, 0, 0, 0, 0, 0, 0), (.aload_n 2, 0, 0, 0, 0, 0, 0), (.iload_n 3, 0, 0, 0, 0, 0, 0), (.laload, 0, 0, 0, 0, 0, 0), (.l2i, 0, 0, 0, 0, 0, 0), (.aload_n 2, 0, 0, 0, 0, 0, 0), (.iload_n 3, 0, 0, 0, 0, 0, 0), (.iconst 1, 0, 0, 0, 0, (1 : Int32), 0), (.iadd, 0, 0, 0, 0, 0, 0), (.laload, 0, 0, 0, 0, 0, 0), (.l2i, 0, 0, 0, 0, 0, 0), (.aload_n 2, 0, 0, 0, 0, 0, 0), (.iload_n 3, 0, 0, 0, 0, 0, 0), (.iconst 2, 0, 0, 0, 0, (2 : Int32), 0), (.iadd, 0, 0, 0, 0, 0, 0), (.laload, 0, 0, 0, 0, 0, 0), (.l2i, 0, 0, 0, 0, 0, 0), (.aload_n 2, 0, 0, 0, 0, 0, 0), (.iload_n 3, 0, 0, 0, 0, 0, 0), (.iconst 3, 0, 0, 0, 0, (3 : Int32), 0), (.iadd, 0, 0, 0, 0, 0, 0), (.laload, 0, 0, 0, 0, 0, 0), (.l2i, 0, 0, 0, 0, 0, 0)] (pc' := 24) (ls' := [(0, .inr (.inr x0)), (1, .inr (.inr x1)), (2, .inr (.inr x2)), (3, .inl x3)]) (st' := [.inl (Int64.toInt32 (jL m x2 (x3 + (3 : Int32)).toNatClampNeg)), .inl (Int64.toInt32 (jL m x2 (x3 + (2 : Int32)).toNatClampNeg)), .inl (Int64.toInt32 (jL m x2 (x3 + (1 : Int32)).toNatClampNeg)), .inl (Int64.toInt32 (jL m x2 x3.toNatClampNeg)), .inr (.inr x1), .inr (.inr x0)]) (m2 := m) (by decide +kernel) rfl ⟨⟨w1, jib_ok w2⟩, ⟨w1, jib_ok w3⟩, ⟨w1, jib_ok w4⟩, ⟨w1, jib_ok w5⟩, trivial⟩ ?_
  obtain ⟨t8, w7, H⟩ := jb_ok H
  refine jS.step (c' := (27, [(0, .inr (.inr x0)), (1, .inr (.inr x1)), (2, .inr (.inr x2)), (3, .inl x3)], [.inl t8.1], t8.2)) (jSt.callV (c := 9) (As := [.inr (.inr x1), .inl (Int64.toInt32 (jL m x2 x3.toNatClampNeg)), .inl (Int64.toInt32 (jL m x2 (x3 + (1 : Int32)).toNatClampNeg)), .inl (Int64.toInt32 (jL m x2 (x3 + (2 : Int32)).toNatClampNeg)), .inl (Int64.toInt32 (jL m x2 (x3 + (3 : Int32)).toNatClampNeg))]) (rest := []) O (ec_X9_addRow (d := 6) O (Nat.le_refl _) w7) w6 (by decide) rfl (by omega) jmw_X9_addRow jmv_X9_addRow jmn_X9_addRow (idx := 104) (jW_of 652 (by decide +kernel) rfl) (Nat.le_of_ble_eq_true rfl) (by decide +kernel)) ?_
  replace H := Option.some.inj H
  subst H
  exact jS.iret rfl (by decide +kernel)
def c_X9_load_l91_b (F : Nat) (B : jMe → Nat → Int32 → Int32 → Nat → Int32 → Int64 → Int32 → Option ((Int32 × jMe) ⊕ (jMe × Int32))) (m : jMe) (y0 : Nat) (y2 : Int32) (y5 : Int32) (y6 : Nat) (y7 : Int32) (y8 : Int64) (y10 : Int32) : Option ((Int32 × jMe) ⊕ (jMe × Int32)) :=
  (if y5 ≤ y10 then some (.inr (m, y7)) else (if (lg_cmp y8 (0 : Int64)) < 0 then some (.inl ((-12 : Int32), m)) else jgd (jK m y6 = 37) <| (if (lg_cmp (y8 + (3 : Int64)) (Int32.toInt64 (jI m y6 2))) < 0 then jgd (jK m y0 = 41) <| jgd (jK m (jP m y0 0) = 5) <| jgd (jin y2 (jZ m (jP m y0 0)) = true) <| jb (c_X9_addItems F m y0 (jP m (jP m y0 0) y2.toNatClampNeg) (jP m y6 0) (Int64.toInt32 y8)) fun t26 => (if t26.1 < 0 then B t26.2 y0 y2 y5 y6 (y7 + (0 : Int32)) (y8 + (4 : Int64)) (y10 + (1 : Int32)) else B t26.2 y0 y2 y5 y6 (y7 + (1 : Int32)) (y8 + (4 : Int64)) (y10 + (1 : Int32))) else some (.inl ((-12 : Int32), m)))))
theorem ec_X9_load_l91_b {X : jX} {l : Launch} {d : Nat} (O : jOk X) (hd : 8 ≤ d) {F : Nat} {m0 m' : jMe} {v : Option jAV} {B : jMe → Nat → Int32 → Int32 → Nat → Int32 → Int64 → Int32 → Option ((Int32 × jMe) ⊕ (jMe × Int32))} (hB : ∀ (m : jMe) (y0 : Nat) (y2 : Int32) (y5 : Int32) (y6 : Nat) (y7 : Int32) (y8 : Int64) (y10 : Int32) (r : (Int32 × jMe) ⊕ (jMe × Int32)), B m y0 y2 y5 y6 y7 y8 y10 = some r → (∀ q, r = .inl q → v = (some (.inl q.1)) ∧ m' = q.2) → (∀ e, r = .inr e → jS X l d jm_X9_load m0 v m' (169, [(7, .inl e.2)], [], e.1)) → jS X l d jm_X9_load m0 v m' (91, [(0, .inr (.inr y0)), (2, .inl y2), (5, .inl y5), (6, .inr (.inr y6)), (7, .inl y7), (8, .inr (.inl y8)), (10, .inl y10)], [], m)) {m : jMe} {y0 : Nat} {y2 : Int32} {y5 : Int32} {y6 : Nat} {y7 : Int32} {y8 : Int64} {y10 : Int32} {r : (Int32 × jMe) ⊕ (jMe × Int32)} (H : c_X9_load_l91_b F B m y0 y2 y5 y6 y7 y8 y10 = some r) (h1 : ∀ q, r = .inl q → v = (some (.inl q.1)) ∧ m' = q.2) (h2 : ∀ e, r = .inr e → jS X l d jm_X9_load m0 v m' (169, [(7, .inl e.2)], [], e.1)) : jS X l d jm_X9_load m0 v m' (91, [(0, .inr (.inr y0)), (2, .inl y2), (5, .inl y5), (6, .inr (.inr y6)), (7, .inl y7), (8, .inr (.inl y8)), (10, .inl y10)], [], m) := by
  unfold c_X9_load_l91_b at H
  refine jS.adv O [(.iload 10, 0, 0, 0, 0, 0, 0), (.iload 5, 0, 0, 0, 0, 0, 0)] (pc' := 95) (ls' := [(0, .inr (.inr y0)), (2, .inl y2), (5, .inl y5), (6, .inr (.inr y6)), (7, .inl y7), (8, .inr (.inl y8)), (10, .inl y10)]) (st' := [.inl y5, .inl y10]) (m2 := m) (by decide +kernel) rfl trivial ?_
  refine jS.br (i := .if_icmp .ge 74) (P := y5 ≤ y10) (rest := []) rfl (by decide +kernel) (tgt := 169) (by decide) (fun c18 => ?_) (fun c18 => ?_)
  · replace H := jif_t c18 H
    replace H := Option.some.inj H
    subst H
    refine jS.loc' [4] (ls' := [(7, .inl y7)]) rfl ?_
    exact h2 _ rfl
  · replace H := jif_f c18 H
    refine jS.adv O [(.lload 8, 0, 0, 0, 0, 0, 0), (.lconst 0, 0, 0, 0, 0, 0, (0 : Int64)), (.lcmp, 0, 0, 0, 0, 0, 0)] (pc' := 102) (ls' := [(0, .inr (.inr y0)), (2, .inl y2), (5, .inl y5), (6, .inr (.inr y6)), (7, .inl y7), (8, .inr (.inl y8)), (10, .inl y10)]) (st' := [.inl (lg_cmp y8 (0 : Int64))]) (m2 := m) (by decide +kernel) rfl trivial ?_
    refine jS.br (i := .ifCond .lt 19) (P := (lg_cmp y8 (0 : Int64)) < 0) (rest := []) rfl (by decide +kernel) (tgt := 121) (by decide) (fun c19 => ?_) (fun c19 => ?_)
    · replace H := jif_t c19 H
      refine jS.adv O [(.bipush (-12), 0, 0, 0, 0, (-12 : Int32), 0)] (pc' := 123) (ls' := [(0, .inr (.inr y0)), (2, .inl y2), (5, .inl y5), (6, .inr (.inr y6)), (7, .inl y7), (8, .inr (.inl y8)), (10, .inl y10)]) (st' := [.inl (-12 : Int32)]) (m2 := m) (by decide +kernel) rfl trivial ?_
      replace H := Option.some.inj H
      subst H
      obtain ⟨q1, q2⟩ := h1 _ rfl
      subst q1; subst q2
      exact jS.iret rfl (by decide +kernel)
    · replace H := jif_f c19 H
      obtain ⟨w20, H⟩ := jgd_ok H
      refine jS.adv O [(.lload 8, 0, 0, 0, 0, 0, 0), (.ldc2_w 346, 0, 1348, 0, 0, 0, (3 : Int64)), (.ladd, 0, 0, 0, 0, 0, 0), (.aload 6, 0, 0, 0, 0, 0, 0), (.getfield 284, 0, 5, 2, 539, 0, 0), (.i2l, 0, 0, 0, 0, 0, 0), (.lcmp, 0, 0, 0, 0, 0, 0)] (pc' := 118) (ls' := [(0, .inr (.inr y0)), (2, .inl y2), (5, .inl y5), (6, .inr (.inr y6)), (7, .inl y7), (8, .inr (.inl y8)), (10, .inl y10)]) (st' := [.inl (lg_cmp (y8 + (3 : Int64)) (Int32.toInt64 (jI m y6 2)))]) (m2 := m) (by decide +kernel) rfl ⟨w20, trivial⟩ ?_
      refine jS.br (i := .ifCond .lt 6) (P := (lg_cmp (y8 + (3 : Int64)) (Int32.toInt64 (jI m y6 2))) < 0) (rest := []) rfl (by decide +kernel) (tgt := 124) (by decide) (fun c21 => ?_) (fun c21 => ?_)
      · replace H := jif_t c21 H
        obtain ⟨w22, H⟩ := jgd_ok H
        obtain ⟨w23, H⟩ := jgd_ok H
        obtain ⟨w24, H⟩ := jgd_ok H
        refine jS.adv O [(.iload 7, 0, 0, 0, 0, 0, 0), (.aload_n 0, 0, 0, 0, 0, 0, 0), (.aload_n 0, 0, 0, 0, 0, 0, 0), (.getfield 11, 0, 9, 0, 578, 0, 0), (.iload_n 2, 0, 0, 0, 0, 0, 0), (.aaload, 0, 5, 0, 0, 0, 0), (.aload 6, 0, 0, 0, 0, 0, 0), (.getfield 285, 0, 5, 0, 535, 0, 0), (.lload 8, 0, 0, 0, 0, 0, 0), (.l2i, 0, 0, 0, 0, 0, 0)] (pc' := 141) (ls' := [(0, .inr (.inr y0)), (2, .inl y2), (5, .inl y5), (6, .inr (.inr y6)), (7, .inl y7), (8, .inr (.inl y8)), (10, .inl y10)]) (st' := [.inl (Int64.toInt32 y8), .inr (.inr (jP m y6 0)), .inr (.inr (jP m (jP m y0 0) y2.toNatClampNeg)), .inr (.inr y0), .inl y7]) (m2 := m) (by decide +kernel) rfl ⟨w22, ⟨w23, jib_ok w24⟩, w20, trivial⟩ ?_
        obtain ⟨t26, w25, H⟩ := jb_ok H
        refine jS.step (c' := (144, [(0, .inr (.inr y0)), (2, .inl y2), (5, .inl y5), (6, .inr (.inr y6)), (7, .inl y7), (8, .inr (.inl y8)), (10, .inl y10)], [.inl t26.1, .inl y7], t26.2)) (jSt.callV (c := 9) (As := [.inr (.inr (jP m (jP m y0 0) y2.toNatClampNeg)), .inr (.inr (jP m y6 0)), .inl (Int64.toInt32 y8)]) (rest := [.inl y7]) O (ec_X9_addItems (d := 7) O (Nat.le_refl _) w25) w22 (by decide) rfl (by omega) jmw_X9_addItems jmv_X9_addItems jmn_X9_addItems (idx := 348) (jW_of 1349 (by decide +kernel) rfl) (Nat.le_of_ble_eq_true rfl) (by decide +kernel)) ?_
        refine jS.br (i := .ifCond .lt 7) (P := t26.1 < 0) (rest := [.inl y7]) rfl (by decide +kernel) (tgt := 151) (by decide) (fun c27 => ?_) (fun c27 => ?_)
        · replace H := jif_t c27 H
          refine jS.adv O [(.iconst 0, 0, 0, 0, 0, (0 : Int32), 0), (.iadd, 0, 0, 0, 0, 0, 0), (.istore 7, 0, 0, 0, 0, 0, 0), (.lload 8, 0, 0, 0, 0, 0, 0), (.ldc2_w 352, 0, 1353, 0, 0, 0, (4 : Int64)), (.ladd, 0, 0, 0, 0, 0, 0), (.lstore 8, 0, 0, 0, 0, 0, 0), (.iinc 10 1, 0, 0, 0, 0, (1 : Int32), 0), (.goto (-75), 0, 91, 0, 0, 0, 0)] (pc' := 91) (ls' := [(10, .inl (y10 + (1 : Int32))), (8, .inr (.inl (y8 + (4 : Int64)))), (7, .inl (y7 + (0 : Int32))), (0, .inr (.inr y0)), (2, .inl y2), (5, .inl y5), (6, .inr (.inr y6))]) (st' := []) (m2 := t26.2) (by decide +kernel) rfl trivial ?_
          refine jS.loc' [3, 4, 5, 6, 2, 1, 0] (ls' := [(0, .inr (.inr y0)), (2, .inl y2), (5, .inl y5), (6, .inr (.inr y6)), (7, .inl (y7 + (0 : Int32))), (8, .inr (.inl (y8 + (4 : Int64)))), (10, .inl (y10 + (1 : Int32)))]) rfl ?_
          exact hB _ _ _ _ _ _ _ _ _ H h1 h2
        · replace H := jif_f c27 H
          refine jS.adv O [(.iconst 1, 0, 0, 0, 0, (1 : Int32), 0), (.goto 4, 0, 152, 0, 0, 0, 0), (.iadd, 0, 0, 0, 0, 0, 0), (.istore 7, 0, 0, 0, 0, 0, 0), (.lload 8, 0, 0, 0, 0, 0, 0), (.ldc2_w 352, 0, 1353, 0, 0, 0, (4 : Int64)), (.ladd, 0, 0, 0, 0, 0, 0), (.lstore 8, 0, 0, 0, 0, 0, 0), (.iinc 10 1, 0, 0, 0, 0, (1 : Int32), 0), (.goto (-75), 0, 91, 0, 0, 0, 0)] (pc' := 91) (ls' := [(10, .inl (y10 + (1 : Int32))), (8, .inr (.inl (y8 + (4 : Int64)))), (7, .inl (y7 + (1 : Int32))), (0, .inr (.inr y0)), (2, .inl y2), (5, .inl y5), (6, .inr (.inr y6))]) (st' := []) (m2 := t26.2) (by decide +kernel) rfl trivial ?_
          refine jS.loc' [3, 4, 5, 6, 2, 1, 0] (ls' := [(0, .inr (.inr y0)), (2, .inl y2), (5, .inl y5), (6, .inr (.inr y6)), (7, .inl (y7 + (1 : Int32))), (8, .inr (.inl (y8 + (4 : Int64)))), (10, .inl (y10 + (1 : Int32)))]) rfl ?_
          exact hB _ _ _ _ _ _ _ _ _ H h1 h2
      · replace H := jif_f c21 H
        refine jS.adv O [(.bipush (-12), 0, 0, 0, 0, (-12 : Int32), 0)] (pc' := 123) (ls' := [(0, .inr (.inr y0)), (2, .inl y2), (5, .inl y5), (6, .inr (.inr y6)), (7, .inl y7), (8, .inr (.inl y8)), (10, .inl y10)]) (st' := [.inl (-12 : Int32)]) (m2 := m) (by decide +kernel) rfl trivial ?_
        replace H := Option.some.inj H
        subst H
        obtain ⟨q1, q2⟩ := h1 _ rfl
        subst q1; subst q2
        exact jS.iret rfl (by decide +kernel)
def c_X9_load_l91 (F : Nat) : Nat → jMe → Nat → Int32 → Int32 → Nat → Int32 → Int64 → Int32 → Option ((Int32 × jMe) ⊕ (jMe × Int32))
  | 0, _, _, _, _, _, _, _, _ => none
  | n + 1, m, y0, y2, y5, y6, y7, y8, y10 => c_X9_load_l91_b F (fun m y0 y2 y5 y6 y7 y8 y10 => c_X9_load_l91 F n m y0 y2 y5 y6 y7 y8 y10) m y0 y2 y5 y6 y7 y8 y10
theorem ec_X9_load_l91 {X : jX} {l : Launch} {d : Nat} (O : jOk X) (hd : 8 ≤ d) {F : Nat} {m0 m' : jMe} {v : Option jAV} : ∀ (n : Nat) {m : jMe} {y0 : Nat} {y2 : Int32} {y5 : Int32} {y6 : Nat} {y7 : Int32} {y8 : Int64} {y10 : Int32} {r : (Int32 × jMe) ⊕ (jMe × Int32)} (H : c_X9_load_l91 F n m y0 y2 y5 y6 y7 y8 y10 = some r) (h1 : ∀ q, r = .inl q → v = (some (.inl q.1)) ∧ m' = q.2) (h2 : ∀ e, r = .inr e → jS X l d jm_X9_load m0 v m' (169, [(7, .inl e.2)], [], e.1)), jS X l d jm_X9_load m0 v m' (91, [(0, .inr (.inr y0)), (2, .inl y2), (5, .inl y5), (6, .inr (.inr y6)), (7, .inl y7), (8, .inr (.inl y8)), (10, .inl y10)], [], m) := by
  intro n
  induction n with
  | zero =>
    intro m y0 y2 y5 y6 y7 y8 y10 r H h1 h2
    cases (show none = some r from H)
  | succ n ih =>
    intro m y0 y2 y5 y6 y7 y8 y10 r H h1 h2
    exact ec_X9_load_l91_b O hd (B := (fun m y0 y2 y5 y6 y7 y8 y10 => c_X9_load_l91 F n m y0 y2 y5 y6 y7 y8 y10)) (fun m y0 y2 y5 y6 y7 y8 y10 r H h1 h2 => ih H h1 h2) H h1 h2
def c_X9_load_j68 (F : Nat) (m : jMe) (y0 : Nat) (y2 : Int32) (y4 : Int32) (y5 : Int32) (y6 : Nat) : Option (Int32 × jMe) :=
  jgd (jK m y6 = 37) <| (if (jI m y6 1) = (-1 : Int32) then some ((-11 : Int32), m) else jb2 (c_X9_load_l91 F F m y0 y2 y5 y6 (0 : Int32) (Int32.toInt64 y4) (0 : Int32)) (fun q => some q) fun e29 => some (e29.2, e29.1))
theorem ec_X9_load_j68 {X : jX} {l : Launch} {d : Nat} (O : jOk X) (hd : 8 ≤ d) {F : Nat} {m0 m : jMe} {y0 : Nat} {y2 : Int32} {y4 : Int32} {y5 : Int32} {y6 : Nat} {r : Int32 × jMe} (H : c_X9_load_j68 F m y0 y2 y4 y5 y6 = some r) : jS X l d jm_X9_load m0 (some (.inl r.1)) r.2 (68, [(0, .inr (.inr y0)), (2, .inl y2), (4, .inl y4), (5, .inl y5), (6, .inr (.inr y6))], [], m) := by
  unfold c_X9_load_j68 at H
  obtain ⟨w16, H⟩ := jgd_ok H
  refine jS.adv O [(.aload 6, 0, 0, 0, 0, 0, 0), (.getfield 281, 0, 5, 1, 537, 0, 0), (.iconst (-1), 0, 0, 0, 0, (-1 : Int32), 0)] (pc' := 74) (ls' := [(0, .inr (.inr y0)), (2, .inl y2), (4, .inl y4), (5, .inl y5), (6, .inr (.inr y6))]) (st' := [.inl (-1 : Int32), .inl (jI m y6 1)]) (m2 := m) (by decide +kernel) rfl ⟨w16, trivial⟩ ?_
  refine jS.br (i := .if_icmp .ne 6) (P := ¬ (jI m y6 1) = (-1 : Int32)) (rest := []) rfl (by decide +kernel) (tgt := 80) (by decide) (fun c17 => ?_) (fun c17 => ?_)
  · replace H := jif_f c17 H
    refine jS.adv O [(.iconst 0, 0, 0, 0, 0, (0 : Int32), 0), (.istore 7, 0, 0, 0, 0, 0, 0), (.iload 4, 0, 0, 0, 0, 0, 0), (.i2l, 0, 0, 0, 0, 0, 0), (.lstore 8, 0, 0, 0, 0, 0, 0), (.iconst 0, 0, 0, 0, 0, (0 : Int32), 0), (.istore 10, 0, 0, 0, 0, 0, 0)] (pc' := 91) (ls' := [(10, .inl (0 : Int32)), (8, .inr (.inl (Int32.toInt64 y4))), (7, .inl (0 : Int32)), (0, .inr (.inr y0)), (2, .inl y2), (4, .inl y4), (5, .inl y5), (6, .inr (.inr y6))]) (st' := []) (m2 := m) (by decide +kernel) rfl trivial ?_
    refine jS.loc' [3, 4, 6, 7, 2, 1, 0] (ls' := [(0, .inr (.inr y0)), (2, .inl y2), (5, .inl y5), (6, .inr (.inr y6)), (7, .inl (0 : Int32)), (8, .inr (.inl (Int32.toInt64 y4))), (10, .inl (0 : Int32))]) rfl ?_
    rcases jb2_ok H with ⟨q28, w30, H⟩ | ⟨e29, w30, H⟩
    · refine ec_X9_load_l91 O hd F w30 (fun q2 hq2 => ?_) (fun e2 he2 => by cases he2)
      cases hq2
      cases H
      exact ⟨rfl, rfl⟩
    · refine ec_X9_load_l91 O hd F w30 (fun q2 hq2 => by cases hq2) (fun e2 he2 => ?_)
      cases he2
      refine jS.adv O [(.iload 7, 0, 0, 0, 0, 0, 0)] (pc' := 171) (ls' := [(7, .inl e29.2)]) (st' := [.inl e29.2]) (m2 := e29.1) (by decide +kernel) rfl trivial ?_
      replace H := Option.some.inj H
      subst H
      exact jS.iret rfl (by decide +kernel)
  · replace H := jif_t (Classical.not_not.mp c17) H
    refine jS.adv O [(.bipush (-11), 0, 0, 0, 0, (-11 : Int32), 0)] (pc' := 79) (ls' := [(0, .inr (.inr y0)), (2, .inl y2), (4, .inl y4), (5, .inl y5), (6, .inr (.inr y6))]) (st' := [.inl (-11 : Int32)]) (m2 := m) (by decide +kernel) rfl trivial ?_
    replace H := Option.some.inj H
    subst H
    exact jS.iret rfl (by decide +kernel)
def c_X9_load (F : Nat) (m : jMe) (x0 : Nat) (x1 : Int32) (x2 : Int32) (x3 : Int32) (x4 : Int32) (x5 : Int32) : Option (Int32 × jMe) :=
  jb (c_X9_isSheet F m x1) fun t2 => (if t2 = 0 then some ((-2 : Int32), m) else jgd (jK m x0 = 41) <| jb (c_X9_isRelation F m x0 x2) fun t6 => (if t6 = 0 then some ((-2 : Int32), m) else (if x3 < 0 then some ((-2 : Int32), m) else (if (2 : Int32) < x3 then some ((-2 : Int32), m) else (if x5 < 0 then some ((-2 : Int32), m) else (if x5 ≤ (8 : Int32) then jgd (jK m (jP m x0 2) = 7) <| jgd (jin x1 (jZ m (jP m x0 2)) = true) <| jgd (jK m (jP m (jP m x0 2) x1.toNatClampNeg) = 37) <| (if (jI m (jP m (jP m x0 2) x1.toNatClampNeg) 1) = (-1 : Int32) then c_X9_load_j68 F m x0 x2 x4 x5 (jP m (jP m x0 2) x1.toNatClampNeg) else (if (jI m (jP m (jP m x0 2) x1.toNatClampNeg) 1) = x3 then c_X9_load_j68 F m x0 x2 x4 x5 (jP m (jP m x0 2) x1.toNatClampNeg) else some ((-13 : Int32), m))) else some ((-2 : Int32), m)))))))
theorem ec_X9_load {X : jX} {l : Launch} {d : Nat} (O : jOk X) (hd : 8 ≤ d) {F : Nat} {m : jMe} {x0 : Nat} {x1 : Int32} {x2 : Int32} {x3 : Int32} {x4 : Int32} {x5 : Int32} {r : Int32 × jMe} (H : c_X9_load F m x0 x1 x2 x3 x4 x5 = some r) : jH X l d jm_X9_load [.inr (.inr x0), .inl x1, .inl x2, .inl x3, .inl x4, .inl x5] m (some (.inl r.1)) r.2 := by
  refine jH.of jpl_RX9 rfl (Nat.le_of_ble_eq_true rfl) ?_
  show jS X l d jm_X9_load m _ _ (0, [(0, .inr (.inr x0)), (1, .inl x1), (2, .inl x2), (3, .inl x3), (4, .inl x4), (5, .inl x5)], [], m)
  unfold c_X9_load at H
  refine jS.adv O [(.iload_n 1, 0, 0, 0, 0, 0, 0)] (pc' := 1) (ls' := [(0, .inr (.inr x0)), (1, .inl x1), (2, .inl x2), (3, .inl x3), (4, .inl x4), (5, .inl x5)]) (st' := [.inl x1]) (m2 := m) (by decide +kernel) rfl trivial ?_
  obtain ⟨t2, w1, H⟩ := jb_ok H
  refine jS.step (c' := (4, [(0, .inr (.inr x0)), (1, .inl x1), (2, .inl x2), (3, .inl x3), (4, .inl x4), (5, .inl x5)], [.inl t2], m)) (jSt.callS (As := [.inl x1]) (rest := []) O (ec_X9_isSheet (d := 2) O (Nat.le_refl _) w1) (by omega) jmw_X9_isSheet jmv_X9_isSheet jmn_X9_isSheet (idx := 278) (jW_of 1242 (by decide +kernel) rfl) (Nat.le_of_ble_eq_true rfl) (by decide +kernel)) ?_
  refine jS.br (i := .ifCond .eq 32) (P := t2 = 0) (rest := []) rfl (by decide +kernel) (tgt := 36) (by decide) (fun c3 => ?_) (fun c3 => ?_)
  · replace H := jif_t c3 H
    refine jS.adv O [(.bipush (-2), 0, 0, 0, 0, (-2 : Int32), 0)] (pc' := 38) (ls' := [(0, .inr (.inr x0)), (1, .inl x1), (2, .inl x2), (3, .inl x3), (4, .inl x4), (5, .inl x5)]) (st' := [.inl (-2 : Int32)]) (m2 := m) (by decide +kernel) rfl trivial ?_
    replace H := Option.some.inj H
    subst H
    exact jS.iret rfl (by decide +kernel)
  · replace H := jif_f c3 H
    obtain ⟨w4, H⟩ := jgd_ok H
    refine jS.adv O [(.aload_n 0, 0, 0, 0, 0, 0, 0), (.iload_n 2, 0, 0, 0, 0, 0, 0)] (pc' := 9) (ls' := [(0, .inr (.inr x0)), (1, .inl x1), (2, .inl x2), (3, .inl x3), (4, .inl x4), (5, .inl x5)]) (st' := [.inl x2, .inr (.inr x0)]) (m2 := m) (by decide +kernel) rfl trivial ?_
    obtain ⟨t6, w5, H⟩ := jb_ok H
    refine jS.step (c' := (12, [(0, .inr (.inr x0)), (1, .inl x1), (2, .inl x2), (3, .inl x3), (4, .inl x4), (5, .inl x5)], [.inl t6], m)) (jSt.callV (c := 9) (As := [.inl x2]) (rest := []) O (ec_X9_isRelation (d := 2) O (Nat.le_refl _) w5) w4 (by decide) rfl (by omega) jmw_X9_isRelation jmv_X9_isRelation jmn_X9_isRelation (idx := 100) (jW_of 648 (by decide +kernel) rfl) (Nat.le_of_ble_eq_true rfl) (by decide +kernel)) ?_
    refine jS.br (i := .ifCond .eq 24) (P := t6 = 0) (rest := []) rfl (by decide +kernel) (tgt := 36) (by decide) (fun c7 => ?_) (fun c7 => ?_)
    · replace H := jif_t c7 H
      refine jS.adv O [(.bipush (-2), 0, 0, 0, 0, (-2 : Int32), 0)] (pc' := 38) (ls' := [(0, .inr (.inr x0)), (1, .inl x1), (2, .inl x2), (3, .inl x3), (4, .inl x4), (5, .inl x5)]) (st' := [.inl (-2 : Int32)]) (m2 := m) (by decide +kernel) rfl trivial ?_
      replace H := Option.some.inj H
      subst H
      exact jS.iret rfl (by decide +kernel)
    · replace H := jif_f c7 H
      refine jS.adv O [(.iload_n 3, 0, 0, 0, 0, 0, 0)] (pc' := 16) (ls' := [(0, .inr (.inr x0)), (1, .inl x1), (2, .inl x2), (3, .inl x3), (4, .inl x4), (5, .inl x5)]) (st' := [.inl x3]) (m2 := m) (by decide +kernel) rfl trivial ?_
      refine jS.br (i := .ifCond .lt 20) (P := x3 < 0) (rest := []) rfl (by decide +kernel) (tgt := 36) (by decide) (fun c8 => ?_) (fun c8 => ?_)
      · replace H := jif_t c8 H
        refine jS.adv O [(.bipush (-2), 0, 0, 0, 0, (-2 : Int32), 0)] (pc' := 38) (ls' := [(0, .inr (.inr x0)), (1, .inl x1), (2, .inl x2), (3, .inl x3), (4, .inl x4), (5, .inl x5)]) (st' := [.inl (-2 : Int32)]) (m2 := m) (by decide +kernel) rfl trivial ?_
        replace H := Option.some.inj H
        subst H
        exact jS.iret rfl (by decide +kernel)
      · replace H := jif_f c8 H
        refine jS.adv O [(.iload_n 3, 0, 0, 0, 0, 0, 0), (.iconst 2, 0, 0, 0, 0, (2 : Int32), 0)] (pc' := 21) (ls' := [(0, .inr (.inr x0)), (1, .inl x1), (2, .inl x2), (3, .inl x3), (4, .inl x4), (5, .inl x5)]) (st' := [.inl (2 : Int32), .inl x3]) (m2 := m) (by decide +kernel) rfl trivial ?_
        refine jS.br (i := .if_icmp .gt 15) (P := (2 : Int32) < x3) (rest := []) rfl (by decide +kernel) (tgt := 36) (by decide) (fun c9 => ?_) (fun c9 => ?_)
        · replace H := jif_t c9 H
          refine jS.adv O [(.bipush (-2), 0, 0, 0, 0, (-2 : Int32), 0)] (pc' := 38) (ls' := [(0, .inr (.inr x0)), (1, .inl x1), (2, .inl x2), (3, .inl x3), (4, .inl x4), (5, .inl x5)]) (st' := [.inl (-2 : Int32)]) (m2 := m) (by decide +kernel) rfl trivial ?_
          replace H := Option.some.inj H
          subst H
          exact jS.iret rfl (by decide +kernel)
        · replace H := jif_f c9 H
          refine jS.adv O [(.iload 5, 0, 0, 0, 0, 0, 0)] (pc' := 26) (ls' := [(0, .inr (.inr x0)), (1, .inl x1), (2, .inl x2), (3, .inl x3), (4, .inl x4), (5, .inl x5)]) (st' := [.inl x5]) (m2 := m) (by decide +kernel) rfl trivial ?_
          refine jS.br (i := .ifCond .lt 10) (P := x5 < 0) (rest := []) rfl (by decide +kernel) (tgt := 36) (by decide) (fun c10 => ?_) (fun c10 => ?_)
          · replace H := jif_t c10 H
            refine jS.adv O [(.bipush (-2), 0, 0, 0, 0, (-2 : Int32), 0)] (pc' := 38) (ls' := [(0, .inr (.inr x0)), (1, .inl x1), (2, .inl x2), (3, .inl x3), (4, .inl x4), (5, .inl x5)]) (st' := [.inl (-2 : Int32)]) (m2 := m) (by decide +kernel) rfl trivial ?_
            replace H := Option.some.inj H
            subst H
            exact jS.iret rfl (by decide +kernel)
          · replace H := jif_f c10 H
            refine jS.adv O [(.iload 5, 0, 0, 0, 0, 0, 0), (.bipush 8, 0, 0, 0, 0, (8 : Int32), 0)] (pc' := 33) (ls' := [(0, .inr (.inr x0)), (1, .inl x1), (2, .inl x2), (3, .inl x3), (4, .inl x4), (5, .inl x5)]) (st' := [.inl (8 : Int32), .inl x5]) (m2 := m) (by decide +kernel) rfl trivial ?_
            refine jS.br (i := .if_icmp .le 6) (P := x5 ≤ (8 : Int32)) (rest := []) rfl (by decide +kernel) (tgt := 39) (by decide) (fun c11 => ?_) (fun c11 => ?_)
            · replace H := jif_t c11 H
              obtain ⟨w12, H⟩ := jgd_ok H
              obtain ⟨w13, H⟩ := jgd_ok H
              obtain ⟨w14, H⟩ := jgd_ok H
              refine jS.adv O [(.aload_n 0, 0, 0, 0, 0, 0, 0), (.getfield 23, 0, 9, 2, 580, 0, 0), (.iload_n 1, 0, 0, 0, 0, 0, 0), (.aaload, 0, 7, 0, 0, 0, 0), (.astore 6, 0, 0, 0, 0, 0, 0), (.aload 6, 0, 0, 0, 0, 0, 0), (.getfield 281, 0, 5, 1, 537, 0, 0), (.iconst (-1), 0, 0, 0, 0, (-1 : Int32), 0)] (pc' := 53) (ls' := [(6, .inr (.inr (jP m (jP m x0 2) x1.toNatClampNeg))), (0, .inr (.inr x0)), (1, .inl x1), (2, .inl x2), (3, .inl x3), (4, .inl x4), (5, .inl x5)]) (st' := [.inl (-1 : Int32), .inl (jI m (jP m (jP m x0 2) x1.toNatClampNeg) 1)]) (m2 := m) (by decide +kernel) rfl ⟨w4, ⟨w12, jib_ok w13⟩, w14, trivial⟩ ?_
              refine jS.br (i := .if_icmp .eq 15) (P := (jI m (jP m (jP m x0 2) x1.toNatClampNeg) 1) = (-1 : Int32)) (rest := []) rfl (by decide +kernel) (tgt := 68) (by decide) (fun c15 => ?_) (fun c15 => ?_)
              · replace H := jif_t c15 H
                refine jS.loc' [1, 3, 5, 6, 0] (ls' := [(0, .inr (.inr x0)), (2, .inl x2), (4, .inl x4), (5, .inl x5), (6, .inr (.inr (jP m (jP m x0 2) x1.toNatClampNeg)))]) rfl ?_
                exact ec_X9_load_j68 O hd H
              · replace H := jif_f c15 H
                refine jS.adv O [(.aload 6, 0, 0, 0, 0, 0, 0), (.getfield 281, 0, 5, 1, 537, 0, 0), (.iload_n 3, 0, 0, 0, 0, 0, 0)] (pc' := 62) (ls' := [(6, .inr (.inr (jP m (jP m x0 2) x1.toNatClampNeg))), (0, .inr (.inr x0)), (1, .inl x1), (2, .inl x2), (3, .inl x3), (4, .inl x4), (5, .inl x5)]) (st' := [.inl x3, .inl (jI m (jP m (jP m x0 2) x1.toNatClampNeg) 1)]) (m2 := m) (by decide +kernel) rfl ⟨w14, trivial⟩ ?_
                refine jS.br (i := .if_icmp .eq 6) (P := (jI m (jP m (jP m x0 2) x1.toNatClampNeg) 1) = x3) (rest := []) rfl (by decide +kernel) (tgt := 68) (by decide) (fun c31 => ?_) (fun c31 => ?_)
                · replace H := jif_t c31 H
                  refine jS.loc' [1, 3, 5, 6, 0] (ls' := [(0, .inr (.inr x0)), (2, .inl x2), (4, .inl x4), (5, .inl x5), (6, .inr (.inr (jP m (jP m x0 2) x1.toNatClampNeg)))]) rfl ?_
                  exact ec_X9_load_j68 O hd H
                · replace H := jif_f c31 H
                  refine jS.adv O [(.bipush (-13), 0, 0, 0, 0, (-13 : Int32), 0)] (pc' := 67) (ls' := [(6, .inr (.inr (jP m (jP m x0 2) x1.toNatClampNeg))), (0, .inr (.inr x0)), (1, .inl x1), (2, .inl x2), (3, .inl x3), (4, .inl x4), (5, .inl x5)]) (st' := [.inl (-13 : Int32)]) (m2 := m) (by decide +kernel) rfl trivial ?_
                  replace H := Option.some.inj H
                  subst H
                  exact jS.iret rfl (by decide +kernel)
            · replace H := jif_f c11 H
              refine jS.adv O [(.bipush (-2), 0, 0, 0, 0, (-2 : Int32), 0)] (pc' := 38) (ls' := [(0, .inr (.inr x0)), (1, .inl x1), (2, .inl x2), (3, .inl x3), (4, .inl x4), (5, .inl x5)]) (st' := [.inl (-2 : Int32)]) (m2 := m) (by decide +kernel) rfl trivial ?_
              replace H := Option.some.inj H
              subst H
              exact jS.iret rfl (by decide +kernel)
def c_X9_taken (F : Nat) (m : jMe) (x0 : Nat) (x1 : Int32) (x2 : Int32) : Option (Int32) :=
  (if x2 < 0 then some (-2 : Int32) else (if x2 < (6 : Int32) then jgd (jK m x0 = 41) <| jb (c_X9_isRelation F m x0 x1) fun t5 => (if t5 = 0 then some (-11 : Int32) else jgd (jK m (jP m x0 0) = 5) <| jgd (jin x1 (jZ m (jP m x0 0)) = true) <| jgd (jK m (jP m (jP m x0 0) x1.toNatClampNeg) = 36) <| jb (c_X4_isA F m (jP m (jP m x0 0) x1.toNatClampNeg) x2) fun t11 => (if t11 = 0 then some (-13 : Int32) else jgd (jin x1 (jZ m (jP m x0 0)) = true) <| some (jI m (jP m (jP m x0 0) x1.toNatClampNeg) 2))) else some (-2 : Int32)))
theorem ec_X9_taken {X : jX} {l : Launch} {d : Nat} (O : jOk X) (hd : 4 ≤ d) {F : Nat} {m : jMe} {x0 : Nat} {x1 : Int32} {x2 : Int32} {r : Int32} (H : c_X9_taken F m x0 x1 x2 = some r) : jH X l d jm_X9_taken [.inr (.inr x0), .inl x1, .inl x2] m (some (.inl r)) m := by
  refine jH.of jpl_RX9 rfl (Nat.le_of_ble_eq_true rfl) ?_
  show jS X l d jm_X9_taken m _ _ (0, [(0, .inr (.inr x0)), (1, .inl x1), (2, .inl x2)], [], m)
  unfold c_X9_taken at H
  refine jS.adv O [(.iload_n 2, 0, 0, 0, 0, 0, 0)] (pc' := 1) (ls' := [(0, .inr (.inr x0)), (1, .inl x1), (2, .inl x2)]) (st' := [.inl x2]) (m2 := m) (by decide +kernel) rfl trivial ?_
  refine jS.br (i := .ifCond .lt 9) (P := x2 < 0) (rest := []) rfl (by decide +kernel) (tgt := 10) (by decide) (fun c1 => ?_) (fun c1 => ?_)
  · replace H := jif_t c1 H
    refine jS.adv O [(.bipush (-2), 0, 0, 0, 0, (-2 : Int32), 0)] (pc' := 12) (ls' := [(0, .inr (.inr x0)), (1, .inl x1), (2, .inl x2)]) (st' := [.inl (-2 : Int32)]) (m2 := m) (by decide +kernel) rfl trivial ?_
    replace H := Option.some.inj H
    subst H
    exact jS.iret rfl (by decide +kernel)
  · replace H := jif_f c1 H
    refine jS.adv O [(.iload_n 2, 0, 0, 0, 0, 0, 0), (.bipush 6, 0, 0, 0, 0, (6 : Int32), 0)] (pc' := 7) (ls' := [(0, .inr (.inr x0)), (1, .inl x1), (2, .inl x2)]) (st' := [.inl (6 : Int32), .inl x2]) (m2 := m) (by decide +kernel) rfl trivial ?_
    refine jS.br (i := .if_icmp .lt 6) (P := x2 < (6 : Int32)) (rest := []) rfl (by decide +kernel) (tgt := 13) (by decide) (fun c2 => ?_) (fun c2 => ?_)
    · replace H := jif_t c2 H
      obtain ⟨w3, H⟩ := jgd_ok H
      refine jS.adv O [(.aload_n 0, 0, 0, 0, 0, 0, 0), (.iload_n 1, 0, 0, 0, 0, 0, 0)] (pc' := 15) (ls' := [(0, .inr (.inr x0)), (1, .inl x1), (2, .inl x2)]) (st' := [.inl x1, .inr (.inr x0)]) (m2 := m) (by decide +kernel) rfl trivial ?_
      obtain ⟨t5, w4, H⟩ := jb_ok H
      refine jS.step (c' := (18, [(0, .inr (.inr x0)), (1, .inl x1), (2, .inl x2)], [.inl t5], m)) (jSt.callV (c := 9) (As := [.inl x1]) (rest := []) O (ec_X9_isRelation (d := 2) O (Nat.le_refl _) w4) w3 (by decide) rfl (by omega) jmw_X9_isRelation jmv_X9_isRelation jmn_X9_isRelation (idx := 100) (jW_of 648 (by decide +kernel) rfl) (Nat.le_of_ble_eq_true rfl) (by decide +kernel)) ?_
      refine jS.br (i := .ifCond .ne 6) (P := ¬ t5 = 0) (rest := []) rfl (by decide +kernel) (tgt := 24) (by decide) (fun c6 => ?_) (fun c6 => ?_)
      · replace H := jif_f c6 H
        obtain ⟨w7, H⟩ := jgd_ok H
        obtain ⟨w8, H⟩ := jgd_ok H
        obtain ⟨w9, H⟩ := jgd_ok H
        refine jS.adv O [(.aload_n 0, 0, 0, 0, 0, 0, 0), (.getfield 11, 0, 9, 0, 578, 0, 0), (.iload_n 1, 0, 0, 0, 0, 0, 0), (.aaload, 0, 5, 0, 0, 0, 0), (.iload_n 2, 0, 0, 0, 0, 0, 0)] (pc' := 31) (ls' := [(0, .inr (.inr x0)), (1, .inl x1), (2, .inl x2)]) (st' := [.inl x2, .inr (.inr (jP m (jP m x0 0) x1.toNatClampNeg))]) (m2 := m) (by decide +kernel) rfl ⟨w3, ⟨w7, jib_ok w8⟩, trivial⟩ ?_
        obtain ⟨t11, w10, H⟩ := jb_ok H
        refine jS.step (c' := (34, [(0, .inr (.inr x0)), (1, .inl x1), (2, .inl x2)], [.inl t11], m)) (jSt.callV (c := 4) (As := [.inl x2]) (rest := []) O (ec_X4_isA (d := 3) O (Nat.le_refl _) w10) w9 (by decide) rfl (by omega) jmw_X4_isA jmv_X4_isA jmn_X4_isA (idx := 354) (jW_of 1358 (by decide +kernel) rfl) (Nat.le_of_ble_eq_true rfl) (by decide +kernel)) ?_
        refine jS.br (i := .ifCond .eq 15) (P := t11 = 0) (rest := []) rfl (by decide +kernel) (tgt := 49) (by decide) (fun c12 => ?_) (fun c12 => ?_)
        · replace H := jif_t c12 H
          refine jS.adv O [(.bipush (-13), 0, 0, 0, 0, (-13 : Int32), 0)] (pc' := 51) (ls' := [(0, .inr (.inr x0)), (1, .inl x1), (2, .inl x2)]) (st' := [.inl (-13 : Int32)]) (m2 := m) (by decide +kernel) rfl trivial ?_
          replace H := Option.some.inj H
          subst H
          exact jS.iret rfl (by decide +kernel)
        · replace H := jif_f c12 H
          obtain ⟨w13, H⟩ := jgd_ok H
          refine jS.adv O [(.aload_n 0, 0, 0, 0, 0, 0, 0), (.getfield 11, 0, 9, 0, 578, 0, 0), (.iload_n 1, 0, 0, 0, 0, 0, 0), (.aaload, 0, 5, 0, 0, 0, 0), (.getfield 156, 0, 4, 2, 500, 0, 0), (.goto 5, 0, 51, 0, 0, 0, 0)] (pc' := 51) (ls' := [(0, .inr (.inr x0)), (1, .inl x1), (2, .inl x2)]) (st' := [.inl (jI m (jP m (jP m x0 0) x1.toNatClampNeg) 2)]) (m2 := m) (by decide +kernel) rfl ⟨w3, ⟨w7, jib_ok w13⟩, w9, trivial⟩ ?_
          replace H := Option.some.inj H
          subst H
          exact jS.iret rfl (by decide +kernel)
      · replace H := jif_t (Classical.not_not.mp c6) H
        refine jS.adv O [(.bipush (-11), 0, 0, 0, 0, (-11 : Int32), 0)] (pc' := 23) (ls' := [(0, .inr (.inr x0)), (1, .inl x1), (2, .inl x2)]) (st' := [.inl (-11 : Int32)]) (m2 := m) (by decide +kernel) rfl trivial ?_
        replace H := Option.some.inj H
        subst H
        exact jS.iret rfl (by decide +kernel)
    · replace H := jif_f c2 H
      refine jS.adv O [(.bipush (-2), 0, 0, 0, 0, (-2 : Int32), 0)] (pc' := 12) (ls' := [(0, .inr (.inr x0)), (1, .inl x1), (2, .inl x2)]) (st' := [.inl (-2 : Int32)]) (m2 := m) (by decide +kernel) rfl trivial ?_
      replace H := Option.some.inj H
      subst H
      exact jS.iret rfl (by decide +kernel)
