/-! Reader -/
def c_X3_init (F : Nat) (m : jMe) (x0 : Nat) : Option (jMe) :=
  jgd (¬ x0 = 0) <| jgd (¬ (160 : Int32) < 0 ∧ (160 : Int32).toNatClampNeg ≤ 10000) <| jlet (jnew m 3 (160 : Int32).toNatClampNeg (160 : Int32).toNatClampNeg) fun m3 => jgd (jK m3 x0 = 35) <| jgd (¬ (160 : Int32) < 0 ∧ (160 : Int32).toNatClampNeg ≤ 10000) <| jlet (jnew (jsP m3 x0 0 (32 + jN m)) 1 (160 : Int32).toNatClampNeg (160 : Int32).toNatClampNeg) fun m6 => jgd (jK m6 x0 = 35) <| jlet (jsI (jsI (jsI (jsI (jsI (jsP m6 x0 1 (32 + jN (jsP m3 x0 0 (32 + jN m)))) x0 2 (0 : Int32)) x0 3 (0 : Int32)) x0 4 (0 : Int32)) x0 5 (0 : Int32)) x0 6 (0 : Int32)) fun m8 => jgd (jK m8 x0 = 35) <| some (jsI (jsI m8 x0 7 (0 : Int32)) x0 8 (-1 : Int32))
theorem ec_X3_init {X : jX} {l : Launch} {d : Nat} (O : jOk X) (hd : 2 ≤ d) {F : Nat} {m : jMe} {x0 : Nat} {r : jMe} (H : c_X3_init F m x0 = some r) : jH X l d jm_X3_init [.inr (.inr x0)] m none r := by
  refine jH.of jpl_RX3 rfl (Nat.le_of_ble_eq_true rfl) ?_
  show jS X l d jm_X3_init m _ _ (0, [(0, .inr (.inr x0))], [], m)
  unfold c_X3_init at H
  obtain ⟨w1, H⟩ := jgd_ok H
  refine jS.adv O [(.aload_n 0, 0, 0, 0, 0, 0, 0)] (pc' := 1) (ls' := [(0, .inr (.inr x0))]) (st' := [.inr (.inr x0)]) (m2 := m) (by decide +kernel) rfl trivial ?_
  refine jS.step (c' := (4, [(0, .inr (.inr x0))], [], m)) (jSt.obj (idx := 3) (by omega) w1 (jW_of 280 (by decide +kernel) rfl) (jW_of 267 (by decide +kernel) rfl) (jW_of 268 (by decide +kernel) rfl) (Nat.le_of_ble_eq_true rfl) (by decide +kernel)) ?_
  obtain ⟨w2, H⟩ := jgd_ok H
  obtain ⟨m3, em3, H⟩ := jlet_ok H
  refine jS.adv O [(.aload_n 0, 0, 0, 0, 0, 0, 0), (.sipush 160, 0, 0, 0, 0, (160 : Int32), 0), (.newarray .char, 0, 3, 312, 0, 0, 0)] (pc' := 10) (ls' := [(0, .inr (.inr x0))]) (st' := [.inr (.inr (32 + jN m)), .inr (.inr x0)]) (m2 := (jnew m 3 (160 : Int32).toNatClampNeg (160 : Int32).toNatClampNeg)) (by decide +kernel) rfl ⟨w2, trivial⟩ ?_
  refine jS.cast (c' := (10, [(0, .inr (.inr x0))], [.inr (.inr (32 + jN m)), .inr (.inr x0)], m3)) (by rw [em3]) ?_
  obtain ⟨w4, H⟩ := jgd_ok H
  obtain ⟨w5, H⟩ := jgd_ok H
  obtain ⟨m6, em6, H⟩ := jlet_ok H
  refine jS.adv O [(.putfield 9, 0, 3, 0, 281, 0, 0), (.aload_n 0, 0, 0, 0, 0, 0, 0), (.sipush 160, 0, 0, 0, 0, (160 : Int32), 0), (.newarray .int, 0, 1, 313, 0, 0, 0)] (pc' := 19) (ls' := [(0, .inr (.inr x0))]) (st' := [.inr (.inr (32 + jN (jsP m3 x0 0 (32 + jN m)))), .inr (.inr x0)]) (m2 := (jnew (jsP m3 x0 0 (32 + jN m)) 1 (160 : Int32).toNatClampNeg (160 : Int32).toNatClampNeg)) (by decide +kernel) rfl ⟨w4, w5, trivial⟩ ?_
  refine jS.cast (c' := (19, [(0, .inr (.inr x0))], [.inr (.inr (32 + jN (jsP m3 x0 0 (32 + jN m)))), .inr (.inr x0)], m6)) (by rw [em6]) ?_
  obtain ⟨w7, H⟩ := jgd_ok H
  obtain ⟨m8, em8, H⟩ := jlet_ok H
  refine jS.adv O [(.putfield 15, 0, 3, 1, 282, 0, 0), (.aload_n 0, 0, 0, 0, 0, 0, 0), (.iconst 0, 0, 0, 0, 0, (0 : Int32), 0), (.putfield 19, 0, 3, 2, 284, 0, 0), (.aload_n 0, 0, 0, 0, 0, 0, 0), (.iconst 0, 0, 0, 0, 0, (0 : Int32), 0), (.putfield 23, 0, 3, 3, 286, 0, 0), (.aload_n 0, 0, 0, 0, 0, 0, 0), (.iconst 0, 0, 0, 0, 0, (0 : Int32), 0), (.putfield 26, 0, 3, 4, 288, 0, 0), (.aload_n 0, 0, 0, 0, 0, 0, 0), (.iconst 0, 0, 0, 0, 0, (0 : Int32), 0), (.putfield 29, 0, 3, 5, 289, 0, 0), (.aload_n 0, 0, 0, 0, 0, 0, 0), (.iconst 0, 0, 0, 0, 0, (0 : Int32), 0), (.putfield 32, 0, 3, 6, 290, 0, 0)] (pc' := 47) (ls' := [(0, .inr (.inr x0))]) (st' := []) (m2 := (jsI (jsI (jsI (jsI (jsI (jsP m6 x0 1 (32 + jN (jsP m3 x0 0 (32 + jN m)))) x0 2 (0 : Int32)) x0 3 (0 : Int32)) x0 4 (0 : Int32)) x0 5 (0 : Int32)) x0 6 (0 : Int32))) (by decide +kernel) rfl ⟨w7, w7, w7, w7, w7, w7, trivial⟩ ?_
  refine jS.cast (c' := (47, [(0, .inr (.inr x0))], [], m8)) (by rw [em8]) ?_
  obtain ⟨w9, H⟩ := jgd_ok H
  refine jS.adv O [(.aload_n 0, 0, 0, 0, 0, 0, 0), (.iconst 0, 0, 0, 0, 0, (0 : Int32), 0), (.putfield 35, 0, 3, 7, 291, 0, 0), (.aload_n 0, 0, 0, 0, 0, 0, 0), (.iconst (-1), 0, 0, 0, 0, (-1 : Int32), 0), (.putfield 38, 0, 3, 8, 292, 0, 0)] (pc' := 57) (ls' := [(0, .inr (.inr x0))]) (st' := []) (m2 := (jsI (jsI m8 x0 7 (0 : Int32)) x0 8 (-1 : Int32))) (by decide +kernel) rfl ⟨w9, w9, trivial⟩ ?_
  replace H := Option.some.inj H
  subst H
  exact jS.vret rfl (by decide +kernel)
def c_X3_take (F : Nat) (m : jMe) (x0 : Nat) (x1 : Int32) : Option (Int32 × jMe) :=
  jgd (jK m x0 = 35) <| (if (jI m x0 2) < (160 : Int32) then jgd (jK m (jP m x0 0) = 3) <| jgd (jin (jI m x0 2) (jZ m (jP m x0 0)) = true) <| some ((1 : Int32), (jsI (jsI m (jP m x0 0) (jI m x0 2).toNatClampNeg (vp_nar .char (ji2c x1))) x0 2 ((jI (jsI m (jP m x0 0) (jI m x0 2).toNatClampNeg (vp_nar .char (ji2c x1))) x0 2) + (1 : Int32)))) else some ((0 : Int32), m))
theorem ec_X3_take {X : jX} {l : Launch} {d : Nat} (O : jOk X) (hd : 2 ≤ d) {F : Nat} {m : jMe} {x0 : Nat} {x1 : Int32} {r : Int32 × jMe} (H : c_X3_take F m x0 x1 = some r) : jH X l d jm_X3_take [.inr (.inr x0), .inl x1] m (some (.inl r.1)) r.2 := by
  refine jH.of jpl_RX3 rfl (Nat.le_of_ble_eq_true rfl) ?_
  show jS X l d jm_X3_take m _ _ (0, [(0, .inr (.inr x0)), (1, .inl x1)], [], m)
  unfold c_X3_take at H
  obtain ⟨w1, H⟩ := jgd_ok H
  refine jS.adv O [(.aload_n 0, 0, 0, 0, 0, 0, 0), (.getfield 19, 0, 3, 2, 284, 0, 0), (.sipush 160, 0, 0, 0, 0, (160 : Int32), 0)] (pc' := 7) (ls' := [(0, .inr (.inr x0)), (1, .inl x1)]) (st' := [.inl (160 : Int32), .inl (jI m x0 2)]) (m2 := m) (by decide +kernel) rfl ⟨w1, trivial⟩ ?_
  refine jS.br (i := .if_icmp .lt 5) (P := (jI m x0 2) < (160 : Int32)) (rest := []) rfl (by decide +kernel) (tgt := 12) (by decide) (fun c2 => ?_) (fun c2 => ?_)
  · replace H := jif_t c2 H
    obtain ⟨w3, H⟩ := jgd_ok H
    obtain ⟨w4, H⟩ := jgd_ok H
    refine jS.adv O [(.aload_n 0, 0, 0, 0, 0, 0, 0), (.getfield 9, 0, 3, 0, 281, 0, 0), (.aload_n 0, 0, 0, 0, 0, 0, 0), (.getfield 19, 0, 3, 2, 284, 0, 0), (.iload_n 1, 0, 0, 0, 0, 0, 0), (.i2c, 0, 0, 0, 0, 0, 0), (.castore, 0, 0, 0, 0, 0, 0), (.aload_n 0, 0, 0, 0, 0, 0, 0), (.dup, 0, 0, 0, 0, 0, 0), (.getfield 19, 0, 3, 2, 284, 0, 0), (.iconst 1, 0, 0, 0, 0, (1 : Int32), 0), (.iadd, 0, 0, 0, 0, 0, 0), (.putfield 19, 0, 3, 2, 284, 0, 0), (.iconst 1, 0, 0, 0, 0, (1 : Int32), 0)] (pc' := 34) (ls' := [(0, .inr (.inr x0)), (1, .inl x1)]) (st' := [.inl (1 : Int32)]) (m2 := (jsI (jsI m (jP m x0 0) (jI m x0 2).toNatClampNeg (vp_nar .char (ji2c x1))) x0 2 ((jI (jsI m (jP m x0 0) (jI m x0 2).toNatClampNeg (vp_nar .char (ji2c x1))) x0 2) + (1 : Int32)))) (by decide +kernel) rfl ⟨w1, w1, ⟨w3, jib_ok w4⟩, w1, w1, trivial⟩ ?_
    replace H := Option.some.inj H
    subst H
    exact jS.zret rfl (Or.inr rfl) (by decide +kernel)
  · replace H := jif_f c2 H
    refine jS.adv O [(.iconst 0, 0, 0, 0, 0, (0 : Int32), 0)] (pc' := 11) (ls' := [(0, .inr (.inr x0)), (1, .inl x1)]) (st' := [.inl (0 : Int32)]) (m2 := m) (by decide +kernel) rfl trivial ?_
    replace H := Option.some.inj H
    subst H
    exact jS.zret rfl (Or.inl rfl) (by decide +kernel)
def c_X3_isSign (F : Nat) (m : jMe) (x0 : Int32) : Option (Int32) :=
  jgd (jK m 10 = 10) <| jb (c_J0_indexOf_0f7a4 F m 10 x0) fun t3 => (if t3 < 0 then some (0 : Int32) else some (1 : Int32))
theorem ec_X3_isSign {X : jX} {l : Launch} {d : Nat} (O : jOk X) (hd : 6 ≤ d) {F : Nat} {m : jMe} {x0 : Int32} {r : Int32} (H : c_X3_isSign F m x0 = some r) : jH X l d jm_X3_isSign [.inl x0] m (some (.inl r)) m := by
  refine jH.of jpl_RX3 rfl (Nat.le_of_ble_eq_true rfl) ?_
  show jS X l d jm_X3_isSign m _ _ (0, [(0, .inl x0)], [], m)
  unfold c_X3_isSign at H
  refine jS.step (c' := (2, [(0, .inl x0)], [.inr (.inr 10)], m)) (jSt.str O rfl (idx := 101) (tx := "();+-*%<=") (a := 10) (by decide) (by decide) (by decide +kernel)) ?_
  obtain ⟨w1, H⟩ := jgd_ok H
  refine jS.adv O [(.iload_n 0, 0, 0, 0, 0, 0, 0)] (pc' := 3) (ls' := [(0, .inl x0)]) (st' := [.inl x0, .inr (.inr 10)]) (m2 := m) (by decide +kernel) rfl trivial ?_
  obtain ⟨t3, w2, H⟩ := jb_ok H
  refine jS.step (c' := (6, [(0, .inl x0)], [.inl t3], m)) (jSt.callT (As := [.inl x0]) (rest := []) O (ec_J0_indexOf_0f7a4 (d := 5) O (Nat.le_refl _) w2) w1 rfl (by omega) jmw_J0_indexOf_0f7a4 jmv_J0_indexOf_0f7a4 jmn_J0_indexOf_0f7a4 (idx := 103) (jW_of 968 (by decide +kernel) rfl) (Nat.le_of_ble_eq_true rfl) (by decide +kernel)) ?_
  refine jS.br (i := .ifCond .lt 7) (P := t3 < 0) (rest := []) rfl (by decide +kernel) (tgt := 13) (by decide) (fun c4 => ?_) (fun c4 => ?_)
  · replace H := jif_t c4 H
    refine jS.adv O [(.iconst 0, 0, 0, 0, 0, (0 : Int32), 0)] (pc' := 14) (ls' := [(0, .inl x0)]) (st' := [.inl (0 : Int32)]) (m2 := m) (by decide +kernel) rfl trivial ?_
    replace H := Option.some.inj H
    subst H
    exact jS.zret rfl (Or.inl rfl) (by decide +kernel)
  · replace H := jif_f c4 H
    refine jS.adv O [(.iconst 1, 0, 0, 0, 0, (1 : Int32), 0), (.goto 4, 0, 14, 0, 0, 0, 0)] (pc' := 14) (ls' := [(0, .inl x0)]) (st' := [.inl (1 : Int32)]) (m2 := m) (by decide +kernel) rfl trivial ?_
    replace H := Option.some.inj H
    subst H
    exact jS.zret rfl (Or.inr rfl) (by decide +kernel)
def c_X3_fail_j16 (F : Nat) (m : jMe) (y0 : Nat) : Option (jMe) :=
  jgd (jK m y0 = 35) <| some (jsI m y0 6 (0 : Int32))
theorem ec_X3_fail_j16 {X : jX} {l : Launch} {d : Nat} (O : jOk X) (hd : 2 ≤ d) {F : Nat} {m0 m : jMe} {y0 : Nat} {r : jMe} (H : c_X3_fail_j16 F m y0 = some r) : jS X l d jm_X3_fail m0 none r (16, [(0, .inr (.inr y0))], [], m) := by
  unfold c_X3_fail_j16 at H
  obtain ⟨w3, H⟩ := jgd_ok H
  refine jS.adv O [(.aload_n 0, 0, 0, 0, 0, 0, 0), (.iconst 0, 0, 0, 0, 0, (0 : Int32), 0), (.putfield 32, 0, 3, 6, 290, 0, 0)] (pc' := 21) (ls' := [(0, .inr (.inr y0))]) (st' := []) (m2 := (jsI m y0 6 (0 : Int32))) (by decide +kernel) rfl ⟨w3, trivial⟩ ?_
  replace H := Option.some.inj H
  subst H
  exact jS.vret rfl (by decide +kernel)
def c_X3_fail (F : Nat) (m : jMe) (x0 : Nat) : Option (jMe) :=
  jgd (jK m x0 = 35) <| (if (jI m x0 8) = (-1 : Int32) then c_X3_fail_j16 F (jsI m x0 8 (jI m x0 5)) x0 else c_X3_fail_j16 F m x0)
theorem ec_X3_fail {X : jX} {l : Launch} {d : Nat} (O : jOk X) (hd : 2 ≤ d) {F : Nat} {m : jMe} {x0 : Nat} {r : jMe} (H : c_X3_fail F m x0 = some r) : jH X l d jm_X3_fail [.inr (.inr x0)] m none r := by
  refine jH.of jpl_RX3 rfl (Nat.le_of_ble_eq_true rfl) ?_
  show jS X l d jm_X3_fail m _ _ (0, [(0, .inr (.inr x0))], [], m)
  unfold c_X3_fail at H
  obtain ⟨w1, H⟩ := jgd_ok H
  refine jS.adv O [(.aload_n 0, 0, 0, 0, 0, 0, 0), (.getfield 38, 0, 3, 8, 292, 0, 0), (.iconst (-1), 0, 0, 0, 0, (-1 : Int32), 0)] (pc' := 5) (ls' := [(0, .inr (.inr x0))]) (st' := [.inl (-1 : Int32), .inl (jI m x0 8)]) (m2 := m) (by decide +kernel) rfl ⟨w1, trivial⟩ ?_
  refine jS.br (i := .if_icmp .ne 11) (P := ¬ (jI m x0 8) = (-1 : Int32)) (rest := []) rfl (by decide +kernel) (tgt := 16) (by decide) (fun c2 => ?_) (fun c2 => ?_)
  · replace H := jif_f c2 H
    refine jS.loc' [0] (ls' := [(0, .inr (.inr x0))]) rfl ?_
    exact ec_X3_fail_j16 O hd H
  · replace H := jif_t (Classical.not_not.mp c2) H
    refine jS.adv O [(.aload_n 0, 0, 0, 0, 0, 0, 0), (.aload_n 0, 0, 0, 0, 0, 0, 0), (.getfield 29, 0, 3, 5, 289, 0, 0), (.putfield 38, 0, 3, 8, 292, 0, 0)] (pc' := 16) (ls' := [(0, .inr (.inr x0))]) (st' := []) (m2 := (jsI m x0 8 (jI m x0 5))) (by decide +kernel) rfl ⟨w1, w1, trivial⟩ ?_
    refine jS.loc' [0] (ls' := [(0, .inr (.inr x0))]) rfl ?_
    exact ec_X3_fail_j16 O hd H
def c_X3_isLetter (F : Nat) (m : jMe) (x0 : Nat) (x1 : Int32) : Option (Int32) :=
  jgd (jK m x0 = 35) <| (if (jI m x0 2) ≤ x1 then some (0 : Int32) else jgd (jK m (jP m x0 0) = 3) <| jgd (jin x1 (jZ m (jP m x0 0)) = true) <| (if (jI m (jP m x0 0) x1.toNatClampNeg) < (97 : Int32) then some (0 : Int32) else jgd (jin x1 (jZ m (jP m x0 0)) = true) <| (if (122 : Int32) < (jI m (jP m x0 0) x1.toNatClampNeg) then some (0 : Int32) else some (1 : Int32))))
theorem ec_X3_isLetter {X : jX} {l : Launch} {d : Nat} (O : jOk X) (hd : 2 ≤ d) {F : Nat} {m : jMe} {x0 : Nat} {x1 : Int32} {r : Int32} (H : c_X3_isLetter F m x0 x1 = some r) : jH X l d jm_X3_isLetter [.inr (.inr x0), .inl x1] m (some (.inl r)) m := by
  refine jH.of jpl_RX3 rfl (Nat.le_of_ble_eq_true rfl) ?_
  show jS X l d jm_X3_isLetter m _ _ (0, [(0, .inr (.inr x0)), (1, .inl x1)], [], m)
  unfold c_X3_isLetter at H
  obtain ⟨w1, H⟩ := jgd_ok H
  refine jS.adv O [(.iload_n 1, 0, 0, 0, 0, 0, 0), (.aload_n 0, 0, 0, 0, 0, 0, 0), (.getfield 19, 0, 3, 2, 284, 0, 0)] (pc' := 5) (ls' := [(0, .inr (.inr x0)), (1, .inl x1)]) (st' := [.inl (jI m x0 2), .inl x1]) (m2 := m) (by decide +kernel) rfl ⟨w1, trivial⟩ ?_
  refine jS.br (i := .if_icmp .ge 29) (P := (jI m x0 2) ≤ x1) (rest := []) rfl (by decide +kernel) (tgt := 34) (by decide) (fun c2 => ?_) (fun c2 => ?_)
  · replace H := jif_t c2 H
    refine jS.adv O [(.iconst 0, 0, 0, 0, 0, (0 : Int32), 0)] (pc' := 35) (ls' := [(0, .inr (.inr x0)), (1, .inl x1)]) (st' := [.inl (0 : Int32)]) (m2 := m) (by decide +kernel) rfl trivial ?_
    replace H := Option.some.inj H
    subst H
    exact jS.zret rfl (Or.inl rfl) (by decide +kernel)
  · replace H := jif_f c2 H
    obtain ⟨w3, H⟩ := jgd_ok H
    obtain ⟨w4, H⟩ := jgd_ok H
    refine jS.adv O [(.aload_n 0, 0, 0, 0, 0, 0, 0), (.getfield 9, 0, 3, 0, 281, 0, 0), (.iload_n 1, 0, 0, 0, 0, 0, 0), (.caload, 0, 0, 0, 0, 0, 0), (.bipush 97, 0, 0, 0, 0, (97 : Int32), 0)] (pc' := 16) (ls' := [(0, .inr (.inr x0)), (1, .inl x1)]) (st' := [.inl (97 : Int32), .inl (jI m (jP m x0 0) x1.toNatClampNeg)]) (m2 := m) (by decide +kernel) rfl ⟨w1, ⟨w3, jib_ok w4⟩, trivial⟩ ?_
    refine jS.br (i := .if_icmp .lt 18) (P := (jI m (jP m x0 0) x1.toNatClampNeg) < (97 : Int32)) (rest := []) rfl (by decide +kernel) (tgt := 34) (by decide) (fun c5 => ?_) (fun c5 => ?_)
    · replace H := jif_t c5 H
      refine jS.adv O [(.iconst 0, 0, 0, 0, 0, (0 : Int32), 0)] (pc' := 35) (ls' := [(0, .inr (.inr x0)), (1, .inl x1)]) (st' := [.inl (0 : Int32)]) (m2 := m) (by decide +kernel) rfl trivial ?_
      replace H := Option.some.inj H
      subst H
      exact jS.zret rfl (Or.inl rfl) (by decide +kernel)
    · replace H := jif_f c5 H
      obtain ⟨w6, H⟩ := jgd_ok H
      refine jS.adv O [(.aload_n 0, 0, 0, 0, 0, 0, 0), (.getfield 9, 0, 3, 0, 281, 0, 0), (.iload_n 1, 0, 0, 0, 0, 0, 0), (.caload, 0, 0, 0, 0, 0, 0), (.bipush 122, 0, 0, 0, 0, (122 : Int32), 0)] (pc' := 27) (ls' := [(0, .inr (.inr x0)), (1, .inl x1)]) (st' := [.inl (122 : Int32), .inl (jI m (jP m x0 0) x1.toNatClampNeg)]) (m2 := m) (by decide +kernel) rfl ⟨w1, ⟨w3, jib_ok w6⟩, trivial⟩ ?_
      refine jS.br (i := .if_icmp .gt 7) (P := (122 : Int32) < (jI m (jP m x0 0) x1.toNatClampNeg)) (rest := []) rfl (by decide +kernel) (tgt := 34) (by decide) (fun c7 => ?_) (fun c7 => ?_)
      · replace H := jif_t c7 H
        refine jS.adv O [(.iconst 0, 0, 0, 0, 0, (0 : Int32), 0)] (pc' := 35) (ls' := [(0, .inr (.inr x0)), (1, .inl x1)]) (st' := [.inl (0 : Int32)]) (m2 := m) (by decide +kernel) rfl trivial ?_
        replace H := Option.some.inj H
        subst H
        exact jS.zret rfl (Or.inl rfl) (by decide +kernel)
      · replace H := jif_f c7 H
        refine jS.adv O [(.iconst 1, 0, 0, 0, 0, (1 : Int32), 0), (.goto 4, 0, 35, 0, 0, 0, 0)] (pc' := 35) (ls' := [(0, .inr (.inr x0)), (1, .inl x1)]) (st' := [.inl (1 : Int32)]) (m2 := m) (by decide +kernel) rfl trivial ?_
        replace H := Option.some.inj H
        subst H
        exact jS.zret rfl (Or.inr rfl) (by decide +kernel)
def c_X3_isWord_l20_b (F : Nat) (B : Nat → Nat → Int32 → Option (Int32 ⊕ Unit)) (m : jMe) (y0 : Nat) (y1 : Nat) (y2 : Int32) : Option (Int32 ⊕ Unit) :=
  jgd (jK m y1 = 10) <| jb (c_J0_length_8abf5 F m y1) fun t8 => (if t8 ≤ y2 then some (.inr ()) else jgd (jK m y0 = 35) <| jgd (jK m (jP m y0 0) = 3) <| jgd (jin ((jI m y0 5) + y2) (jZ m (jP m y0 0)) = true) <| jb (c_J0_charAt_5068e F m y1 y2) fun t14 => (if (jI m (jP m y0 0) ((jI m y0 5) + y2).toNatClampNeg) = t14 then B y0 y1 (y2 + (1 : Int32)) else some (.inl (0 : Int32))))
theorem ec_X3_isWord_l20_b {X : jX} {l : Launch} {d : Nat} (O : jOk X) (hd : 6 ≤ d) {F : Nat} {m0 m' : jMe} {v : Option jAV} {m : jMe} {B : Nat → Nat → Int32 → Option (Int32 ⊕ Unit)} (hB : ∀ (y0 : Nat) (y1 : Nat) (y2 : Int32) (r : Int32 ⊕ Unit), B y0 y1 y2 = some r → (∀ q, r = .inl q → v = (some (.inl q)) ∧ m' = m) → (∀ e, r = .inr e → jS X l d jm_X3_isWord m0 v m' (55, [], [], m)) → jS X l d jm_X3_isWord m0 v m' (20, [(0, .inr (.inr y0)), (1, .inr (.inr y1)), (2, .inl y2)], [], m)) {y0 : Nat} {y1 : Nat} {y2 : Int32} {r : Int32 ⊕ Unit} (H : c_X3_isWord_l20_b F B m y0 y1 y2 = some r) (h1 : ∀ q, r = .inl q → v = (some (.inl q)) ∧ m' = m) (h2 : ∀ e, r = .inr e → jS X l d jm_X3_isWord m0 v m' (55, [], [], m)) : jS X l d jm_X3_isWord m0 v m' (20, [(0, .inr (.inr y0)), (1, .inr (.inr y1)), (2, .inl y2)], [], m) := by
  unfold c_X3_isWord_l20_b at H
  obtain ⟨w6, H⟩ := jgd_ok H
  refine jS.adv O [(.iload_n 2, 0, 0, 0, 0, 0, 0), (.aload_n 1, 0, 0, 0, 0, 0, 0)] (pc' := 22) (ls' := [(0, .inr (.inr y0)), (1, .inr (.inr y1)), (2, .inl y2)]) (st' := [.inr (.inr y1), .inl y2]) (m2 := m) (by decide +kernel) rfl trivial ?_
  obtain ⟨t8, w7, H⟩ := jb_ok H
  refine jS.step (c' := (25, [(0, .inr (.inr y0)), (1, .inr (.inr y1)), (2, .inl y2)], [.inl t8, .inl y2], m)) (jSt.callT (As := []) (rest := [.inl y2]) O (ec_J0_length_8abf5 (d := 3) O (Nat.le_refl _) w7) w6 rfl (by omega) jmw_J0_length_8abf5 jmv_J0_length_8abf5 jmn_J0_length_8abf5 (idx := 131) (jW_of 898 (by decide +kernel) rfl) (Nat.le_of_ble_eq_true rfl) (by decide +kernel)) ?_
  refine jS.br (i := .if_icmp .ge 30) (P := t8 ≤ y2) (rest := []) rfl (by decide +kernel) (tgt := 55) (by decide) (fun c9 => ?_) (fun c9 => ?_)
  · replace H := jif_t c9 H
    replace H := Option.some.inj H
    subst H
    refine jS.loc' [] (ls' := []) rfl ?_
    exact h2 _ rfl
  · replace H := jif_f c9 H
    obtain ⟨w10, H⟩ := jgd_ok H
    obtain ⟨w11, H⟩ := jgd_ok H
    obtain ⟨w12, H⟩ := jgd_ok H
    refine jS.adv O [(.aload_n 0, 0, 0, 0, 0, 0, 0), (.getfield 9, 0, 3, 0, 281, 0, 0), (.aload_n 0, 0, 0, 0, 0, 0, 0), (.getfield 29, 0, 3, 5, 289, 0, 0), (.iload_n 2, 0, 0, 0, 0, 0, 0), (.iadd, 0, 0, 0, 0, 0, 0), (.caload, 0, 0, 0, 0, 0, 0), (.aload_n 1, 0, 0, 0, 0, 0, 0), (.iload_n 2, 0, 0, 0, 0, 0, 0)] (pc' := 41) (ls' := [(0, .inr (.inr y0)), (1, .inr (.inr y1)), (2, .inl y2)]) (st' := [.inl y2, .inr (.inr y1), .inl (jI m (jP m y0 0) ((jI m y0 5) + y2).toNatClampNeg)]) (m2 := m) (by decide +kernel) rfl ⟨w10, w10, ⟨w11, jib_ok w12⟩, trivial⟩ ?_
    obtain ⟨t14, w13, H⟩ := jb_ok H
    refine jS.step (c' := (44, [(0, .inr (.inr y0)), (1, .inr (.inr y1)), (2, .inl y2)], [.inl t14, .inl (jI m (jP m y0 0) ((jI m y0 5) + y2).toNatClampNeg)], m)) (jSt.callT (As := [.inl y2]) (rest := [.inl (jI m (jP m y0 0) ((jI m y0 5) + y2).toNatClampNeg)]) O (ec_J0_charAt_5068e (d := 5) O (Nat.le_refl _) w13) w6 rfl (by omega) jmw_J0_charAt_5068e jmv_J0_charAt_5068e jmn_J0_charAt_5068e (idx := 134) (jW_of 908 (by decide +kernel) rfl) (Nat.le_of_ble_eq_true rfl) (by decide +kernel)) ?_
    refine jS.br (i := .if_icmp .eq 5) (P := (jI m (jP m y0 0) ((jI m y0 5) + y2).toNatClampNeg) = t14) (rest := []) rfl (by decide +kernel) (tgt := 49) (by decide) (fun c15 => ?_) (fun c15 => ?_)
    · replace H := jif_t c15 H
      refine jS.adv O [(.iinc 2 1, 0, 0, 0, 0, (1 : Int32), 0), (.goto (-32), 0, 20, 0, 0, 0, 0)] (pc' := 20) (ls' := [(2, .inl (y2 + (1 : Int32))), (0, .inr (.inr y0)), (1, .inr (.inr y1))]) (st' := []) (m2 := m) (by decide +kernel) rfl trivial ?_
      refine jS.loc' [1, 2, 0] (ls' := [(0, .inr (.inr y0)), (1, .inr (.inr y1)), (2, .inl (y2 + (1 : Int32)))]) rfl ?_
      exact hB _ _ _ _ H h1 h2
    · replace H := jif_f c15 H
      refine jS.adv O [(.iconst 0, 0, 0, 0, 0, (0 : Int32), 0)] (pc' := 48) (ls' := [(0, .inr (.inr y0)), (1, .inr (.inr y1)), (2, .inl y2)]) (st' := [.inl (0 : Int32)]) (m2 := m) (by decide +kernel) rfl trivial ?_
      replace H := Option.some.inj H
      subst H
      obtain ⟨q1, q2⟩ := h1 _ rfl
      subst q1; subst q2
      exact jS.zret rfl (Or.inl rfl) (by decide +kernel)
def c_X3_isWord_l20 (F : Nat) (m : jMe) : Nat → Nat → Nat → Int32 → Option (Int32 ⊕ Unit)
  | 0, _, _, _ => none
  | n + 1, y0, y1, y2 => c_X3_isWord_l20_b F (fun y0 y1 y2 => c_X3_isWord_l20 F m n y0 y1 y2) m y0 y1 y2
theorem ec_X3_isWord_l20 {X : jX} {l : Launch} {d : Nat} (O : jOk X) (hd : 6 ≤ d) {F : Nat} {m0 m' : jMe} {v : Option jAV} {m : jMe} : ∀ (n : Nat) {y0 : Nat} {y1 : Nat} {y2 : Int32} {r : Int32 ⊕ Unit} (H : c_X3_isWord_l20 F m n y0 y1 y2 = some r) (h1 : ∀ q, r = .inl q → v = (some (.inl q)) ∧ m' = m) (h2 : ∀ e, r = .inr e → jS X l d jm_X3_isWord m0 v m' (55, [], [], m)), jS X l d jm_X3_isWord m0 v m' (20, [(0, .inr (.inr y0)), (1, .inr (.inr y1)), (2, .inl y2)], [], m) := by
  intro n
  induction n with
  | zero =>
    intro y0 y1 y2 r H h1 h2
    cases (show none = some r from H)
  | succ n ih =>
    intro y0 y1 y2 r H h1 h2
    exact ec_X3_isWord_l20_b O hd (B := (fun y0 y1 y2 => c_X3_isWord_l20 F m n y0 y1 y2)) (fun y0 y1 y2 r H h1 h2 => ih H h1 h2) H h1 h2
def c_X3_isWord (F : Nat) (m : jMe) (x0 : Nat) (x1 : Nat) : Option (Int32) :=
  jgd (jK m x0 = 35) <| jgd (jK m x1 = 10) <| jb (c_J0_length_8abf5 F m x1) fun t4 => (if ((jI m x0 4) - (jI m x0 5)) = t4 then jb2 (c_X3_isWord_l20 F m F x0 x1 (0 : Int32)) (fun q => some q) fun e17 => some (1 : Int32) else some (0 : Int32))
theorem ec_X3_isWord {X : jX} {l : Launch} {d : Nat} (O : jOk X) (hd : 6 ≤ d) {F : Nat} {m : jMe} {x0 : Nat} {x1 : Nat} {r : Int32} (H : c_X3_isWord F m x0 x1 = some r) : jH X l d jm_X3_isWord [.inr (.inr x0), .inr (.inr x1)] m (some (.inl r)) m := by
  refine jH.of jpl_RX3 rfl (Nat.le_of_ble_eq_true rfl) ?_
  show jS X l d jm_X3_isWord m _ _ (0, [(0, .inr (.inr x0)), (1, .inr (.inr x1))], [], m)
  unfold c_X3_isWord at H
  obtain ⟨w1, H⟩ := jgd_ok H
  obtain ⟨w2, H⟩ := jgd_ok H
  refine jS.adv O [(.aload_n 0, 0, 0, 0, 0, 0, 0), (.getfield 26, 0, 3, 4, 288, 0, 0), (.aload_n 0, 0, 0, 0, 0, 0, 0), (.getfield 29, 0, 3, 5, 289, 0, 0), (.isub, 0, 0, 0, 0, 0, 0), (.aload_n 1, 0, 0, 0, 0, 0, 0)] (pc' := 10) (ls' := [(0, .inr (.inr x0)), (1, .inr (.inr x1))]) (st' := [.inr (.inr x1), .inl ((jI m x0 4) - (jI m x0 5))]) (m2 := m) (by decide +kernel) rfl ⟨w1, w1, trivial⟩ ?_
  obtain ⟨t4, w3, H⟩ := jb_ok H
  refine jS.step (c' := (13, [(0, .inr (.inr x0)), (1, .inr (.inr x1))], [.inl t4, .inl ((jI m x0 4) - (jI m x0 5))], m)) (jSt.callT (As := []) (rest := [.inl ((jI m x0 4) - (jI m x0 5))]) O (ec_J0_length_8abf5 (d := 3) O (Nat.le_refl _) w3) w2 rfl (by omega) jmw_J0_length_8abf5 jmv_J0_length_8abf5 jmn_J0_length_8abf5 (idx := 131) (jW_of 898 (by decide +kernel) rfl) (Nat.le_of_ble_eq_true rfl) (by decide +kernel)) ?_
  refine jS.br (i := .if_icmp .eq 5) (P := ((jI m x0 4) - (jI m x0 5)) = t4) (rest := []) rfl (by decide +kernel) (tgt := 18) (by decide) (fun c5 => ?_) (fun c5 => ?_)
  · replace H := jif_t c5 H
    refine jS.adv O [(.iconst 0, 0, 0, 0, 0, (0 : Int32), 0), (.istore_n 2, 0, 0, 0, 0, 0, 0)] (pc' := 20) (ls' := [(2, .inl (0 : Int32)), (0, .inr (.inr x0)), (1, .inr (.inr x1))]) (st' := []) (m2 := m) (by decide +kernel) rfl trivial ?_
    refine jS.loc' [1, 2, 0] (ls' := [(0, .inr (.inr x0)), (1, .inr (.inr x1)), (2, .inl (0 : Int32))]) rfl ?_
    rcases jb2_ok H with ⟨q16, w18, H⟩ | ⟨e17, w18, H⟩
    · refine ec_X3_isWord_l20 O hd F w18 (fun q2 hq2 => ?_) (fun e2 he2 => by cases he2)
      cases hq2
      cases H
      exact ⟨rfl, rfl⟩
    · refine ec_X3_isWord_l20 O hd F w18 (fun q2 hq2 => by cases hq2) (fun e2 he2 => ?_)
      cases he2
      refine jS.adv O [(.iconst 1, 0, 0, 0, 0, (1 : Int32), 0)] (pc' := 56) (ls' := []) (st' := [.inl (1 : Int32)]) (m2 := m) (by decide +kernel) rfl trivial ?_
      replace H := Option.some.inj H
      subst H
      exact jS.zret rfl (Or.inr rfl) (by decide +kernel)
  · replace H := jif_f c5 H
    refine jS.adv O [(.iconst 0, 0, 0, 0, 0, (0 : Int32), 0)] (pc' := 17) (ls' := [(0, .inr (.inr x0)), (1, .inr (.inr x1))]) (st' := [.inl (0 : Int32)]) (m2 := m) (by decide +kernel) rfl trivial ?_
    replace H := Option.some.inj H
    subst H
    exact jS.zret rfl (Or.inl rfl) (by decide +kernel)
def c_X3_nameOf_j40 (F : Nat) (m : jMe) (y0 : Nat) : Option (Int32) :=
  jgd (jK m y0 = 35) <| jb (c_X3_isWord F m y0 3) fun t5 => (if t5 = 0 then jb (c_X3_isWord F m y0 4) fun t8 => (if t8 = 0 then jb (c_X3_isWord F m y0 5) fun t11 => (if t11 = 0 then some (-1 : Int32) else some (8 : Int32)) else some (7 : Int32)) else some (6 : Int32))
theorem ec_X3_nameOf_j40 {X : jX} {l : Launch} {d : Nat} (O : jOk X) (hd : 7 ≤ d) {F : Nat} {m0 m : jMe} {y0 : Nat} {r : Int32} (H : c_X3_nameOf_j40 F m y0 = some r) : jS X l d jm_X3_nameOf m0 (some (.inl r)) m (40, [(0, .inr (.inr y0))], [], m) := by
  unfold c_X3_nameOf_j40 at H
  refine jS.adv O [(.aload_n 0, 0, 0, 0, 0, 0, 0)] (pc' := 41) (ls' := [(0, .inr (.inr y0))]) (st' := [.inr (.inr y0)]) (m2 := m) (by decide +kernel) rfl trivial ?_
  refine jS.step (c' := (43, [(0, .inr (.inr y0))], [.inr (.inr 3), .inr (.inr y0)], m)) (jSt.str O rfl (idx := 125) (tx := "row") (a := 3) (by decide) (by decide) (by decide +kernel)) ?_
  obtain ⟨w3, H⟩ := jgd_ok H
  obtain ⟨t5, w4, H⟩ := jb_ok H
  refine jS.step (c' := (46, [(0, .inr (.inr y0))], [.inl t5], m)) (jSt.callV (c := 3) (As := [.inr (.inr 3)]) (rest := []) O (ec_X3_isWord (d := 6) O (Nat.le_refl _) w4) w3 (by decide) rfl (by omega) jmw_X3_isWord jmv_X3_isWord jmn_X3_isWord (idx := 115) (jW_of 894 (by decide +kernel) rfl) (Nat.le_of_ble_eq_true rfl) (by decide +kernel)) ?_
  refine jS.br (i := .ifCond .eq 8) (P := t5 = 0) (rest := []) rfl (by decide +kernel) (tgt := 54) (by decide) (fun c6 => ?_) (fun c6 => ?_)
  · replace H := jif_t c6 H
    refine jS.adv O [(.aload_n 0, 0, 0, 0, 0, 0, 0)] (pc' := 55) (ls' := [(0, .inr (.inr y0))]) (st' := [.inr (.inr y0)]) (m2 := m) (by decide +kernel) rfl trivial ?_
    refine jS.step (c' := (57, [(0, .inr (.inr y0))], [.inr (.inr 4), .inr (.inr y0)], m)) (jSt.str O rfl (idx := 127) (tx := "from") (a := 4) (by decide) (by decide) (by decide +kernel)) ?_
    obtain ⟨t8, w7, H⟩ := jb_ok H
    refine jS.step (c' := (60, [(0, .inr (.inr y0))], [.inl t8], m)) (jSt.callV (c := 3) (As := [.inr (.inr 4)]) (rest := []) O (ec_X3_isWord (d := 6) O (Nat.le_refl _) w7) w3 (by decide) rfl (by omega) jmw_X3_isWord jmv_X3_isWord jmn_X3_isWord (idx := 115) (jW_of 894 (by decide +kernel) rfl) (Nat.le_of_ble_eq_true rfl) (by decide +kernel)) ?_
    refine jS.br (i := .ifCond .eq 8) (P := t8 = 0) (rest := []) rfl (by decide +kernel) (tgt := 68) (by decide) (fun c9 => ?_) (fun c9 => ?_)
    · replace H := jif_t c9 H
      refine jS.adv O [(.aload_n 0, 0, 0, 0, 0, 0, 0)] (pc' := 69) (ls' := [(0, .inr (.inr y0))]) (st' := [.inr (.inr y0)]) (m2 := m) (by decide +kernel) rfl trivial ?_
      refine jS.step (c' := (71, [(0, .inr (.inr y0))], [.inr (.inr 5), .inr (.inr y0)], m)) (jSt.str O rfl (idx := 129) (tx := "copies") (a := 5) (by decide) (by decide) (by decide +kernel)) ?_
      obtain ⟨t11, w10, H⟩ := jb_ok H
      refine jS.step (c' := (74, [(0, .inr (.inr y0))], [.inl t11], m)) (jSt.callV (c := 3) (As := [.inr (.inr 5)]) (rest := []) O (ec_X3_isWord (d := 6) O (Nat.le_refl _) w10) w3 (by decide) rfl (by omega) jmw_X3_isWord jmv_X3_isWord jmn_X3_isWord (idx := 115) (jW_of 894 (by decide +kernel) rfl) (Nat.le_of_ble_eq_true rfl) (by decide +kernel)) ?_
      refine jS.br (i := .ifCond .eq 8) (P := t11 = 0) (rest := []) rfl (by decide +kernel) (tgt := 82) (by decide) (fun c12 => ?_) (fun c12 => ?_)
      · replace H := jif_t c12 H
        refine jS.adv O [(.iconst (-1), 0, 0, 0, 0, (-1 : Int32), 0)] (pc' := 83) (ls' := [(0, .inr (.inr y0))]) (st' := [.inl (-1 : Int32)]) (m2 := m) (by decide +kernel) rfl trivial ?_
        replace H := Option.some.inj H
        subst H
        exact jS.iret rfl (by decide +kernel)
      · replace H := jif_f c12 H
        refine jS.adv O [(.bipush 8, 0, 0, 0, 0, (8 : Int32), 0), (.goto 4, 0, 83, 0, 0, 0, 0)] (pc' := 83) (ls' := [(0, .inr (.inr y0))]) (st' := [.inl (8 : Int32)]) (m2 := m) (by decide +kernel) rfl trivial ?_
        replace H := Option.some.inj H
        subst H
        exact jS.iret rfl (by decide +kernel)
    · replace H := jif_f c9 H
      refine jS.adv O [(.bipush 7, 0, 0, 0, 0, (7 : Int32), 0), (.goto 18, 0, 83, 0, 0, 0, 0)] (pc' := 83) (ls' := [(0, .inr (.inr y0))]) (st' := [.inl (7 : Int32)]) (m2 := m) (by decide +kernel) rfl trivial ?_
      replace H := Option.some.inj H
      subst H
      exact jS.iret rfl (by decide +kernel)
  · replace H := jif_f c6 H
    refine jS.adv O [(.bipush 6, 0, 0, 0, 0, (6 : Int32), 0), (.goto 32, 0, 83, 0, 0, 0, 0)] (pc' := 83) (ls' := [(0, .inr (.inr y0))]) (st' := [.inl (6 : Int32)]) (m2 := m) (by decide +kernel) rfl trivial ?_
    replace H := Option.some.inj H
    subst H
    exact jS.iret rfl (by decide +kernel)
def c_X3_nameOf (F : Nat) (m : jMe) (x0 : Nat) : Option (Int32) :=
  jgd (jK m x0 = 35) <| (if ((jI m x0 4) - (jI m x0 5)) = (1 : Int32) then jgd (jK m (jP m x0 0) = 3) <| jgd (jin (jI m x0 5) (jZ m (jP m x0 0)) = true) <| (if (102 : Int32) < (jI m (jP m x0 0) (jI m x0 5).toNatClampNeg) then c_X3_nameOf_j40 F m x0 else jgd (jin (jI m x0 5) (jZ m (jP m x0 0)) = true) <| some ((jI m (jP m x0 0) (jI m x0 5).toNatClampNeg) - (97 : Int32))) else c_X3_nameOf_j40 F m x0)
theorem ec_X3_nameOf {X : jX} {l : Launch} {d : Nat} (O : jOk X) (hd : 7 ≤ d) {F : Nat} {m : jMe} {x0 : Nat} {r : Int32} (H : c_X3_nameOf F m x0 = some r) : jH X l d jm_X3_nameOf [.inr (.inr x0)] m (some (.inl r)) m := by
  refine jH.of jpl_RX3 rfl (Nat.le_of_ble_eq_true rfl) ?_
  show jS X l d jm_X3_nameOf m _ _ (0, [(0, .inr (.inr x0))], [], m)
  unfold c_X3_nameOf at H
  obtain ⟨w1, H⟩ := jgd_ok H
  refine jS.adv O [(.aload_n 0, 0, 0, 0, 0, 0, 0), (.getfield 26, 0, 3, 4, 288, 0, 0), (.aload_n 0, 0, 0, 0, 0, 0, 0), (.getfield 29, 0, 3, 5, 289, 0, 0), (.isub, 0, 0, 0, 0, 0, 0), (.iconst 1, 0, 0, 0, 0, (1 : Int32), 0)] (pc' := 10) (ls' := [(0, .inr (.inr x0))]) (st' := [.inl (1 : Int32), .inl ((jI m x0 4) - (jI m x0 5))]) (m2 := m) (by decide +kernel) rfl ⟨w1, w1, trivial⟩ ?_
  refine jS.br (i := .if_icmp .ne 30) (P := ¬ ((jI m x0 4) - (jI m x0 5)) = (1 : Int32)) (rest := []) rfl (by decide +kernel) (tgt := 40) (by decide) (fun c2 => ?_) (fun c2 => ?_)
  · replace H := jif_f c2 H
    refine jS.loc' [0] (ls' := [(0, .inr (.inr x0))]) rfl ?_
    exact ec_X3_nameOf_j40 O hd H
  · replace H := jif_t (Classical.not_not.mp c2) H
    obtain ⟨w13, H⟩ := jgd_ok H
    obtain ⟨w14, H⟩ := jgd_ok H
    refine jS.adv O [(.aload_n 0, 0, 0, 0, 0, 0, 0), (.getfield 9, 0, 3, 0, 281, 0, 0), (.aload_n 0, 0, 0, 0, 0, 0, 0), (.getfield 29, 0, 3, 5, 289, 0, 0), (.caload, 0, 0, 0, 0, 0, 0), (.bipush 102, 0, 0, 0, 0, (102 : Int32), 0)] (pc' := 24) (ls' := [(0, .inr (.inr x0))]) (st' := [.inl (102 : Int32), .inl (jI m (jP m x0 0) (jI m x0 5).toNatClampNeg)]) (m2 := m) (by decide +kernel) rfl ⟨w1, w1, ⟨w13, jib_ok w14⟩, trivial⟩ ?_
    refine jS.br (i := .if_icmp .gt 16) (P := (102 : Int32) < (jI m (jP m x0 0) (jI m x0 5).toNatClampNeg)) (rest := []) rfl (by decide +kernel) (tgt := 40) (by decide) (fun c15 => ?_) (fun c15 => ?_)
    · replace H := jif_t c15 H
      refine jS.loc' [0] (ls' := [(0, .inr (.inr x0))]) rfl ?_
      exact ec_X3_nameOf_j40 O hd H
    · replace H := jif_f c15 H
      obtain ⟨w16, H⟩ := jgd_ok H
      refine jS.adv O [(.aload_n 0, 0, 0, 0, 0, 0, 0), (.getfield 9, 0, 3, 0, 281, 0, 0), (.aload_n 0, 0, 0, 0, 0, 0, 0), (.getfield 29, 0, 3, 5, 289, 0, 0), (.caload, 0, 0, 0, 0, 0, 0), (.bipush 97, 0, 0, 0, 0, (97 : Int32), 0), (.isub, 0, 0, 0, 0, 0, 0)] (pc' := 39) (ls' := [(0, .inr (.inr x0))]) (st' := [.inl ((jI m (jP m x0 0) (jI m x0 5).toNatClampNeg) - (97 : Int32))]) (m2 := m) (by decide +kernel) rfl ⟨w1, w1, ⟨w13, jib_ok w16⟩, trivial⟩ ?_
      replace H := Option.some.inj H
      subst H
      exact jS.iret rfl (by decide +kernel)
def c_X3_stepWord_l0_b (F : Nat) (B : jMe → Nat → Option (jMe × Nat)) (m : jMe) (y0 : Nat) : Option (jMe × Nat) :=
  jgd (jK m y0 = 35) <| (if (jI m y0 2) ≤ (jI m y0 4) then some (m, y0) else jb (c_X3_isLetter F m y0 (jI m y0 4)) fun t4 => (if t4 = 0 then some (m, y0) else B (jsI m y0 4 ((jI m y0 4) + (1 : Int32))) y0))
theorem ec_X3_stepWord_l0_b {X : jX} {l : Launch} {d : Nat} (O : jOk X) (hd : 8 ≤ d) {F : Nat} {m0 m' : jMe} {v : Option jAV} {B : jMe → Nat → Option (jMe × Nat)} (hB : ∀ (m : jMe) (y0 : Nat) (r : jMe × Nat), B m y0 = some r → (jS X l d jm_X3_stepWord m0 v m' (35, [(0, .inr (.inr r.2))], [], r.1)) → jS X l d jm_X3_stepWord m0 v m' (0, [(0, .inr (.inr y0))], [], m)) {m : jMe} {y0 : Nat} {r : jMe × Nat} (H : c_X3_stepWord_l0_b F B m y0 = some r) (h2 : jS X l d jm_X3_stepWord m0 v m' (35, [(0, .inr (.inr r.2))], [], r.1)) : jS X l d jm_X3_stepWord m0 v m' (0, [(0, .inr (.inr y0))], [], m) := by
  unfold c_X3_stepWord_l0_b at H
  obtain ⟨w1, H⟩ := jgd_ok H
  refine jS.adv O [(.aload_n 0, 0, 0, 0, 0, 0, 0), (.getfield 26, 0, 3, 4, 288, 0, 0), (.aload_n 0, 0, 0, 0, 0, 0, 0), (.getfield 19, 0, 3, 2, 284, 0, 0)] (pc' := 8) (ls' := [(0, .inr (.inr y0))]) (st' := [.inl (jI m y0 2), .inl (jI m y0 4)]) (m2 := m) (by decide +kernel) rfl ⟨w1, w1, trivial⟩ ?_
  refine jS.br (i := .if_icmp .ge 27) (P := (jI m y0 2) ≤ (jI m y0 4)) (rest := []) rfl (by decide +kernel) (tgt := 35) (by decide) (fun c2 => ?_) (fun c2 => ?_)
  · replace H := jif_t c2 H
    replace H := Option.some.inj H
    subst H
    refine jS.loc' [0] (ls' := [(0, .inr (.inr y0))]) rfl ?_
    exact h2
  · replace H := jif_f c2 H
    refine jS.adv O [(.aload_n 0, 0, 0, 0, 0, 0, 0), (.aload_n 0, 0, 0, 0, 0, 0, 0), (.getfield 26, 0, 3, 4, 288, 0, 0)] (pc' := 16) (ls' := [(0, .inr (.inr y0))]) (st' := [.inl (jI m y0 4), .inr (.inr y0)]) (m2 := m) (by decide +kernel) rfl ⟨w1, trivial⟩ ?_
    obtain ⟨t4, w3, H⟩ := jb_ok H
    refine jS.step (c' := (19, [(0, .inr (.inr y0))], [.inl t4], m)) (jSt.callV (c := 3) (As := [.inl (jI m y0 4)]) (rest := []) O (ec_X3_isLetter (d := 2) O (Nat.le_refl _) w3) w1 (by decide) rfl (by omega) jmw_X3_isLetter jmv_X3_isLetter jmn_X3_isLetter (idx := 84) (jW_of 881 (by decide +kernel) rfl) (Nat.le_of_ble_eq_true rfl) (by decide +kernel)) ?_
    refine jS.br (i := .ifCond .eq 16) (P := t4 = 0) (rest := []) rfl (by decide +kernel) (tgt := 35) (by decide) (fun c5 => ?_) (fun c5 => ?_)
    · replace H := jif_t c5 H
      replace H := Option.some.inj H
      subst H
      refine jS.loc' [0] (ls' := [(0, .inr (.inr y0))]) rfl ?_
      exact h2
    · replace H := jif_f c5 H
      refine jS.adv O [(.aload_n 0, 0, 0, 0, 0, 0, 0), (.dup, 0, 0, 0, 0, 0, 0), (.getfield 26, 0, 3, 4, 288, 0, 0), (.iconst 1, 0, 0, 0, 0, (1 : Int32), 0), (.iadd, 0, 0, 0, 0, 0, 0), (.putfield 26, 0, 3, 4, 288, 0, 0), (.goto (-32), 0, 0, 0, 0, 0, 0)] (pc' := 0) (ls' := [(0, .inr (.inr y0))]) (st' := []) (m2 := (jsI m y0 4 ((jI m y0 4) + (1 : Int32)))) (by decide +kernel) rfl ⟨w1, w1, trivial⟩ ?_
      refine jS.loc' [0] (ls' := [(0, .inr (.inr y0))]) rfl ?_
      exact hB _ _ _ H h2
def c_X3_stepWord_l0 (F : Nat) : Nat → jMe → Nat → Option (jMe × Nat)
  | 0, _, _ => none
  | n + 1, m, y0 => c_X3_stepWord_l0_b F (fun m y0 => c_X3_stepWord_l0 F n m y0) m y0
theorem ec_X3_stepWord_l0 {X : jX} {l : Launch} {d : Nat} (O : jOk X) (hd : 8 ≤ d) {F : Nat} {m0 m' : jMe} {v : Option jAV} : ∀ (n : Nat) {m : jMe} {y0 : Nat} {r : jMe × Nat} (H : c_X3_stepWord_l0 F n m y0 = some r) (h2 : jS X l d jm_X3_stepWord m0 v m' (35, [(0, .inr (.inr r.2))], [], r.1)), jS X l d jm_X3_stepWord m0 v m' (0, [(0, .inr (.inr y0))], [], m) := by
  intro n
  induction n with
  | zero =>
    intro m y0 r H h2
    cases (show none = some r from H)
  | succ n ih =>
    intro m y0 r H h2
    exact ec_X3_stepWord_l0_b O hd (B := (fun m y0 => c_X3_stepWord_l0 F n m y0)) (fun m y0 r H h2 => ih H h2) H h2
def c_X3_stepWord_j111 (F : Nat) (m : jMe) (y0 : Nat) (s0 : Int32) (s1 : Nat) : Option (jMe) :=
  jgd (jK m s1 = 35) <| jgd (jK m y0 = 35) <| (if (jI (jsI m s1 6 s0) y0 6) = 0 then jb (c_X3_fail F (jsI m s1 6 s0) y0) fun t29 => some t29 else some (jsI m s1 6 s0))
theorem ec_X3_stepWord_j111 {X : jX} {l : Launch} {d : Nat} (O : jOk X) (hd : 8 ≤ d) {F : Nat} {m0 m : jMe} {y0 : Nat} {s0 : Int32} {s1 : Nat} {r : jMe} (H : c_X3_stepWord_j111 F m y0 s0 s1 = some r) : jS X l d jm_X3_stepWord m0 none r (111, [(0, .inr (.inr y0))], [.inl s0, .inr (.inr s1)], m) := by
  unfold c_X3_stepWord_j111 at H
  obtain ⟨w25, H⟩ := jgd_ok H
  obtain ⟨w26, H⟩ := jgd_ok H
  refine jS.adv O [(.putfield 32, 0, 3, 6, 290, 0, 0), (.aload_n 0, 0, 0, 0, 0, 0, 0), (.getfield 32, 0, 3, 6, 290, 0, 0)] (pc' := 118) (ls' := [(0, .inr (.inr y0))]) (st' := [.inl (jI (jsI m s1 6 s0) y0 6)]) (m2 := (jsI m s1 6 s0)) (by decide +kernel) rfl ⟨w25, w26, trivial⟩ ?_
  refine jS.br (i := .ifCond .ne 7) (P := ¬ (jI (jsI m s1 6 s0) y0 6) = 0) (rest := []) rfl (by decide +kernel) (tgt := 125) (by decide) (fun c27 => ?_) (fun c27 => ?_)
  · replace H := jif_f c27 H
    replace H := Option.some.inj H
    subst H
    exact jS.vret rfl (by decide +kernel)
  · replace H := jif_t (Classical.not_not.mp c27) H
    refine jS.adv O [(.aload_n 0, 0, 0, 0, 0, 0, 0)] (pc' := 122) (ls' := [(0, .inr (.inr y0))]) (st' := [.inr (.inr y0)]) (m2 := (jsI m s1 6 s0)) (by decide +kernel) rfl trivial ?_
    obtain ⟨t29, w28, H⟩ := jb_ok H
    refine jS.step (c' := (125, [(0, .inr (.inr y0))], [], t29)) (jSt.callV (c := 3) (As := []) (rest := []) O (ec_X3_fail (d := 2) O (Nat.le_refl _) w28) w26 (by decide) rfl (by omega) jmw_X3_fail jmv_X3_fail jmn_X3_fail (idx := 51) (jW_of 952 (by decide +kernel) rfl) (Nat.le_of_ble_eq_true rfl) (by decide +kernel)) ?_
    replace H := Option.some.inj H
    subst H
    exact jS.vret rfl (by decide +kernel)
def c_X3_stepWord_j35 (F : Nat) (m : jMe) (y0 : Nat) : Option (jMe) :=
  jgd (jK m y0 = 35) <| jb (c_X3_nameOf F m y0) fun t11 => (if (jI (jsI m y0 7 t11) y0 7) = (-1 : Int32) then jb (c_X3_isWord F (jsI m y0 7 t11) y0 6) fun t14 => (if t14 = 0 then jb (c_X3_isWord F (jsI m y0 7 t11) y0 7) fun t17 => (if t17 = 0 then jb (c_X3_isWord F (jsI m y0 7 t11) y0 8) fun t20 => (if t20 = 0 then jb (c_X3_isWord F (jsI m y0 7 t11) y0 9) fun t23 => (if t23 = 0 then c_X3_stepWord_j111 F (jsI m y0 7 t11) y0 (0 : Int32) y0 else c_X3_stepWord_j111 F (jsI m y0 7 t11) y0 (7 : Int32) y0) else c_X3_stepWord_j111 F (jsI m y0 7 t11) y0 (6 : Int32) y0) else c_X3_stepWord_j111 F (jsI m y0 7 t11) y0 (5 : Int32) y0) else c_X3_stepWord_j111 F (jsI m y0 7 t11) y0 (4 : Int32) y0) else c_X3_stepWord_j111 F (jsI m y0 7 t11) y0 (3 : Int32) y0)
theorem ec_X3_stepWord_j35 {X : jX} {l : Launch} {d : Nat} (O : jOk X) (hd : 8 ≤ d) {F : Nat} {m0 m : jMe} {y0 : Nat} {r : jMe} (H : c_X3_stepWord_j35 F m y0 = some r) : jS X l d jm_X3_stepWord m0 none r (35, [(0, .inr (.inr y0))], [], m) := by
  unfold c_X3_stepWord_j35 at H
  obtain ⟨w9, H⟩ := jgd_ok H
  refine jS.adv O [(.aload_n 0, 0, 0, 0, 0, 0, 0), (.aload_n 0, 0, 0, 0, 0, 0, 0)] (pc' := 37) (ls' := [(0, .inr (.inr y0))]) (st' := [.inr (.inr y0), .inr (.inr y0)]) (m2 := m) (by decide +kernel) rfl trivial ?_
  obtain ⟨t11, w10, H⟩ := jb_ok H
  refine jS.step (c' := (40, [(0, .inr (.inr y0))], [.inl t11, .inr (.inr y0)], m)) (jSt.callV (c := 3) (As := []) (rest := [.inr (.inr y0)]) O (ec_X3_nameOf (d := 7) O (Nat.le_refl _) w10) w9 (by decide) rfl (by omega) jmw_X3_nameOf jmv_X3_nameOf jmn_X3_nameOf (idx := 109) (jW_of 889 (by decide +kernel) rfl) (Nat.le_of_ble_eq_true rfl) (by decide +kernel)) ?_
  refine jS.adv O [(.putfield 35, 0, 3, 7, 291, 0, 0), (.aload_n 0, 0, 0, 0, 0, 0, 0), (.aload_n 0, 0, 0, 0, 0, 0, 0), (.getfield 35, 0, 3, 7, 291, 0, 0), (.iconst (-1), 0, 0, 0, 0, (-1 : Int32), 0)] (pc' := 49) (ls' := [(0, .inr (.inr y0))]) (st' := [.inl (-1 : Int32), .inl (jI (jsI m y0 7 t11) y0 7), .inr (.inr y0)]) (m2 := (jsI m y0 7 t11)) (by decide +kernel) rfl ⟨w9, w9, trivial⟩ ?_
  refine jS.br (i := .if_icmp .eq 7) (P := (jI (jsI m y0 7 t11) y0 7) = (-1 : Int32)) (rest := [.inr (.inr y0)]) rfl (by decide +kernel) (tgt := 56) (by decide) (fun c12 => ?_) (fun c12 => ?_)
  · replace H := jif_t c12 H
    refine jS.adv O [(.aload_n 0, 0, 0, 0, 0, 0, 0)] (pc' := 57) (ls' := [(0, .inr (.inr y0))]) (st' := [.inr (.inr y0), .inr (.inr y0)]) (m2 := (jsI m y0 7 t11)) (by decide +kernel) rfl trivial ?_
    refine jS.step (c' := (59, [(0, .inr (.inr y0))], [.inr (.inr 6), .inr (.inr y0), .inr (.inr y0)], (jsI m y0 7 t11))) (jSt.str O rfl (idx := 113) (tx := "fits") (a := 6) (by decide) (by decide) (by decide +kernel)) ?_
    obtain ⟨t14, w13, H⟩ := jb_ok H
    refine jS.step (c' := (62, [(0, .inr (.inr y0))], [.inl t14, .inr (.inr y0)], (jsI m y0 7 t11))) (jSt.callV (c := 3) (As := [.inr (.inr 6)]) (rest := [.inr (.inr y0)]) O (ec_X3_isWord (d := 6) O (Nat.le_refl _) w13) w9 (by decide) rfl (by omega) jmw_X3_isWord jmv_X3_isWord jmn_X3_isWord (idx := 115) (jW_of 894 (by decide +kernel) rfl) (Nat.le_of_ble_eq_true rfl) (by decide +kernel)) ?_
    refine jS.br (i := .ifCond .eq 7) (P := t14 = 0) (rest := [.inr (.inr y0)]) rfl (by decide +kernel) (tgt := 69) (by decide) (fun c15 => ?_) (fun c15 => ?_)
    · replace H := jif_t c15 H
      refine jS.adv O [(.aload_n 0, 0, 0, 0, 0, 0, 0)] (pc' := 70) (ls' := [(0, .inr (.inr y0))]) (st' := [.inr (.inr y0), .inr (.inr y0)]) (m2 := (jsI m y0 7 t11)) (by decide +kernel) rfl trivial ?_
      refine jS.step (c' := (72, [(0, .inr (.inr y0))], [.inr (.inr 7), .inr (.inr y0), .inr (.inr y0)], (jsI m y0 7 t11))) (jSt.str O rfl (idx := 119) (tx := "or") (a := 7) (by decide) (by decide) (by decide +kernel)) ?_
      obtain ⟨t17, w16, H⟩ := jb_ok H
      refine jS.step (c' := (75, [(0, .inr (.inr y0))], [.inl t17, .inr (.inr y0)], (jsI m y0 7 t11))) (jSt.callV (c := 3) (As := [.inr (.inr 7)]) (rest := [.inr (.inr y0)]) O (ec_X3_isWord (d := 6) O (Nat.le_refl _) w16) w9 (by decide) rfl (by omega) jmw_X3_isWord jmv_X3_isWord jmn_X3_isWord (idx := 115) (jW_of 894 (by decide +kernel) rfl) (Nat.le_of_ble_eq_true rfl) (by decide +kernel)) ?_
      refine jS.br (i := .ifCond .eq 7) (P := t17 = 0) (rest := [.inr (.inr y0)]) rfl (by decide +kernel) (tgt := 82) (by decide) (fun c18 => ?_) (fun c18 => ?_)
      · replace H := jif_t c18 H
        refine jS.adv O [(.aload_n 0, 0, 0, 0, 0, 0, 0)] (pc' := 83) (ls' := [(0, .inr (.inr y0))]) (st' := [.inr (.inr y0), .inr (.inr y0)]) (m2 := (jsI m y0 7 t11)) (by decide +kernel) rfl trivial ?_
        refine jS.step (c' := (85, [(0, .inr (.inr y0))], [.inr (.inr 8), .inr (.inr y0), .inr (.inr y0)], (jsI m y0 7 t11))) (jSt.str O rfl (idx := 121) (tx := "and") (a := 8) (by decide) (by decide) (by decide +kernel)) ?_
        obtain ⟨t20, w19, H⟩ := jb_ok H
        refine jS.step (c' := (88, [(0, .inr (.inr y0))], [.inl t20, .inr (.inr y0)], (jsI m y0 7 t11))) (jSt.callV (c := 3) (As := [.inr (.inr 8)]) (rest := [.inr (.inr y0)]) O (ec_X3_isWord (d := 6) O (Nat.le_refl _) w19) w9 (by decide) rfl (by omega) jmw_X3_isWord jmv_X3_isWord jmn_X3_isWord (idx := 115) (jW_of 894 (by decide +kernel) rfl) (Nat.le_of_ble_eq_true rfl) (by decide +kernel)) ?_
        refine jS.br (i := .ifCond .eq 8) (P := t20 = 0) (rest := [.inr (.inr y0)]) rfl (by decide +kernel) (tgt := 96) (by decide) (fun c21 => ?_) (fun c21 => ?_)
        · replace H := jif_t c21 H
          refine jS.adv O [(.aload_n 0, 0, 0, 0, 0, 0, 0)] (pc' := 97) (ls' := [(0, .inr (.inr y0))]) (st' := [.inr (.inr y0), .inr (.inr y0)]) (m2 := (jsI m y0 7 t11)) (by decide +kernel) rfl trivial ?_
          refine jS.step (c' := (99, [(0, .inr (.inr y0))], [.inr (.inr 9), .inr (.inr y0), .inr (.inr y0)], (jsI m y0 7 t11))) (jSt.str O rfl (idx := 123) (tx := "not") (a := 9) (by decide) (by decide) (by decide +kernel)) ?_
          obtain ⟨t23, w22, H⟩ := jb_ok H
          refine jS.step (c' := (102, [(0, .inr (.inr y0))], [.inl t23, .inr (.inr y0)], (jsI m y0 7 t11))) (jSt.callV (c := 3) (As := [.inr (.inr 9)]) (rest := [.inr (.inr y0)]) O (ec_X3_isWord (d := 6) O (Nat.le_refl _) w22) w9 (by decide) rfl (by omega) jmw_X3_isWord jmv_X3_isWord jmn_X3_isWord (idx := 115) (jW_of 894 (by decide +kernel) rfl) (Nat.le_of_ble_eq_true rfl) (by decide +kernel)) ?_
          refine jS.br (i := .ifCond .eq 8) (P := t23 = 0) (rest := [.inr (.inr y0)]) rfl (by decide +kernel) (tgt := 110) (by decide) (fun c24 => ?_) (fun c24 => ?_)
          · replace H := jif_t c24 H
            refine jS.adv O [(.iconst 0, 0, 0, 0, 0, (0 : Int32), 0)] (pc' := 111) (ls' := [(0, .inr (.inr y0))]) (st' := [.inl (0 : Int32), .inr (.inr y0)]) (m2 := (jsI m y0 7 t11)) (by decide +kernel) rfl trivial ?_
            refine jS.loc' [0] (ls' := [(0, .inr (.inr y0))]) rfl ?_
            exact ec_X3_stepWord_j111 O hd H
          · replace H := jif_f c24 H
            refine jS.adv O [(.bipush 7, 0, 0, 0, 0, (7 : Int32), 0), (.goto 4, 0, 111, 0, 0, 0, 0)] (pc' := 111) (ls' := [(0, .inr (.inr y0))]) (st' := [.inl (7 : Int32), .inr (.inr y0)]) (m2 := (jsI m y0 7 t11)) (by decide +kernel) rfl trivial ?_
            refine jS.loc' [0] (ls' := [(0, .inr (.inr y0))]) rfl ?_
            exact ec_X3_stepWord_j111 O hd H
        · replace H := jif_f c21 H
          refine jS.adv O [(.bipush 6, 0, 0, 0, 0, (6 : Int32), 0), (.goto 18, 0, 111, 0, 0, 0, 0)] (pc' := 111) (ls' := [(0, .inr (.inr y0))]) (st' := [.inl (6 : Int32), .inr (.inr y0)]) (m2 := (jsI m y0 7 t11)) (by decide +kernel) rfl trivial ?_
          refine jS.loc' [0] (ls' := [(0, .inr (.inr y0))]) rfl ?_
          exact ec_X3_stepWord_j111 O hd H
      · replace H := jif_f c18 H
        refine jS.adv O [(.iconst 5, 0, 0, 0, 0, (5 : Int32), 0), (.goto 32, 0, 111, 0, 0, 0, 0)] (pc' := 111) (ls' := [(0, .inr (.inr y0))]) (st' := [.inl (5 : Int32), .inr (.inr y0)]) (m2 := (jsI m y0 7 t11)) (by decide +kernel) rfl trivial ?_
        refine jS.loc' [0] (ls' := [(0, .inr (.inr y0))]) rfl ?_
        exact ec_X3_stepWord_j111 O hd H
    · replace H := jif_f c15 H
      refine jS.adv O [(.iconst 4, 0, 0, 0, 0, (4 : Int32), 0), (.goto 45, 0, 111, 0, 0, 0, 0)] (pc' := 111) (ls' := [(0, .inr (.inr y0))]) (st' := [.inl (4 : Int32), .inr (.inr y0)]) (m2 := (jsI m y0 7 t11)) (by decide +kernel) rfl trivial ?_
      refine jS.loc' [0] (ls' := [(0, .inr (.inr y0))]) rfl ?_
      exact ec_X3_stepWord_j111 O hd H
  · replace H := jif_f c12 H
    refine jS.adv O [(.iconst 3, 0, 0, 0, 0, (3 : Int32), 0), (.goto 58, 0, 111, 0, 0, 0, 0)] (pc' := 111) (ls' := [(0, .inr (.inr y0))]) (st' := [.inl (3 : Int32), .inr (.inr y0)]) (m2 := (jsI m y0 7 t11)) (by decide +kernel) rfl trivial ?_
    refine jS.loc' [0] (ls' := [(0, .inr (.inr y0))]) rfl ?_
    exact ec_X3_stepWord_j111 O hd H
def c_X3_stepWord (F : Nat) (m : jMe) (x0 : Nat) : Option (jMe) :=
  jb (c_X3_stepWord_l0 F F m x0) fun e7 => c_X3_stepWord_j35 F e7.1 e7.2
theorem ec_X3_stepWord {X : jX} {l : Launch} {d : Nat} (O : jOk X) (hd : 8 ≤ d) {F : Nat} {m : jMe} {x0 : Nat} {r : jMe} (H : c_X3_stepWord F m x0 = some r) : jH X l d jm_X3_stepWord [.inr (.inr x0)] m none r := by
  refine jH.of jpl_RX3 rfl (Nat.le_of_ble_eq_true rfl) ?_
  show jS X l d jm_X3_stepWord m _ _ (0, [(0, .inr (.inr x0))], [], m)
  unfold c_X3_stepWord at H
  refine jS.loc' [0] (ls' := [(0, .inr (.inr x0))]) rfl ?_
  obtain ⟨e7, w8, H⟩ := jb_ok H
  refine ec_X3_stepWord_l0 O hd F w8 ?_
  refine jS.loc' [0] (ls' := [(0, .inr (.inr e7.2))]) rfl ?_
  exact ec_X3_stepWord_j35 O hd H
def c_X3_isDigit (F : Nat) (m : jMe) (x0 : Nat) (x1 : Int32) : Option (Int32) :=
  jgd (jK m x0 = 35) <| (if (jI m x0 2) ≤ x1 then some (0 : Int32) else jgd (jK m (jP m x0 0) = 3) <| jgd (jin x1 (jZ m (jP m x0 0)) = true) <| (if (jI m (jP m x0 0) x1.toNatClampNeg) < (48 : Int32) then some (0 : Int32) else jgd (jin x1 (jZ m (jP m x0 0)) = true) <| (if (57 : Int32) < (jI m (jP m x0 0) x1.toNatClampNeg) then some (0 : Int32) else some (1 : Int32))))
theorem ec_X3_isDigit {X : jX} {l : Launch} {d : Nat} (O : jOk X) (hd : 2 ≤ d) {F : Nat} {m : jMe} {x0 : Nat} {x1 : Int32} {r : Int32} (H : c_X3_isDigit F m x0 x1 = some r) : jH X l d jm_X3_isDigit [.inr (.inr x0), .inl x1] m (some (.inl r)) m := by
  refine jH.of jpl_RX3 rfl (Nat.le_of_ble_eq_true rfl) ?_
  show jS X l d jm_X3_isDigit m _ _ (0, [(0, .inr (.inr x0)), (1, .inl x1)], [], m)
  unfold c_X3_isDigit at H
  obtain ⟨w1, H⟩ := jgd_ok H
  refine jS.adv O [(.iload_n 1, 0, 0, 0, 0, 0, 0), (.aload_n 0, 0, 0, 0, 0, 0, 0), (.getfield 19, 0, 3, 2, 284, 0, 0)] (pc' := 5) (ls' := [(0, .inr (.inr x0)), (1, .inl x1)]) (st' := [.inl (jI m x0 2), .inl x1]) (m2 := m) (by decide +kernel) rfl ⟨w1, trivial⟩ ?_
  refine jS.br (i := .if_icmp .ge 29) (P := (jI m x0 2) ≤ x1) (rest := []) rfl (by decide +kernel) (tgt := 34) (by decide) (fun c2 => ?_) (fun c2 => ?_)
  · replace H := jif_t c2 H
    refine jS.adv O [(.iconst 0, 0, 0, 0, 0, (0 : Int32), 0)] (pc' := 35) (ls' := [(0, .inr (.inr x0)), (1, .inl x1)]) (st' := [.inl (0 : Int32)]) (m2 := m) (by decide +kernel) rfl trivial ?_
    replace H := Option.some.inj H
    subst H
    exact jS.zret rfl (Or.inl rfl) (by decide +kernel)
  · replace H := jif_f c2 H
    obtain ⟨w3, H⟩ := jgd_ok H
    obtain ⟨w4, H⟩ := jgd_ok H
    refine jS.adv O [(.aload_n 0, 0, 0, 0, 0, 0, 0), (.getfield 9, 0, 3, 0, 281, 0, 0), (.iload_n 1, 0, 0, 0, 0, 0, 0), (.caload, 0, 0, 0, 0, 0, 0), (.bipush 48, 0, 0, 0, 0, (48 : Int32), 0)] (pc' := 16) (ls' := [(0, .inr (.inr x0)), (1, .inl x1)]) (st' := [.inl (48 : Int32), .inl (jI m (jP m x0 0) x1.toNatClampNeg)]) (m2 := m) (by decide +kernel) rfl ⟨w1, ⟨w3, jib_ok w4⟩, trivial⟩ ?_
    refine jS.br (i := .if_icmp .lt 18) (P := (jI m (jP m x0 0) x1.toNatClampNeg) < (48 : Int32)) (rest := []) rfl (by decide +kernel) (tgt := 34) (by decide) (fun c5 => ?_) (fun c5 => ?_)
    · replace H := jif_t c5 H
      refine jS.adv O [(.iconst 0, 0, 0, 0, 0, (0 : Int32), 0)] (pc' := 35) (ls' := [(0, .inr (.inr x0)), (1, .inl x1)]) (st' := [.inl (0 : Int32)]) (m2 := m) (by decide +kernel) rfl trivial ?_
      replace H := Option.some.inj H
      subst H
      exact jS.zret rfl (Or.inl rfl) (by decide +kernel)
    · replace H := jif_f c5 H
      obtain ⟨w6, H⟩ := jgd_ok H
      refine jS.adv O [(.aload_n 0, 0, 0, 0, 0, 0, 0), (.getfield 9, 0, 3, 0, 281, 0, 0), (.iload_n 1, 0, 0, 0, 0, 0, 0), (.caload, 0, 0, 0, 0, 0, 0), (.bipush 57, 0, 0, 0, 0, (57 : Int32), 0)] (pc' := 27) (ls' := [(0, .inr (.inr x0)), (1, .inl x1)]) (st' := [.inl (57 : Int32), .inl (jI m (jP m x0 0) x1.toNatClampNeg)]) (m2 := m) (by decide +kernel) rfl ⟨w1, ⟨w3, jib_ok w6⟩, trivial⟩ ?_
      refine jS.br (i := .if_icmp .gt 7) (P := (57 : Int32) < (jI m (jP m x0 0) x1.toNatClampNeg)) (rest := []) rfl (by decide +kernel) (tgt := 34) (by decide) (fun c7 => ?_) (fun c7 => ?_)
      · replace H := jif_t c7 H
        refine jS.adv O [(.iconst 0, 0, 0, 0, 0, (0 : Int32), 0)] (pc' := 35) (ls' := [(0, .inr (.inr x0)), (1, .inl x1)]) (st' := [.inl (0 : Int32)]) (m2 := m) (by decide +kernel) rfl trivial ?_
        replace H := Option.some.inj H
        subst H
        exact jS.zret rfl (Or.inl rfl) (by decide +kernel)
      · replace H := jif_f c7 H
        refine jS.adv O [(.iconst 1, 0, 0, 0, 0, (1 : Int32), 0), (.goto 4, 0, 35, 0, 0, 0, 0)] (pc' := 35) (ls' := [(0, .inr (.inr x0)), (1, .inl x1)]) (st' := [.inl (1 : Int32)]) (m2 := m) (by decide +kernel) rfl trivial ?_
        replace H := Option.some.inj H
        subst H
        exact jS.zret rfl (Or.inr rfl) (by decide +kernel)
def c_X3_stepNumber_l10_b (F : Nat) (B : jMe → Nat → Option (jMe × Nat)) (m : jMe) (y0 : Nat) : Option (jMe × Nat) :=
  jgd (jK m y0 = 35) <| (if (jI m y0 2) ≤ (jI m y0 4) then some (m, y0) else jb (c_X3_isDigit F m y0 (jI m y0 4)) fun t5 => (if t5 = 0 then some (m, y0) else jgd (jK m (jP m y0 0) = 3) <| jgd (jin (jI m y0 4) (jZ m (jP m y0 0)) = true) <| B (jsI (jsI m y0 7 (((jI m y0 7) * (10 : Int32)) + ((jI m (jP m y0 0) (jI m y0 4).toNatClampNeg) - (48 : Int32)))) y0 4 ((jI (jsI m y0 7 (((jI m y0 7) * (10 : Int32)) + ((jI m (jP m y0 0) (jI m y0 4).toNatClampNeg) - (48 : Int32)))) y0 4) + (1 : Int32))) y0))
theorem ec_X3_stepNumber_l10_b {X : jX} {l : Launch} {d : Nat} (O : jOk X) (hd : 3 ≤ d) {F : Nat} {m0 m' : jMe} {v : Option jAV} {B : jMe → Nat → Option (jMe × Nat)} (hB : ∀ (m : jMe) (y0 : Nat) (r : jMe × Nat), B m y0 = some r → (jS X l d jm_X3_stepNumber m0 v m' (69, [(0, .inr (.inr r.2))], [], r.1)) → jS X l d jm_X3_stepNumber m0 v m' (10, [(0, .inr (.inr y0))], [], m)) {m : jMe} {y0 : Nat} {r : jMe × Nat} (H : c_X3_stepNumber_l10_b F B m y0 = some r) (h2 : jS X l d jm_X3_stepNumber m0 v m' (69, [(0, .inr (.inr r.2))], [], r.1)) : jS X l d jm_X3_stepNumber m0 v m' (10, [(0, .inr (.inr y0))], [], m) := by
  unfold c_X3_stepNumber_l10_b at H
  obtain ⟨w2, H⟩ := jgd_ok H
  refine jS.adv O [(.aload_n 0, 0, 0, 0, 0, 0, 0), (.getfield 26, 0, 3, 4, 288, 0, 0), (.aload_n 0, 0, 0, 0, 0, 0, 0), (.getfield 19, 0, 3, 2, 284, 0, 0)] (pc' := 18) (ls' := [(0, .inr (.inr y0))]) (st' := [.inl (jI m y0 2), .inl (jI m y0 4)]) (m2 := m) (by decide +kernel) rfl ⟨w2, w2, trivial⟩ ?_
  refine jS.br (i := .if_icmp .ge 51) (P := (jI m y0 2) ≤ (jI m y0 4)) (rest := []) rfl (by decide +kernel) (tgt := 69) (by decide) (fun c3 => ?_) (fun c3 => ?_)
  · replace H := jif_t c3 H
    replace H := Option.some.inj H
    subst H
    refine jS.loc' [0] (ls' := [(0, .inr (.inr y0))]) rfl ?_
    exact h2
  · replace H := jif_f c3 H
    refine jS.adv O [(.aload_n 0, 0, 0, 0, 0, 0, 0), (.aload_n 0, 0, 0, 0, 0, 0, 0), (.getfield 26, 0, 3, 4, 288, 0, 0)] (pc' := 26) (ls' := [(0, .inr (.inr y0))]) (st' := [.inl (jI m y0 4), .inr (.inr y0)]) (m2 := m) (by decide +kernel) rfl ⟨w2, trivial⟩ ?_
    obtain ⟨t5, w4, H⟩ := jb_ok H
    refine jS.step (c' := (29, [(0, .inr (.inr y0))], [.inl t5], m)) (jSt.callV (c := 3) (As := [.inl (jI m y0 4)]) (rest := []) O (ec_X3_isDigit (d := 2) O (Nat.le_refl _) w4) w2 (by decide) rfl (by omega) jmw_X3_isDigit jmv_X3_isDigit jmn_X3_isDigit (idx := 91) (jW_of 956 (by decide +kernel) rfl) (Nat.le_of_ble_eq_true rfl) (by decide +kernel)) ?_
    refine jS.br (i := .ifCond .eq 40) (P := t5 = 0) (rest := []) rfl (by decide +kernel) (tgt := 69) (by decide) (fun c6 => ?_) (fun c6 => ?_)
    · replace H := jif_t c6 H
      replace H := Option.some.inj H
      subst H
      refine jS.loc' [0] (ls' := [(0, .inr (.inr y0))]) rfl ?_
      exact h2
    · replace H := jif_f c6 H
      obtain ⟨w7, H⟩ := jgd_ok H
      obtain ⟨w8, H⟩ := jgd_ok H
      refine jS.adv O [(.aload_n 0, 0, 0, 0, 0, 0, 0), (.aload_n 0, 0, 0, 0, 0, 0, 0), (.getfield 35, 0, 3, 7, 291, 0, 0), (.bipush 10, 0, 0, 0, 0, (10 : Int32), 0), (.imul, 0, 0, 0, 0, 0, 0), (.aload_n 0, 0, 0, 0, 0, 0, 0), (.getfield 9, 0, 3, 0, 281, 0, 0), (.aload_n 0, 0, 0, 0, 0, 0, 0), (.getfield 26, 0, 3, 4, 288, 0, 0), (.caload, 0, 0, 0, 0, 0, 0), (.bipush 48, 0, 0, 0, 0, (48 : Int32), 0), (.isub, 0, 0, 0, 0, 0, 0), (.iadd, 0, 0, 0, 0, 0, 0), (.putfield 35, 0, 3, 7, 291, 0, 0), (.aload_n 0, 0, 0, 0, 0, 0, 0), (.dup, 0, 0, 0, 0, 0, 0), (.getfield 26, 0, 3, 4, 288, 0, 0), (.iconst 1, 0, 0, 0, 0, (1 : Int32), 0), (.iadd, 0, 0, 0, 0, 0, 0), (.putfield 26, 0, 3, 4, 288, 0, 0), (.goto (-56), 0, 10, 0, 0, 0, 0)] (pc' := 10) (ls' := [(0, .inr (.inr y0))]) (st' := []) (m2 := (jsI (jsI m y0 7 (((jI m y0 7) * (10 : Int32)) + ((jI m (jP m y0 0) (jI m y0 4).toNatClampNeg) - (48 : Int32)))) y0 4 ((jI (jsI m y0 7 (((jI m y0 7) * (10 : Int32)) + ((jI m (jP m y0 0) (jI m y0 4).toNatClampNeg) - (48 : Int32)))) y0 4) + (1 : Int32)))) (by decide +kernel) rfl ⟨w2, w2, w2, ⟨w7, jib_ok w8⟩, w2, w2, w2, trivial⟩ ?_
      refine jS.loc' [0] (ls' := [(0, .inr (.inr y0))]) rfl ?_
      exact hB _ _ _ H h2
def c_X3_stepNumber_l10 (F : Nat) : Nat → jMe → Nat → Option (jMe × Nat)
  | 0, _, _ => none
  | n + 1, m, y0 => c_X3_stepNumber_l10_b F (fun m y0 => c_X3_stepNumber_l10 F n m y0) m y0
theorem ec_X3_stepNumber_l10 {X : jX} {l : Launch} {d : Nat} (O : jOk X) (hd : 3 ≤ d) {F : Nat} {m0 m' : jMe} {v : Option jAV} : ∀ (n : Nat) {m : jMe} {y0 : Nat} {r : jMe × Nat} (H : c_X3_stepNumber_l10 F n m y0 = some r) (h2 : jS X l d jm_X3_stepNumber m0 v m' (69, [(0, .inr (.inr r.2))], [], r.1)), jS X l d jm_X3_stepNumber m0 v m' (10, [(0, .inr (.inr y0))], [], m) := by
  intro n
  induction n with
  | zero =>
    intro m y0 r H h2
    cases (show none = some r from H)
  | succ n ih =>
    intro m y0 r H h2
    exact ec_X3_stepNumber_l10_b O hd (B := (fun m y0 => c_X3_stepNumber_l10 F n m y0)) (fun m y0 r H h2 => ih H h2) H h2
def c_X3_stepNumber_j69 (F : Nat) (m : jMe) (y0 : Nat) : Option (jMe) :=
  jgd (jK m y0 = 35) <| (if ((jI m y0 4) - (jI m y0 5)) ≤ (4 : Int32) then some m else jb (c_X3_fail F m y0) fun t15 => some t15)
theorem ec_X3_stepNumber_j69 {X : jX} {l : Launch} {d : Nat} (O : jOk X) (hd : 3 ≤ d) {F : Nat} {m0 m : jMe} {y0 : Nat} {r : jMe} (H : c_X3_stepNumber_j69 F m y0 = some r) : jS X l d jm_X3_stepNumber m0 none r (69, [(0, .inr (.inr y0))], [], m) := by
  unfold c_X3_stepNumber_j69 at H
  obtain ⟨w12, H⟩ := jgd_ok H
  refine jS.adv O [(.aload_n 0, 0, 0, 0, 0, 0, 0), (.getfield 26, 0, 3, 4, 288, 0, 0), (.aload_n 0, 0, 0, 0, 0, 0, 0), (.getfield 29, 0, 3, 5, 289, 0, 0), (.isub, 0, 0, 0, 0, 0, 0), (.iconst 4, 0, 0, 0, 0, (4 : Int32), 0)] (pc' := 79) (ls' := [(0, .inr (.inr y0))]) (st' := [.inl (4 : Int32), .inl ((jI m y0 4) - (jI m y0 5))]) (m2 := m) (by decide +kernel) rfl ⟨w12, w12, trivial⟩ ?_
  refine jS.br (i := .if_icmp .le 7) (P := ((jI m y0 4) - (jI m y0 5)) ≤ (4 : Int32)) (rest := []) rfl (by decide +kernel) (tgt := 86) (by decide) (fun c13 => ?_) (fun c13 => ?_)
  · replace H := jif_t c13 H
    replace H := Option.some.inj H
    subst H
    exact jS.vret rfl (by decide +kernel)
  · replace H := jif_f c13 H
    refine jS.adv O [(.aload_n 0, 0, 0, 0, 0, 0, 0)] (pc' := 83) (ls' := [(0, .inr (.inr y0))]) (st' := [.inr (.inr y0)]) (m2 := m) (by decide +kernel) rfl trivial ?_
    obtain ⟨t15, w14, H⟩ := jb_ok H
    refine jS.step (c' := (86, [(0, .inr (.inr y0))], [], t15)) (jSt.callV (c := 3) (As := []) (rest := []) O (ec_X3_fail (d := 2) O (Nat.le_refl _) w14) w12 (by decide) rfl (by omega) jmw_X3_fail jmv_X3_fail jmn_X3_fail (idx := 51) (jW_of 952 (by decide +kernel) rfl) (Nat.le_of_ble_eq_true rfl) (by decide +kernel)) ?_
    replace H := Option.some.inj H
    subst H
    exact jS.vret rfl (by decide +kernel)
def c_X3_stepNumber (F : Nat) (m : jMe) (x0 : Nat) : Option (jMe) :=
  jgd (jK m x0 = 35) <| jb (c_X3_stepNumber_l10 F F (jsI (jsI m x0 6 (2 : Int32)) x0 7 (0 : Int32)) x0) fun e10 => c_X3_stepNumber_j69 F e10.1 e10.2
theorem ec_X3_stepNumber {X : jX} {l : Launch} {d : Nat} (O : jOk X) (hd : 3 ≤ d) {F : Nat} {m : jMe} {x0 : Nat} {r : jMe} (H : c_X3_stepNumber F m x0 = some r) : jH X l d jm_X3_stepNumber [.inr (.inr x0)] m none r := by
  refine jH.of jpl_RX3 rfl (Nat.le_of_ble_eq_true rfl) ?_
  show jS X l d jm_X3_stepNumber m _ _ (0, [(0, .inr (.inr x0))], [], m)
  unfold c_X3_stepNumber at H
  obtain ⟨w1, H⟩ := jgd_ok H
  refine jS.adv O [(.aload_n 0, 0, 0, 0, 0, 0, 0), (.iconst 2, 0, 0, 0, 0, (2 : Int32), 0), (.putfield 32, 0, 3, 6, 290, 0, 0), (.aload_n 0, 0, 0, 0, 0, 0, 0), (.iconst 0, 0, 0, 0, 0, (0 : Int32), 0), (.putfield 35, 0, 3, 7, 291, 0, 0)] (pc' := 10) (ls' := [(0, .inr (.inr x0))]) (st' := []) (m2 := (jsI (jsI m x0 6 (2 : Int32)) x0 7 (0 : Int32))) (by decide +kernel) rfl ⟨w1, w1, trivial⟩ ?_
  refine jS.loc' [0] (ls' := [(0, .inr (.inr x0))]) rfl ?_
  obtain ⟨e10, w11, H⟩ := jb_ok H
  refine ec_X3_stepNumber_l10 O hd F w11 ?_
  refine jS.loc' [0] (ls' := [(0, .inr (.inr e10.2))]) rfl ?_
  exact ec_X3_stepNumber_j69 O hd H
def c_X3_step_j39_l0 (F : Nat) (B : jMe → Nat → Option (jMe × Nat)) (m : jMe) (y0 : Nat) : Option (jMe × Nat) :=
  jgd (jK m y0 = 35) <| B (jsI m y0 4 ((jI m y0 4) + (1 : Int32))) y0
theorem ec_X3_step_j39_l0 {X : jX} {l : Launch} {d : Nat} (O : jOk X) (hd : 9 ≤ d) {F : Nat} {m0 m' : jMe} {v : Option jAV} {B : jMe → Nat → Option (jMe × Nat)} (hB : ∀ (m : jMe) (y0 : Nat) (r : jMe × Nat), B m y0 = some r → (jS X l d jm_X3_step m0 v m' (52, [(0, .inr (.inr r.2))], [], r.1)) → jS X l d jm_X3_step m0 v m' (0, [(0, .inr (.inr y0))], [], m)) {m : jMe} {y0 : Nat} {r : jMe × Nat} (H : c_X3_step_j39_l0 F B m y0 = some r) (h2 : jS X l d jm_X3_step m0 v m' (52, [(0, .inr (.inr r.2))], [], r.1)) : jS X l d jm_X3_step m0 v m' (39, [(0, .inr (.inr y0))], [], m) := by
  unfold c_X3_step_j39_l0 at H
  obtain ⟨w6, H⟩ := jgd_ok H
  refine jS.adv O [(.aload_n 0, 0, 0, 0, 0, 0, 0), (.dup, 0, 0, 0, 0, 0, 0), (.getfield 26, 0, 3, 4, 288, 0, 0), (.iconst 1, 0, 0, 0, 0, (1 : Int32), 0), (.iadd, 0, 0, 0, 0, 0, 0), (.putfield 26, 0, 3, 4, 288, 0, 0), (.goto (-49), 0, 0, 0, 0, 0, 0)] (pc' := 0) (ls' := [(0, .inr (.inr y0))]) (st' := []) (m2 := (jsI m y0 4 ((jI m y0 4) + (1 : Int32)))) (by decide +kernel) rfl ⟨w6, w6, trivial⟩ ?_
  refine jS.loc' [0] (ls' := [(0, .inr (.inr y0))]) rfl ?_
  exact hB _ _ _ H h2
def c_X3_step_l0_b (F : Nat) (B : jMe → Nat → Option (jMe × Nat)) (m : jMe) (y0 : Nat) : Option (jMe × Nat) :=
  jgd (jK m y0 = 35) <| (if (jI m y0 2) ≤ (jI m y0 4) then some (m, y0) else jgd (jK m (jP m y0 0) = 3) <| jgd (jin (jI m y0 4) (jZ m (jP m y0 0)) = true) <| (if (jI m (jP m y0 0) (jI m y0 4).toNatClampNeg) = (32 : Int32) then c_X3_step_j39_l0 F B m y0 else jgd (jin (jI m y0 4) (jZ m (jP m y0 0)) = true) <| (if (jI m (jP m y0 0) (jI m y0 4).toNatClampNeg) = (10 : Int32) then c_X3_step_j39_l0 F B m y0 else some (m, y0))))
theorem ec_X3_step_l0_b {X : jX} {l : Launch} {d : Nat} (O : jOk X) (hd : 9 ≤ d) {F : Nat} {m0 m' : jMe} {v : Option jAV} {B : jMe → Nat → Option (jMe × Nat)} (hB : ∀ (m : jMe) (y0 : Nat) (r : jMe × Nat), B m y0 = some r → (jS X l d jm_X3_step m0 v m' (52, [(0, .inr (.inr r.2))], [], r.1)) → jS X l d jm_X3_step m0 v m' (0, [(0, .inr (.inr y0))], [], m)) {m : jMe} {y0 : Nat} {r : jMe × Nat} (H : c_X3_step_l0_b F B m y0 = some r) (h2 : jS X l d jm_X3_step m0 v m' (52, [(0, .inr (.inr r.2))], [], r.1)) : jS X l d jm_X3_step m0 v m' (0, [(0, .inr (.inr y0))], [], m) := by
  unfold c_X3_step_l0_b at H
  obtain ⟨w1, H⟩ := jgd_ok H
  refine jS.adv O [(.aload_n 0, 0, 0, 0, 0, 0, 0), (.getfield 26, 0, 3, 4, 288, 0, 0), (.aload_n 0, 0, 0, 0, 0, 0, 0), (.getfield 19, 0, 3, 2, 284, 0, 0)] (pc' := 8) (ls' := [(0, .inr (.inr y0))]) (st' := [.inl (jI m y0 2), .inl (jI m y0 4)]) (m2 := m) (by decide +kernel) rfl ⟨w1, w1, trivial⟩ ?_
  refine jS.br (i := .if_icmp .ge 44) (P := (jI m y0 2) ≤ (jI m y0 4)) (rest := []) rfl (by decide +kernel) (tgt := 52) (by decide) (fun c2 => ?_) (fun c2 => ?_)
  · replace H := jif_t c2 H
    replace H := Option.some.inj H
    subst H
    refine jS.loc' [0] (ls' := [(0, .inr (.inr y0))]) rfl ?_
    exact h2
  · replace H := jif_f c2 H
    obtain ⟨w3, H⟩ := jgd_ok H
    obtain ⟨w4, H⟩ := jgd_ok H
    refine jS.adv O [(.aload_n 0, 0, 0, 0, 0, 0, 0), (.getfield 9, 0, 3, 0, 281, 0, 0), (.aload_n 0, 0, 0, 0, 0, 0, 0), (.getfield 26, 0, 3, 4, 288, 0, 0), (.caload, 0, 0, 0, 0, 0, 0), (.bipush 32, 0, 0, 0, 0, (32 : Int32), 0)] (pc' := 22) (ls' := [(0, .inr (.inr y0))]) (st' := [.inl (32 : Int32), .inl (jI m (jP m y0 0) (jI m y0 4).toNatClampNeg)]) (m2 := m) (by decide +kernel) rfl ⟨w1, w1, ⟨w3, jib_ok w4⟩, trivial⟩ ?_
    refine jS.br (i := .if_icmp .eq 17) (P := (jI m (jP m y0 0) (jI m y0 4).toNatClampNeg) = (32 : Int32)) (rest := []) rfl (by decide +kernel) (tgt := 39) (by decide) (fun c5 => ?_) (fun c5 => ?_)
    · replace H := jif_t c5 H
      refine jS.loc' [0] (ls' := [(0, .inr (.inr y0))]) rfl ?_
      exact ec_X3_step_j39_l0 O hd hB H h2
    · replace H := jif_f c5 H
      obtain ⟨w7, H⟩ := jgd_ok H
      refine jS.adv O [(.aload_n 0, 0, 0, 0, 0, 0, 0), (.getfield 9, 0, 3, 0, 281, 0, 0), (.aload_n 0, 0, 0, 0, 0, 0, 0), (.getfield 26, 0, 3, 4, 288, 0, 0), (.caload, 0, 0, 0, 0, 0, 0), (.bipush 10, 0, 0, 0, 0, (10 : Int32), 0)] (pc' := 36) (ls' := [(0, .inr (.inr y0))]) (st' := [.inl (10 : Int32), .inl (jI m (jP m y0 0) (jI m y0 4).toNatClampNeg)]) (m2 := m) (by decide +kernel) rfl ⟨w1, w1, ⟨w3, jib_ok w7⟩, trivial⟩ ?_
      refine jS.br (i := .if_icmp .ne 16) (P := ¬ (jI m (jP m y0 0) (jI m y0 4).toNatClampNeg) = (10 : Int32)) (rest := []) rfl (by decide +kernel) (tgt := 52) (by decide) (fun c8 => ?_) (fun c8 => ?_)
      · replace H := jif_f c8 H
        replace H := Option.some.inj H
        subst H
        refine jS.loc' [0] (ls' := [(0, .inr (.inr y0))]) rfl ?_
        exact h2
      · replace H := jif_t (Classical.not_not.mp c8) H
        refine jS.loc' [0] (ls' := [(0, .inr (.inr y0))]) rfl ?_
        exact ec_X3_step_j39_l0 O hd hB H h2
def c_X3_step_l0 (F : Nat) : Nat → jMe → Nat → Option (jMe × Nat)
  | 0, _, _ => none
  | n + 1, m, y0 => c_X3_step_l0_b F (fun m y0 => c_X3_step_l0 F n m y0) m y0
theorem ec_X3_step_l0 {X : jX} {l : Launch} {d : Nat} (O : jOk X) (hd : 9 ≤ d) {F : Nat} {m0 m' : jMe} {v : Option jAV} : ∀ (n : Nat) {m : jMe} {y0 : Nat} {r : jMe × Nat} (H : c_X3_step_l0 F n m y0 = some r) (h2 : jS X l d jm_X3_step m0 v m' (52, [(0, .inr (.inr r.2))], [], r.1)), jS X l d jm_X3_step m0 v m' (0, [(0, .inr (.inr y0))], [], m) := by
  intro n
  induction n with
  | zero =>
    intro m y0 r H h2
    cases (show none = some r from H)
  | succ n ih =>
    intro m y0 r H h2
    exact ec_X3_step_l0_b O hd (B := (fun m y0 => c_X3_step_l0 F n m y0)) (fun m y0 r H h2 => ih H h2) H h2
def c_X3_step_j52 (F : Nat) (m : jMe) (y0 : Nat) : Option (jMe) :=
  jgd (jK m y0 = 35) <| (if (jI (jsI m y0 5 (jI m y0 4)) y0 4) < (jI (jsI m y0 5 (jI m y0 4)) y0 2) then jb (c_X3_isLetter F (jsI m y0 5 (jI m y0 4)) y0 (jI (jsI m y0 5 (jI m y0 4)) y0 4)) fun t15 => (if t15 = 0 then jb (c_X3_isDigit F (jsI m y0 5 (jI m y0 4)) y0 (jI (jsI m y0 5 (jI m y0 4)) y0 4)) fun t18 => (if t18 = 0 then jgd (jK m (jP (jsI m y0 5 (jI m y0 4)) y0 0) = 3) <| jgd (jin (jI (jsI m y0 5 (jI m y0 4)) y0 4) (jZ m (jP (jsI m y0 5 (jI m y0 4)) y0 0)) = true) <| jlet (jsI (jsI (jsI m y0 5 (jI m y0 4)) y0 6 (jI (jsI m y0 5 (jI m y0 4)) (jP (jsI m y0 5 (jI m y0 4)) y0 0) (jI (jsI m y0 5 (jI m y0 4)) y0 4).toNatClampNeg)) y0 4 ((jI (jsI (jsI m y0 5 (jI m y0 4)) y0 6 (jI (jsI m y0 5 (jI m y0 4)) (jP (jsI m y0 5 (jI m y0 4)) y0 0) (jI (jsI m y0 5 (jI m y0 4)) y0 4).toNatClampNeg)) y0 4) + (1 : Int32))) fun m22 => jgd (jK m22 y0 = 35) <| jb (c_X3_isSign F m22 (ji2c (jI m22 y0 6))) fun t25 => (if t25 = 0 then jb (c_X3_fail F m22 y0) fun t28 => some t28 else some m22) else jb (c_X3_stepNumber F (jsI m y0 5 (jI m y0 4)) y0) fun t30 => some t30) else jb (c_X3_stepWord F (jsI m y0 5 (jI m y0 4)) y0) fun t32 => some t32) else some (jsI (jsI m y0 5 (jI m y0 4)) y0 6 (1 : Int32)))
theorem ec_X3_step_j52 {X : jX} {l : Launch} {d : Nat} (O : jOk X) (hd : 9 ≤ d) {F : Nat} {m0 m : jMe} {y0 : Nat} {r : jMe} (H : c_X3_step_j52 F m y0 = some r) : jS X l d jm_X3_step m0 none r (52, [(0, .inr (.inr y0))], [], m) := by
  unfold c_X3_step_j52 at H
  obtain ⟨w12, H⟩ := jgd_ok H
  refine jS.adv O [(.aload_n 0, 0, 0, 0, 0, 0, 0), (.aload_n 0, 0, 0, 0, 0, 0, 0), (.getfield 26, 0, 3, 4, 288, 0, 0), (.putfield 29, 0, 3, 5, 289, 0, 0), (.aload_n 0, 0, 0, 0, 0, 0, 0), (.getfield 26, 0, 3, 4, 288, 0, 0), (.aload_n 0, 0, 0, 0, 0, 0, 0), (.getfield 19, 0, 3, 2, 284, 0, 0)] (pc' := 68) (ls' := [(0, .inr (.inr y0))]) (st' := [.inl (jI (jsI m y0 5 (jI m y0 4)) y0 2), .inl (jI (jsI m y0 5 (jI m y0 4)) y0 4)]) (m2 := (jsI m y0 5 (jI m y0 4))) (by decide +kernel) rfl ⟨w12, w12, w12, w12, trivial⟩ ?_
  refine jS.br (i := .if_icmp .lt 11) (P := (jI (jsI m y0 5 (jI m y0 4)) y0 4) < (jI (jsI m y0 5 (jI m y0 4)) y0 2)) (rest := []) rfl (by decide +kernel) (tgt := 79) (by decide) (fun c13 => ?_) (fun c13 => ?_)
  · replace H := jif_t c13 H
    refine jS.adv O [(.aload_n 0, 0, 0, 0, 0, 0, 0), (.aload_n 0, 0, 0, 0, 0, 0, 0), (.getfield 26, 0, 3, 4, 288, 0, 0)] (pc' := 84) (ls' := [(0, .inr (.inr y0))]) (st' := [.inl (jI (jsI m y0 5 (jI m y0 4)) y0 4), .inr (.inr y0)]) (m2 := (jsI m y0 5 (jI m y0 4))) (by decide +kernel) rfl ⟨w12, trivial⟩ ?_
    obtain ⟨t15, w14, H⟩ := jb_ok H
    refine jS.step (c' := (87, [(0, .inr (.inr y0))], [.inl t15], (jsI m y0 5 (jI m y0 4)))) (jSt.callV (c := 3) (As := [.inl (jI (jsI m y0 5 (jI m y0 4)) y0 4)]) (rest := []) O (ec_X3_isLetter (d := 2) O (Nat.le_refl _) w14) w12 (by decide) rfl (by omega) jmw_X3_isLetter jmv_X3_isLetter jmn_X3_isLetter (idx := 84) (jW_of 881 (by decide +kernel) rfl) (Nat.le_of_ble_eq_true rfl) (by decide +kernel)) ?_
    refine jS.br (i := .ifCond .eq 10) (P := t15 = 0) (rest := []) rfl (by decide +kernel) (tgt := 97) (by decide) (fun c16 => ?_) (fun c16 => ?_)
    · replace H := jif_t c16 H
      refine jS.adv O [(.aload_n 0, 0, 0, 0, 0, 0, 0), (.aload_n 0, 0, 0, 0, 0, 0, 0), (.getfield 26, 0, 3, 4, 288, 0, 0)] (pc' := 102) (ls' := [(0, .inr (.inr y0))]) (st' := [.inl (jI (jsI m y0 5 (jI m y0 4)) y0 4), .inr (.inr y0)]) (m2 := (jsI m y0 5 (jI m y0 4))) (by decide +kernel) rfl ⟨w12, trivial⟩ ?_
      obtain ⟨t18, w17, H⟩ := jb_ok H
      refine jS.step (c' := (105, [(0, .inr (.inr y0))], [.inl t18], (jsI m y0 5 (jI m y0 4)))) (jSt.callV (c := 3) (As := [.inl (jI (jsI m y0 5 (jI m y0 4)) y0 4)]) (rest := []) O (ec_X3_isDigit (d := 2) O (Nat.le_refl _) w17) w12 (by decide) rfl (by omega) jmw_X3_isDigit jmv_X3_isDigit jmn_X3_isDigit (idx := 91) (jW_of 956 (by decide +kernel) rfl) (Nat.le_of_ble_eq_true rfl) (by decide +kernel)) ?_
      refine jS.br (i := .ifCond .eq 10) (P := t18 = 0) (rest := []) rfl (by decide +kernel) (tgt := 115) (by decide) (fun c19 => ?_) (fun c19 => ?_)
      · replace H := jif_t c19 H
        obtain ⟨w20, H⟩ := jgd_ok H
        obtain ⟨w21, H⟩ := jgd_ok H
        obtain ⟨m22, em22, H⟩ := jlet_ok H
        refine jS.adv O [(.aload_n 0, 0, 0, 0, 0, 0, 0), (.aload_n 0, 0, 0, 0, 0, 0, 0), (.getfield 9, 0, 3, 0, 281, 0, 0), (.aload_n 0, 0, 0, 0, 0, 0, 0), (.getfield 26, 0, 3, 4, 288, 0, 0), (.caload, 0, 0, 0, 0, 0, 0), (.putfield 32, 0, 3, 6, 290, 0, 0), (.aload_n 0, 0, 0, 0, 0, 0, 0), (.dup, 0, 0, 0, 0, 0, 0), (.getfield 26, 0, 3, 4, 288, 0, 0), (.iconst 1, 0, 0, 0, 0, (1 : Int32), 0), (.iadd, 0, 0, 0, 0, 0, 0), (.putfield 26, 0, 3, 4, 288, 0, 0)] (pc' := 138) (ls' := [(0, .inr (.inr y0))]) (st' := []) (m2 := (jsI (jsI (jsI m y0 5 (jI m y0 4)) y0 6 (jI (jsI m y0 5 (jI m y0 4)) (jP (jsI m y0 5 (jI m y0 4)) y0 0) (jI (jsI m y0 5 (jI m y0 4)) y0 4).toNatClampNeg)) y0 4 ((jI (jsI (jsI m y0 5 (jI m y0 4)) y0 6 (jI (jsI m y0 5 (jI m y0 4)) (jP (jsI m y0 5 (jI m y0 4)) y0 0) (jI (jsI m y0 5 (jI m y0 4)) y0 4).toNatClampNeg)) y0 4) + (1 : Int32)))) (by decide +kernel) rfl ⟨w12, w12, ⟨w20, jib_ok w21⟩, w12, w12, w12, trivial⟩ ?_
        refine jS.cast (c' := (138, [(0, .inr (.inr y0))], [], m22)) (by rw [em22]) ?_
        obtain ⟨w23, H⟩ := jgd_ok H
        refine jS.adv O [(.aload_n 0, 0, 0, 0, 0, 0, 0), (.getfield 32, 0, 3, 6, 290, 0, 0), (.i2c, 0, 0, 0, 0, 0, 0)] (pc' := 143) (ls' := [(0, .inr (.inr y0))]) (st' := [.inl (ji2c (jI m22 y0 6))]) (m2 := m22) (by decide +kernel) rfl ⟨w23, trivial⟩ ?_
        obtain ⟨t25, w24, H⟩ := jb_ok H
        refine jS.step (c' := (146, [(0, .inr (.inr y0))], [.inl t25], m22)) (jSt.callS (As := [.inl (ji2c (jI m22 y0 6))]) (rest := []) O (ec_X3_isSign (d := 6) O (Nat.le_refl _) w24) (by omega) jmw_X3_isSign jmv_X3_isSign jmn_X3_isSign (idx := 97) (jW_of 964 (by decide +kernel) rfl) (Nat.le_of_ble_eq_true rfl) (by decide +kernel)) ?_
        refine jS.br (i := .ifCond .ne 7) (P := ¬ t25 = 0) (rest := []) rfl (by decide +kernel) (tgt := 153) (by decide) (fun c26 => ?_) (fun c26 => ?_)
        · replace H := jif_f c26 H
          replace H := Option.some.inj H
          subst H
          exact jS.vret rfl (by decide +kernel)
        · replace H := jif_t (Classical.not_not.mp c26) H
          refine jS.adv O [(.aload_n 0, 0, 0, 0, 0, 0, 0)] (pc' := 150) (ls' := [(0, .inr (.inr y0))]) (st' := [.inr (.inr y0)]) (m2 := m22) (by decide +kernel) rfl trivial ?_
          obtain ⟨t28, w27, H⟩ := jb_ok H
          refine jS.step (c' := (153, [(0, .inr (.inr y0))], [], t28)) (jSt.callV (c := 3) (As := []) (rest := []) O (ec_X3_fail (d := 2) O (Nat.le_refl _) w27) w23 (by decide) rfl (by omega) jmw_X3_fail jmv_X3_fail jmn_X3_fail (idx := 51) (jW_of 952 (by decide +kernel) rfl) (Nat.le_of_ble_eq_true rfl) (by decide +kernel)) ?_
          replace H := Option.some.inj H
          subst H
          exact jS.vret rfl (by decide +kernel)
      · replace H := jif_f c19 H
        refine jS.adv O [(.aload_n 0, 0, 0, 0, 0, 0, 0)] (pc' := 109) (ls' := [(0, .inr (.inr y0))]) (st' := [.inr (.inr y0)]) (m2 := (jsI m y0 5 (jI m y0 4))) (by decide +kernel) rfl trivial ?_
        obtain ⟨t30, w29, H⟩ := jb_ok H
        refine jS.step (c' := (112, [(0, .inr (.inr y0))], [], t30)) (jSt.callV (c := 3) (As := []) (rest := []) O (ec_X3_stepNumber (d := 3) O (Nat.le_refl _) w29) w12 (by decide) rfl (by omega) jmw_X3_stepNumber jmv_X3_stepNumber jmn_X3_stepNumber (idx := 94) (jW_of 960 (by decide +kernel) rfl) (Nat.le_of_ble_eq_true rfl) (by decide +kernel)) ?_
        refine jS.adv O [(.goto 41, 0, 153, 0, 0, 0, 0)] (pc' := 153) (ls' := [(0, .inr (.inr y0))]) (st' := []) (m2 := t30) (by decide +kernel) rfl trivial ?_
        replace H := Option.some.inj H
        subst H
        exact jS.vret rfl (by decide +kernel)
    · replace H := jif_f c16 H
      refine jS.adv O [(.aload_n 0, 0, 0, 0, 0, 0, 0)] (pc' := 91) (ls' := [(0, .inr (.inr y0))]) (st' := [.inr (.inr y0)]) (m2 := (jsI m y0 5 (jI m y0 4))) (by decide +kernel) rfl trivial ?_
      obtain ⟨t32, w31, H⟩ := jb_ok H
      refine jS.step (c' := (94, [(0, .inr (.inr y0))], [], t32)) (jSt.callV (c := 3) (As := []) (rest := []) O (ec_X3_stepWord (d := 8) O (Nat.le_refl _) w31) w12 (by decide) rfl (by omega) jmw_X3_stepWord jmv_X3_stepWord jmn_X3_stepWord (idx := 88) (jW_of 885 (by decide +kernel) rfl) (Nat.le_of_ble_eq_true rfl) (by decide +kernel)) ?_
      refine jS.adv O [(.goto 59, 0, 153, 0, 0, 0, 0)] (pc' := 153) (ls' := [(0, .inr (.inr y0))]) (st' := []) (m2 := t32) (by decide +kernel) rfl trivial ?_
      replace H := Option.some.inj H
      subst H
      exact jS.vret rfl (by decide +kernel)
  · replace H := jif_f c13 H
    refine jS.adv O [(.aload_n 0, 0, 0, 0, 0, 0, 0), (.iconst 1, 0, 0, 0, 0, (1 : Int32), 0), (.putfield 32, 0, 3, 6, 290, 0, 0), (.goto 77, 0, 153, 0, 0, 0, 0)] (pc' := 153) (ls' := [(0, .inr (.inr y0))]) (st' := []) (m2 := (jsI (jsI m y0 5 (jI m y0 4)) y0 6 (1 : Int32))) (by decide +kernel) rfl ⟨w12, trivial⟩ ?_
    replace H := Option.some.inj H
    subst H
    exact jS.vret rfl (by decide +kernel)
def c_X3_step (F : Nat) (m : jMe) (x0 : Nat) : Option (jMe) :=
  jb (c_X3_step_l0 F F m x0) fun e10 => c_X3_step_j52 F e10.1 e10.2
theorem ec_X3_step {X : jX} {l : Launch} {d : Nat} (O : jOk X) (hd : 9 ≤ d) {F : Nat} {m : jMe} {x0 : Nat} {r : jMe} (H : c_X3_step F m x0 = some r) : jH X l d jm_X3_step [.inr (.inr x0)] m none r := by
  refine jH.of jpl_RX3 rfl (Nat.le_of_ble_eq_true rfl) ?_
  show jS X l d jm_X3_step m _ _ (0, [(0, .inr (.inr x0))], [], m)
  unfold c_X3_step at H
  refine jS.loc' [0] (ls' := [(0, .inr (.inr x0))]) rfl ?_
  obtain ⟨e10, w11, H⟩ := jb_ok H
  refine ec_X3_step_l0 O hd F w11 ?_
  refine jS.loc' [0] (ls' := [(0, .inr (.inr e10.2))]) rfl ?_
  exact ec_X3_step_j52 O hd H
def c_X3_expect (F : Nat) (m : jMe) (x0 : Nat) (x1 : Int32) : Option (jMe) :=
  jgd (jK m x0 = 35) <| (if (jI m x0 6) = x1 then (if (jI m x0 6) = (1 : Int32) then some m else jb (c_X3_step F m x0) fun t5 => some t5) else jb (c_X3_fail F m x0) fun t7 => some t7)
theorem ec_X3_expect {X : jX} {l : Launch} {d : Nat} (O : jOk X) (hd : 10 ≤ d) {F : Nat} {m : jMe} {x0 : Nat} {x1 : Int32} {r : jMe} (H : c_X3_expect F m x0 x1 = some r) : jH X l d jm_X3_expect [.inr (.inr x0), .inl x1] m none r := by
  refine jH.of jpl_RX3 rfl (Nat.le_of_ble_eq_true rfl) ?_
  show jS X l d jm_X3_expect m _ _ (0, [(0, .inr (.inr x0)), (1, .inl x1)], [], m)
  unfold c_X3_expect at H
  obtain ⟨w1, H⟩ := jgd_ok H
  refine jS.adv O [(.aload_n 0, 0, 0, 0, 0, 0, 0), (.getfield 32, 0, 3, 6, 290, 0, 0), (.iload_n 1, 0, 0, 0, 0, 0, 0)] (pc' := 5) (ls' := [(0, .inr (.inr x0)), (1, .inl x1)]) (st' := [.inl x1, .inl (jI m x0 6)]) (m2 := m) (by decide +kernel) rfl ⟨w1, trivial⟩ ?_
  refine jS.br (i := .if_icmp .eq 10) (P := (jI m x0 6) = x1) (rest := []) rfl (by decide +kernel) (tgt := 15) (by decide) (fun c2 => ?_) (fun c2 => ?_)
  · replace H := jif_t c2 H
    refine jS.adv O [(.aload_n 0, 0, 0, 0, 0, 0, 0), (.getfield 32, 0, 3, 6, 290, 0, 0), (.iconst 1, 0, 0, 0, 0, (1 : Int32), 0)] (pc' := 20) (ls' := [(0, .inr (.inr x0)), (1, .inl x1)]) (st' := [.inl (1 : Int32), .inl (jI m x0 6)]) (m2 := m) (by decide +kernel) rfl ⟨w1, trivial⟩ ?_
    refine jS.br (i := .if_icmp .eq 7) (P := (jI m x0 6) = (1 : Int32)) (rest := []) rfl (by decide +kernel) (tgt := 27) (by decide) (fun c3 => ?_) (fun c3 => ?_)
    · replace H := jif_t c3 H
      replace H := Option.some.inj H
      subst H
      exact jS.vret rfl (by decide +kernel)
    · replace H := jif_f c3 H
      refine jS.adv O [(.aload_n 0, 0, 0, 0, 0, 0, 0)] (pc' := 24) (ls' := [(0, .inr (.inr x0)), (1, .inl x1)]) (st' := [.inr (.inr x0)]) (m2 := m) (by decide +kernel) rfl trivial ?_
      obtain ⟨t5, w4, H⟩ := jb_ok H
      refine jS.step (c' := (27, [(0, .inr (.inr x0)), (1, .inl x1)], [], t5)) (jSt.callV (c := 3) (As := []) (rest := []) O (ec_X3_step (d := 9) O (Nat.le_refl _) w4) w1 (by decide) rfl (by omega) jmw_X3_step jmv_X3_step jmn_X3_step (idx := 41) (jW_of 877 (by decide +kernel) rfl) (Nat.le_of_ble_eq_true rfl) (by decide +kernel)) ?_
      replace H := Option.some.inj H
      subst H
      exact jS.vret rfl (by decide +kernel)
  · replace H := jif_f c2 H
    refine jS.adv O [(.aload_n 0, 0, 0, 0, 0, 0, 0)] (pc' := 9) (ls' := [(0, .inr (.inr x0)), (1, .inl x1)]) (st' := [.inr (.inr x0)]) (m2 := m) (by decide +kernel) rfl trivial ?_
    obtain ⟨t7, w6, H⟩ := jb_ok H
    refine jS.step (c' := (12, [(0, .inr (.inr x0)), (1, .inl x1)], [], t7)) (jSt.callV (c := 3) (As := []) (rest := []) O (ec_X3_fail (d := 2) O (Nat.le_refl _) w6) w1 (by decide) rfl (by omega) jmw_X3_fail jmv_X3_fail jmn_X3_fail (idx := 51) (jW_of 952 (by decide +kernel) rfl) (Nat.le_of_ble_eq_true rfl) (by decide +kernel)) ?_
    refine jS.adv O [(.goto 15, 0, 27, 0, 0, 0, 0)] (pc' := 27) (ls' := [(0, .inr (.inr x0)), (1, .inl x1)]) (st' := []) (m2 := t7) (by decide +kernel) rfl trivial ?_
    replace H := Option.some.inj H
    subst H
    exact jS.vret rfl (by decide +kernel)
def c_X3_emit (F : Nat) (m : jMe) (x0 : Nat) (x1 : Int32) (x2 : Int32) : Option (jMe) :=
  jgd (jK m x0 = 35) <| (if (160 : Int32) ≤ (jI m x0 3) then some m else jgd (jK m (jP m x0 1) = 1) <| jgd (jin (jI m x0 3) (jZ m (jP m x0 1)) = true) <| some (jsI (jsI m (jP m x0 1) (jI m x0 3).toNatClampNeg (x1 + (jshl x2 (4 : Int32)))) x0 3 ((jI (jsI m (jP m x0 1) (jI m x0 3).toNatClampNeg (x1 + (jshl x2 (4 : Int32)))) x0 3) + (1 : Int32))))
theorem ec_X3_emit {X : jX} {l : Launch} {d : Nat} (O : jOk X) (hd : 2 ≤ d) {F : Nat} {m : jMe} {x0 : Nat} {x1 : Int32} {x2 : Int32} {r : jMe} (H : c_X3_emit F m x0 x1 x2 = some r) : jH X l d jm_X3_emit [.inr (.inr x0), .inl x1, .inl x2] m none r := by
  refine jH.of jpl_RX3 rfl (Nat.le_of_ble_eq_true rfl) ?_
  show jS X l d jm_X3_emit m _ _ (0, [(0, .inr (.inr x0)), (1, .inl x1), (2, .inl x2)], [], m)
  unfold c_X3_emit at H
  obtain ⟨w1, H⟩ := jgd_ok H
  refine jS.adv O [(.aload_n 0, 0, 0, 0, 0, 0, 0), (.getfield 23, 0, 3, 3, 286, 0, 0), (.sipush 160, 0, 0, 0, 0, (160 : Int32), 0)] (pc' := 7) (ls' := [(0, .inr (.inr x0)), (1, .inl x1), (2, .inl x2)]) (st' := [.inl (160 : Int32), .inl (jI m x0 3)]) (m2 := m) (by decide +kernel) rfl ⟨w1, trivial⟩ ?_
  refine jS.br (i := .if_icmp .ge 27) (P := (160 : Int32) ≤ (jI m x0 3)) (rest := []) rfl (by decide +kernel) (tgt := 34) (by decide) (fun c2 => ?_) (fun c2 => ?_)
  · replace H := jif_t c2 H
    replace H := Option.some.inj H
    subst H
    exact jS.vret rfl (by decide +kernel)
  · replace H := jif_f c2 H
    obtain ⟨w3, H⟩ := jgd_ok H
    obtain ⟨w4, H⟩ := jgd_ok H
    refine jS.adv O [(.aload_n 0, 0, 0, 0, 0, 0, 0), (.getfield 15, 0, 3, 1, 282, 0, 0), (.aload_n 0, 0, 0, 0, 0, 0, 0), (.getfield 23, 0, 3, 3, 286, 0, 0), (.iload_n 1, 0, 0, 0, 0, 0, 0), (.iload_n 2, 0, 0, 0, 0, 0, 0), (.iconst 4, 0, 0, 0, 0, (4 : Int32), 0), (.ishl, 0, 0, 0, 0, 0, 0), (.iadd, 0, 0, 0, 0, 0, 0), (.iastore, 0, 0, 0, 0, 0, 0), (.aload_n 0, 0, 0, 0, 0, 0, 0), (.dup, 0, 0, 0, 0, 0, 0), (.getfield 23, 0, 3, 3, 286, 0, 0), (.iconst 1, 0, 0, 0, 0, (1 : Int32), 0), (.iadd, 0, 0, 0, 0, 0, 0), (.putfield 23, 0, 3, 3, 286, 0, 0)] (pc' := 34) (ls' := [(0, .inr (.inr x0)), (1, .inl x1), (2, .inl x2)]) (st' := []) (m2 := (jsI (jsI m (jP m x0 1) (jI m x0 3).toNatClampNeg (x1 + (jshl x2 (4 : Int32)))) x0 3 ((jI (jsI m (jP m x0 1) (jI m x0 3).toNatClampNeg (x1 + (jshl x2 (4 : Int32)))) x0 3) + (1 : Int32)))) (by decide +kernel) rfl ⟨w1, w1, ⟨w3, jib_ok w4⟩, w1, w1, trivial⟩ ?_
    replace H := Option.some.inj H
    subst H
    exact jS.vret rfl (by decide +kernel)
def c_X3_emitAll_l2_b (F : Nat) (B : jMe → Nat → Int32 → Int32 → Int32 → Option (jMe)) (m : jMe) (y0 : Nat) (y1 : Int32) (y2 : Int32) (y3 : Int32) : Option (jMe) :=
  (if y2 ≤ y3 then some (m) else jgd (jK m y0 = 35) <| jb (c_X3_emit F m y0 y1 (0 : Int32)) fun t4 => B t4 y0 y1 y2 (y3 + (1 : Int32)))
theorem ec_X3_emitAll_l2_b {X : jX} {l : Launch} {d : Nat} (O : jOk X) (hd : 3 ≤ d) {F : Nat} {m0 m' : jMe} {v : Option jAV} {B : jMe → Nat → Int32 → Int32 → Int32 → Option (jMe)} (hB : ∀ (m : jMe) (y0 : Nat) (y1 : Int32) (y2 : Int32) (y3 : Int32) (r : jMe), B m y0 y1 y2 y3 = some r → (jS X l d jm_X3_emitAll m0 v m' (19, [], [], r)) → jS X l d jm_X3_emitAll m0 v m' (2, [(0, .inr (.inr y0)), (1, .inl y1), (2, .inl y2), (3, .inl y3)], [], m)) {m : jMe} {y0 : Nat} {y1 : Int32} {y2 : Int32} {y3 : Int32} {r : jMe} (H : c_X3_emitAll_l2_b F B m y0 y1 y2 y3 = some r) (h2 : jS X l d jm_X3_emitAll m0 v m' (19, [], [], r)) : jS X l d jm_X3_emitAll m0 v m' (2, [(0, .inr (.inr y0)), (1, .inl y1), (2, .inl y2), (3, .inl y3)], [], m) := by
  unfold c_X3_emitAll_l2_b at H
  refine jS.adv O [(.iload_n 3, 0, 0, 0, 0, 0, 0), (.iload_n 2, 0, 0, 0, 0, 0, 0)] (pc' := 4) (ls' := [(0, .inr (.inr y0)), (1, .inl y1), (2, .inl y2), (3, .inl y3)]) (st' := [.inl y2, .inl y3]) (m2 := m) (by decide +kernel) rfl trivial ?_
  refine jS.br (i := .if_icmp .ge 15) (P := y2 ≤ y3) (rest := []) rfl (by decide +kernel) (tgt := 19) (by decide) (fun c1 => ?_) (fun c1 => ?_)
  · replace H := jif_t c1 H
    replace H := Option.some.inj H
    subst H
    refine jS.loc' [] (ls' := []) rfl ?_
    exact h2
  · replace H := jif_f c1 H
    obtain ⟨w2, H⟩ := jgd_ok H
    refine jS.adv O [(.aload_n 0, 0, 0, 0, 0, 0, 0), (.iload_n 1, 0, 0, 0, 0, 0, 0), (.iconst 0, 0, 0, 0, 0, (0 : Int32), 0)] (pc' := 10) (ls' := [(0, .inr (.inr y0)), (1, .inl y1), (2, .inl y2), (3, .inl y3)]) (st' := [.inl (0 : Int32), .inl y1, .inr (.inr y0)]) (m2 := m) (by decide +kernel) rfl trivial ?_
    obtain ⟨t4, w3, H⟩ := jb_ok H
    refine jS.step (c' := (13, [(0, .inr (.inr y0)), (1, .inl y1), (2, .inl y2), (3, .inl y3)], [], t4)) (jSt.callV (c := 3) (As := [.inl y1, .inl (0 : Int32)]) (rest := []) O (ec_X3_emit (d := 2) O (Nat.le_refl _) w3) w2 (by decide) rfl (by omega) jmw_X3_emit jmv_X3_emit jmn_X3_emit (idx := 56) (jW_of 1059 (by decide +kernel) rfl) (Nat.le_of_ble_eq_true rfl) (by decide +kernel)) ?_
    refine jS.adv O [(.iinc 3 1, 0, 0, 0, 0, (1 : Int32), 0), (.goto (-14), 0, 2, 0, 0, 0, 0)] (pc' := 2) (ls' := [(3, .inl (y3 + (1 : Int32))), (0, .inr (.inr y0)), (1, .inl y1), (2, .inl y2)]) (st' := []) (m2 := t4) (by decide +kernel) rfl trivial ?_
    refine jS.loc' [1, 2, 3, 0] (ls' := [(0, .inr (.inr y0)), (1, .inl y1), (2, .inl y2), (3, .inl (y3 + (1 : Int32)))]) rfl ?_
    exact hB _ _ _ _ _ _ H h2
def c_X3_emitAll_l2 (F : Nat) : Nat → jMe → Nat → Int32 → Int32 → Int32 → Option (jMe)
  | 0, _, _, _, _, _ => none
  | n + 1, m, y0, y1, y2, y3 => c_X3_emitAll_l2_b F (fun m y0 y1 y2 y3 => c_X3_emitAll_l2 F n m y0 y1 y2 y3) m y0 y1 y2 y3
theorem ec_X3_emitAll_l2 {X : jX} {l : Launch} {d : Nat} (O : jOk X) (hd : 3 ≤ d) {F : Nat} {m0 m' : jMe} {v : Option jAV} : ∀ (n : Nat) {m : jMe} {y0 : Nat} {y1 : Int32} {y2 : Int32} {y3 : Int32} {r : jMe} (H : c_X3_emitAll_l2 F n m y0 y1 y2 y3 = some r) (h2 : jS X l d jm_X3_emitAll m0 v m' (19, [], [], r)), jS X l d jm_X3_emitAll m0 v m' (2, [(0, .inr (.inr y0)), (1, .inl y1), (2, .inl y2), (3, .inl y3)], [], m) := by
  intro n
  induction n with
  | zero =>
    intro m y0 y1 y2 y3 r H h2
    cases (show none = some r from H)
  | succ n ih =>
    intro m y0 y1 y2 y3 r H h2
    exact ec_X3_emitAll_l2_b O hd (B := (fun m y0 y1 y2 y3 => c_X3_emitAll_l2 F n m y0 y1 y2 y3)) (fun m y0 y1 y2 y3 r H h2 => ih H h2) H h2
def c_X3_emitAll (F : Nat) (m : jMe) (x0 : Nat) (x1 : Int32) (x2 : Int32) : Option (jMe) :=
  jb (c_X3_emitAll_l2 F F m x0 x1 x2 (0 : Int32)) fun e6 => some e6
theorem ec_X3_emitAll {X : jX} {l : Launch} {d : Nat} (O : jOk X) (hd : 3 ≤ d) {F : Nat} {m : jMe} {x0 : Nat} {x1 : Int32} {x2 : Int32} {r : jMe} (H : c_X3_emitAll F m x0 x1 x2 = some r) : jH X l d jm_X3_emitAll [.inr (.inr x0), .inl x1, .inl x2] m none r := by
  refine jH.of jpl_RX3 rfl (Nat.le_of_ble_eq_true rfl) ?_
  show jS X l d jm_X3_emitAll m _ _ (0, [(0, .inr (.inr x0)), (1, .inl x1), (2, .inl x2)], [], m)
  unfold c_X3_emitAll at H
  refine jS.adv O [(.iconst 0, 0, 0, 0, 0, (0 : Int32), 0), (.istore_n 3, 0, 0, 0, 0, 0, 0)] (pc' := 2) (ls' := [(3, .inl (0 : Int32)), (0, .inr (.inr x0)), (1, .inl x1), (2, .inl x2)]) (st' := []) (m2 := m) (by decide +kernel) rfl trivial ?_
  refine jS.loc' [1, 2, 3, 0] (ls' := [(0, .inr (.inr x0)), (1, .inl x1), (2, .inl x2), (3, .inl (0 : Int32))]) rfl ?_
  obtain ⟨e6, w7, H⟩ := jb_ok H
  refine ec_X3_emitAll_l2 O hd F w7 ?_
  replace H := Option.some.inj H
  subst H
  exact jS.vret rfl (by decide +kernel)
def c_X3_readEither_l7_b (F : Nat) (G : Nat → jMe → Nat → Int32 → Option (jMe)) (B : jMe → Nat → Int32 → Int32 → Option (jMe)) (m : jMe) (y0 : Nat) (y1 : Int32) (y2 : Int32) : Option (jMe) :=
  (if (160 : Int32) ≤ y2 then some (m) else jgd (jK m y0 = 35) <| (if (jI m y0 6) = (5 : Int32) then jb (c_X3_step F m y0) fun t8 => jgd (jK t8 y0 = 35) <| jb (G 1 t8 y0 y1) fun t11 => jgd (jK t11 y0 = 35) <| jb (c_X3_emit F t11 y0 (11 : Int32) (0 : Int32)) fun t14 => B t14 y0 y1 (y2 + (1 : Int32)) else some (m)))
theorem ec_X3_readEither_l7_b {X : jX} {l : Launch} {d : Nat} (O : jOk X) (hd : 11 ≤ d) {F : Nat} {dG : Nat} (hdG : dG < d) {G : Nat → jMe → Nat → Int32 → Option (jMe)} (hG : ∀ (q : Nat) (m : jMe) (x0 : Nat) (x1 : Int32) (r : jMe), q < 8 → G q m x0 x1 = some r → jH X l dG (jms_X3_readEither q) [.inr (.inr x0), .inl x1] m none r) {m0 m' : jMe} {v : Option jAV} {B : jMe → Nat → Int32 → Int32 → Option (jMe)} (hB : ∀ (m : jMe) (y0 : Nat) (y1 : Int32) (y2 : Int32) (r : jMe), B m y0 y1 y2 = some r → (jS X l d jm_X3_readEither m0 v m' (44, [], [], r)) → jS X l d jm_X3_readEither m0 v m' (7, [(0, .inr (.inr y0)), (1, .inl y1), (2, .inl y2)], [], m)) {m : jMe} {y0 : Nat} {y1 : Int32} {y2 : Int32} {r : jMe} (H : c_X3_readEither_l7_b F G B m y0 y1 y2 = some r) (h2 : jS X l d jm_X3_readEither m0 v m' (44, [], [], r)) : jS X l d jm_X3_readEither m0 v m' (7, [(0, .inr (.inr y0)), (1, .inl y1), (2, .inl y2)], [], m) := by
  unfold c_X3_readEither_l7_b at H
  refine jS.adv O [(.iload_n 2, 0, 0, 0, 0, 0, 0), (.sipush 160, 0, 0, 0, 0, (160 : Int32), 0)] (pc' := 11) (ls' := [(0, .inr (.inr y0)), (1, .inl y1), (2, .inl y2)]) (st' := [.inl (160 : Int32), .inl y2]) (m2 := m) (by decide +kernel) rfl trivial ?_
  refine jS.br (i := .if_icmp .ge 33) (P := (160 : Int32) ≤ y2) (rest := []) rfl (by decide +kernel) (tgt := 44) (by decide) (fun c4 => ?_) (fun c4 => ?_)
  · replace H := jif_t c4 H
    replace H := Option.some.inj H
    subst H
    refine jS.loc' [] (ls' := []) rfl ?_
    exact h2
  · replace H := jif_f c4 H
    obtain ⟨w5, H⟩ := jgd_ok H
    refine jS.adv O [(.aload_n 0, 0, 0, 0, 0, 0, 0), (.getfield 32, 0, 3, 6, 290, 0, 0), (.iconst 5, 0, 0, 0, 0, (5 : Int32), 0)] (pc' := 19) (ls' := [(0, .inr (.inr y0)), (1, .inl y1), (2, .inl y2)]) (st' := [.inl (5 : Int32), .inl (jI m y0 6)]) (m2 := m) (by decide +kernel) rfl ⟨w5, trivial⟩ ?_
    refine jS.br (i := .if_icmp .ne 25) (P := ¬ (jI m y0 6) = (5 : Int32)) (rest := []) rfl (by decide +kernel) (tgt := 44) (by decide) (fun c6 => ?_) (fun c6 => ?_)
    · replace H := jif_f c6 H
      replace H := Option.some.inj H
      subst H
      refine jS.loc' [] (ls' := []) rfl ?_
      exact h2
    · replace H := jif_t (Classical.not_not.mp c6) H
      refine jS.adv O [(.aload_n 0, 0, 0, 0, 0, 0, 0)] (pc' := 23) (ls' := [(0, .inr (.inr y0)), (1, .inl y1), (2, .inl y2)]) (st' := [.inr (.inr y0)]) (m2 := m) (by decide +kernel) rfl trivial ?_
      obtain ⟨t8, w7, H⟩ := jb_ok H
      refine jS.step (c' := (26, [(0, .inr (.inr y0)), (1, .inl y1), (2, .inl y2)], [], t8)) (jSt.callV (c := 3) (As := []) (rest := []) O (ec_X3_step (d := 9) O (Nat.le_refl _) w7) w5 (by decide) rfl (by omega) jmw_X3_step jmv_X3_step jmn_X3_step (idx := 41) (jW_of 877 (by decide +kernel) rfl) (Nat.le_of_ble_eq_true rfl) (by decide +kernel)) ?_
      obtain ⟨w9, H⟩ := jgd_ok H
      refine jS.adv O [(.aload_n 0, 0, 0, 0, 0, 0, 0), (.iload_n 1, 0, 0, 0, 0, 0, 0)] (pc' := 28) (ls' := [(0, .inr (.inr y0)), (1, .inl y1), (2, .inl y2)]) (st' := [.inl y1, .inr (.inr y0)]) (m2 := t8) (by decide +kernel) rfl trivial ?_
      obtain ⟨t11, w10, H⟩ := jb_ok H
      refine jS.step (c' := (31, [(0, .inr (.inr y0)), (1, .inl y1), (2, .inl y2)], [], t11)) (jSt.callV (c := 3) (As := [.inl y1]) (rest := []) O (hG 1 _ _ _ _ (by decide) w10) w9 (by decide) rfl hdG jmw_X3_readBoth jmv_X3_readBoth jmn_X3_readBoth (idx := 60) (jW_of 1031 (by decide +kernel) rfl) (Nat.le_of_ble_eq_true rfl) (by decide +kernel)) ?_
      obtain ⟨w12, H⟩ := jgd_ok H
      refine jS.adv O [(.aload_n 0, 0, 0, 0, 0, 0, 0), (.bipush 11, 0, 0, 0, 0, (11 : Int32), 0), (.iconst 0, 0, 0, 0, 0, (0 : Int32), 0)] (pc' := 35) (ls' := [(0, .inr (.inr y0)), (1, .inl y1), (2, .inl y2)]) (st' := [.inl (0 : Int32), .inl (11 : Int32), .inr (.inr y0)]) (m2 := t11) (by decide +kernel) rfl trivial ?_
      obtain ⟨t14, w13, H⟩ := jb_ok H
      refine jS.step (c' := (38, [(0, .inr (.inr y0)), (1, .inl y1), (2, .inl y2)], [], t14)) (jSt.callV (c := 3) (As := [.inl (11 : Int32), .inl (0 : Int32)]) (rest := []) O (ec_X3_emit (d := 2) O (Nat.le_refl _) w13) w12 (by decide) rfl (by omega) jmw_X3_emit jmv_X3_emit jmn_X3_emit (idx := 56) (jW_of 1059 (by decide +kernel) rfl) (Nat.le_of_ble_eq_true rfl) (by decide +kernel)) ?_
      refine jS.adv O [(.iinc 2 1, 0, 0, 0, 0, (1 : Int32), 0), (.goto (-34), 0, 7, 0, 0, 0, 0)] (pc' := 7) (ls' := [(2, .inl (y2 + (1 : Int32))), (0, .inr (.inr y0)), (1, .inl y1)]) (st' := []) (m2 := t14) (by decide +kernel) rfl trivial ?_
      refine jS.loc' [1, 2, 0] (ls' := [(0, .inr (.inr y0)), (1, .inl y1), (2, .inl (y2 + (1 : Int32)))]) rfl ?_
      exact hB _ _ _ _ _ H h2
def c_X3_readEither_l7 (F : Nat) (G : Nat → jMe → Nat → Int32 → Option (jMe)) : Nat → jMe → Nat → Int32 → Int32 → Option (jMe)
  | 0, _, _, _, _ => none
  | n + 1, m, y0, y1, y2 => c_X3_readEither_l7_b F G (fun m y0 y1 y2 => c_X3_readEither_l7 F G n m y0 y1 y2) m y0 y1 y2
theorem ec_X3_readEither_l7 {X : jX} {l : Launch} {d : Nat} (O : jOk X) (hd : 11 ≤ d) {F : Nat} {dG : Nat} (hdG : dG < d) {G : Nat → jMe → Nat → Int32 → Option (jMe)} (hG : ∀ (q : Nat) (m : jMe) (x0 : Nat) (x1 : Int32) (r : jMe), q < 8 → G q m x0 x1 = some r → jH X l dG (jms_X3_readEither q) [.inr (.inr x0), .inl x1] m none r) {m0 m' : jMe} {v : Option jAV} : ∀ (n : Nat) {m : jMe} {y0 : Nat} {y1 : Int32} {y2 : Int32} {r : jMe} (H : c_X3_readEither_l7 F G n m y0 y1 y2 = some r) (h2 : jS X l d jm_X3_readEither m0 v m' (44, [], [], r)), jS X l d jm_X3_readEither m0 v m' (7, [(0, .inr (.inr y0)), (1, .inl y1), (2, .inl y2)], [], m) := by
  intro n
  induction n with
  | zero =>
    intro m y0 y1 y2 r H h2
    cases (show none = some r from H)
  | succ n ih =>
    intro m y0 y1 y2 r H h2
    exact ec_X3_readEither_l7_b O hd hdG hG (B := (fun m y0 y1 y2 => c_X3_readEither_l7 F G n m y0 y1 y2)) (fun m y0 y1 y2 r H h2 => ih H h2) H h2
def c_X3_readEither_b (F : Nat) (G : Nat → jMe → Nat → Int32 → Option (jMe)) (m : jMe) (x0 : Nat) (x1 : Int32) : Option (jMe) :=
  jgd (jK m x0 = 35) <| jb (G 1 m x0 x1) fun t3 => jb (c_X3_readEither_l7 F G F t3 x0 x1 (0 : Int32)) fun e16 => some e16
theorem ec_X3_readEither_b {X : jX} {l : Launch} {d : Nat} (O : jOk X) (hd : 11 ≤ d) {F : Nat} {dG : Nat} (hdG : dG < d) {G : Nat → jMe → Nat → Int32 → Option (jMe)} (hG : ∀ (q : Nat) (m : jMe) (x0 : Nat) (x1 : Int32) (r : jMe), q < 8 → G q m x0 x1 = some r → jH X l dG (jms_X3_readEither q) [.inr (.inr x0), .inl x1] m none r) {m : jMe} {x0 : Nat} {x1 : Int32} {r : jMe} (H : c_X3_readEither_b F G m x0 x1 = some r) : jH X l d jm_X3_readEither [.inr (.inr x0), .inl x1] m none r := by
  refine jH.of jpl_RX3 rfl (Nat.le_of_ble_eq_true rfl) ?_
  show jS X l d jm_X3_readEither m _ _ (0, [(0, .inr (.inr x0)), (1, .inl x1)], [], m)
  unfold c_X3_readEither_b at H
  obtain ⟨w1, H⟩ := jgd_ok H
  refine jS.adv O [(.aload_n 0, 0, 0, 0, 0, 0, 0), (.iload_n 1, 0, 0, 0, 0, 0, 0)] (pc' := 2) (ls' := [(0, .inr (.inr x0)), (1, .inl x1)]) (st' := [.inl x1, .inr (.inr x0)]) (m2 := m) (by decide +kernel) rfl trivial ?_
  obtain ⟨t3, w2, H⟩ := jb_ok H
  refine jS.step (c' := (5, [(0, .inr (.inr x0)), (1, .inl x1)], [], t3)) (jSt.callV (c := 3) (As := [.inl x1]) (rest := []) O (hG 1 _ _ _ _ (by decide) w2) w1 (by decide) rfl hdG jmw_X3_readBoth jmv_X3_readBoth jmn_X3_readBoth (idx := 60) (jW_of 1031 (by decide +kernel) rfl) (Nat.le_of_ble_eq_true rfl) (by decide +kernel)) ?_
  refine jS.adv O [(.iconst 0, 0, 0, 0, 0, (0 : Int32), 0), (.istore_n 2, 0, 0, 0, 0, 0, 0)] (pc' := 7) (ls' := [(2, .inl (0 : Int32)), (0, .inr (.inr x0)), (1, .inl x1)]) (st' := []) (m2 := t3) (by decide +kernel) rfl trivial ?_
  refine jS.loc' [1, 2, 0] (ls' := [(0, .inr (.inr x0)), (1, .inl x1), (2, .inl (0 : Int32))]) rfl ?_
  obtain ⟨e16, w17, H⟩ := jb_ok H
  refine ec_X3_readEither_l7 O hd hdG hG F w17 ?_
  replace H := Option.some.inj H
  subst H
  exact jS.vret rfl (by decide +kernel)
def c_X3_readBoth_l7_b (F : Nat) (G : Nat → jMe → Nat → Int32 → Option (jMe)) (B : jMe → Nat → Int32 → Int32 → Option (jMe)) (m : jMe) (y0 : Nat) (y1 : Int32) (y2 : Int32) : Option (jMe) :=
  (if (160 : Int32) ≤ y2 then some (m) else jgd (jK m y0 = 35) <| (if (jI m y0 6) = (6 : Int32) then jb (c_X3_step F m y0) fun t8 => jgd (jK t8 y0 = 35) <| jb (G 2 t8 y0 y1) fun t11 => jgd (jK t11 y0 = 35) <| jb (c_X3_emit F t11 y0 (10 : Int32) (0 : Int32)) fun t14 => B t14 y0 y1 (y2 + (1 : Int32)) else some (m)))
theorem ec_X3_readBoth_l7_b {X : jX} {l : Launch} {d : Nat} (O : jOk X) (hd : 11 ≤ d) {F : Nat} {dG : Nat} (hdG : dG < d) {G : Nat → jMe → Nat → Int32 → Option (jMe)} (hG : ∀ (q : Nat) (m : jMe) (x0 : Nat) (x1 : Int32) (r : jMe), q < 8 → G q m x0 x1 = some r → jH X l dG (jms_X3_readEither q) [.inr (.inr x0), .inl x1] m none r) {m0 m' : jMe} {v : Option jAV} {B : jMe → Nat → Int32 → Int32 → Option (jMe)} (hB : ∀ (m : jMe) (y0 : Nat) (y1 : Int32) (y2 : Int32) (r : jMe), B m y0 y1 y2 = some r → (jS X l d jm_X3_readBoth m0 v m' (45, [], [], r)) → jS X l d jm_X3_readBoth m0 v m' (7, [(0, .inr (.inr y0)), (1, .inl y1), (2, .inl y2)], [], m)) {m : jMe} {y0 : Nat} {y1 : Int32} {y2 : Int32} {r : jMe} (H : c_X3_readBoth_l7_b F G B m y0 y1 y2 = some r) (h2 : jS X l d jm_X3_readBoth m0 v m' (45, [], [], r)) : jS X l d jm_X3_readBoth m0 v m' (7, [(0, .inr (.inr y0)), (1, .inl y1), (2, .inl y2)], [], m) := by
  unfold c_X3_readBoth_l7_b at H
  refine jS.adv O [(.iload_n 2, 0, 0, 0, 0, 0, 0), (.sipush 160, 0, 0, 0, 0, (160 : Int32), 0)] (pc' := 11) (ls' := [(0, .inr (.inr y0)), (1, .inl y1), (2, .inl y2)]) (st' := [.inl (160 : Int32), .inl y2]) (m2 := m) (by decide +kernel) rfl trivial ?_
  refine jS.br (i := .if_icmp .ge 34) (P := (160 : Int32) ≤ y2) (rest := []) rfl (by decide +kernel) (tgt := 45) (by decide) (fun c4 => ?_) (fun c4 => ?_)
  · replace H := jif_t c4 H
    replace H := Option.some.inj H
    subst H
    refine jS.loc' [] (ls' := []) rfl ?_
    exact h2
  · replace H := jif_f c4 H
    obtain ⟨w5, H⟩ := jgd_ok H
    refine jS.adv O [(.aload_n 0, 0, 0, 0, 0, 0, 0), (.getfield 32, 0, 3, 6, 290, 0, 0), (.bipush 6, 0, 0, 0, 0, (6 : Int32), 0)] (pc' := 20) (ls' := [(0, .inr (.inr y0)), (1, .inl y1), (2, .inl y2)]) (st' := [.inl (6 : Int32), .inl (jI m y0 6)]) (m2 := m) (by decide +kernel) rfl ⟨w5, trivial⟩ ?_
    refine jS.br (i := .if_icmp .ne 25) (P := ¬ (jI m y0 6) = (6 : Int32)) (rest := []) rfl (by decide +kernel) (tgt := 45) (by decide) (fun c6 => ?_) (fun c6 => ?_)
    · replace H := jif_f c6 H
      replace H := Option.some.inj H
      subst H
      refine jS.loc' [] (ls' := []) rfl ?_
      exact h2
    · replace H := jif_t (Classical.not_not.mp c6) H
      refine jS.adv O [(.aload_n 0, 0, 0, 0, 0, 0, 0)] (pc' := 24) (ls' := [(0, .inr (.inr y0)), (1, .inl y1), (2, .inl y2)]) (st' := [.inr (.inr y0)]) (m2 := m) (by decide +kernel) rfl trivial ?_
      obtain ⟨t8, w7, H⟩ := jb_ok H
      refine jS.step (c' := (27, [(0, .inr (.inr y0)), (1, .inl y1), (2, .inl y2)], [], t8)) (jSt.callV (c := 3) (As := []) (rest := []) O (ec_X3_step (d := 9) O (Nat.le_refl _) w7) w5 (by decide) rfl (by omega) jmw_X3_step jmv_X3_step jmn_X3_step (idx := 41) (jW_of 877 (by decide +kernel) rfl) (Nat.le_of_ble_eq_true rfl) (by decide +kernel)) ?_
      obtain ⟨w9, H⟩ := jgd_ok H
      refine jS.adv O [(.aload_n 0, 0, 0, 0, 0, 0, 0), (.iload_n 1, 0, 0, 0, 0, 0, 0)] (pc' := 29) (ls' := [(0, .inr (.inr y0)), (1, .inl y1), (2, .inl y2)]) (st' := [.inl y1, .inr (.inr y0)]) (m2 := t8) (by decide +kernel) rfl trivial ?_
      obtain ⟨t11, w10, H⟩ := jb_ok H
      refine jS.step (c' := (32, [(0, .inr (.inr y0)), (1, .inl y1), (2, .inl y2)], [], t11)) (jSt.callV (c := 3) (As := [.inl y1]) (rest := []) O (hG 2 _ _ _ _ (by decide) w10) w9 (by decide) rfl hdG jmw_X3_readDenied jmv_X3_readDenied jmn_X3_readDenied (idx := 63) (jW_of 1035 (by decide +kernel) rfl) (Nat.le_of_ble_eq_true rfl) (by decide +kernel)) ?_
      obtain ⟨w12, H⟩ := jgd_ok H
      refine jS.adv O [(.aload_n 0, 0, 0, 0, 0, 0, 0), (.bipush 10, 0, 0, 0, 0, (10 : Int32), 0), (.iconst 0, 0, 0, 0, 0, (0 : Int32), 0)] (pc' := 36) (ls' := [(0, .inr (.inr y0)), (1, .inl y1), (2, .inl y2)]) (st' := [.inl (0 : Int32), .inl (10 : Int32), .inr (.inr y0)]) (m2 := t11) (by decide +kernel) rfl trivial ?_
      obtain ⟨t14, w13, H⟩ := jb_ok H
      refine jS.step (c' := (39, [(0, .inr (.inr y0)), (1, .inl y1), (2, .inl y2)], [], t14)) (jSt.callV (c := 3) (As := [.inl (10 : Int32), .inl (0 : Int32)]) (rest := []) O (ec_X3_emit (d := 2) O (Nat.le_refl _) w13) w12 (by decide) rfl (by omega) jmw_X3_emit jmv_X3_emit jmn_X3_emit (idx := 56) (jW_of 1059 (by decide +kernel) rfl) (Nat.le_of_ble_eq_true rfl) (by decide +kernel)) ?_
      refine jS.adv O [(.iinc 2 1, 0, 0, 0, 0, (1 : Int32), 0), (.goto (-35), 0, 7, 0, 0, 0, 0)] (pc' := 7) (ls' := [(2, .inl (y2 + (1 : Int32))), (0, .inr (.inr y0)), (1, .inl y1)]) (st' := []) (m2 := t14) (by decide +kernel) rfl trivial ?_
      refine jS.loc' [1, 2, 0] (ls' := [(0, .inr (.inr y0)), (1, .inl y1), (2, .inl (y2 + (1 : Int32)))]) rfl ?_
      exact hB _ _ _ _ _ H h2
def c_X3_readBoth_l7 (F : Nat) (G : Nat → jMe → Nat → Int32 → Option (jMe)) : Nat → jMe → Nat → Int32 → Int32 → Option (jMe)
  | 0, _, _, _, _ => none
  | n + 1, m, y0, y1, y2 => c_X3_readBoth_l7_b F G (fun m y0 y1 y2 => c_X3_readBoth_l7 F G n m y0 y1 y2) m y0 y1 y2
theorem ec_X3_readBoth_l7 {X : jX} {l : Launch} {d : Nat} (O : jOk X) (hd : 11 ≤ d) {F : Nat} {dG : Nat} (hdG : dG < d) {G : Nat → jMe → Nat → Int32 → Option (jMe)} (hG : ∀ (q : Nat) (m : jMe) (x0 : Nat) (x1 : Int32) (r : jMe), q < 8 → G q m x0 x1 = some r → jH X l dG (jms_X3_readEither q) [.inr (.inr x0), .inl x1] m none r) {m0 m' : jMe} {v : Option jAV} : ∀ (n : Nat) {m : jMe} {y0 : Nat} {y1 : Int32} {y2 : Int32} {r : jMe} (H : c_X3_readBoth_l7 F G n m y0 y1 y2 = some r) (h2 : jS X l d jm_X3_readBoth m0 v m' (45, [], [], r)), jS X l d jm_X3_readBoth m0 v m' (7, [(0, .inr (.inr y0)), (1, .inl y1), (2, .inl y2)], [], m) := by
  intro n
  induction n with
  | zero =>
    intro m y0 y1 y2 r H h2
    cases (show none = some r from H)
  | succ n ih =>
    intro m y0 y1 y2 r H h2
    exact ec_X3_readBoth_l7_b O hd hdG hG (B := (fun m y0 y1 y2 => c_X3_readBoth_l7 F G n m y0 y1 y2)) (fun m y0 y1 y2 r H h2 => ih H h2) H h2
def c_X3_readBoth_b (F : Nat) (G : Nat → jMe → Nat → Int32 → Option (jMe)) (m : jMe) (x0 : Nat) (x1 : Int32) : Option (jMe) :=
  jgd (jK m x0 = 35) <| jb (G 2 m x0 x1) fun t3 => jb (c_X3_readBoth_l7 F G F t3 x0 x1 (0 : Int32)) fun e16 => some e16
theorem ec_X3_readBoth_b {X : jX} {l : Launch} {d : Nat} (O : jOk X) (hd : 11 ≤ d) {F : Nat} {dG : Nat} (hdG : dG < d) {G : Nat → jMe → Nat → Int32 → Option (jMe)} (hG : ∀ (q : Nat) (m : jMe) (x0 : Nat) (x1 : Int32) (r : jMe), q < 8 → G q m x0 x1 = some r → jH X l dG (jms_X3_readEither q) [.inr (.inr x0), .inl x1] m none r) {m : jMe} {x0 : Nat} {x1 : Int32} {r : jMe} (H : c_X3_readBoth_b F G m x0 x1 = some r) : jH X l d jm_X3_readBoth [.inr (.inr x0), .inl x1] m none r := by
  refine jH.of jpl_RX3 rfl (Nat.le_of_ble_eq_true rfl) ?_
  show jS X l d jm_X3_readBoth m _ _ (0, [(0, .inr (.inr x0)), (1, .inl x1)], [], m)
  unfold c_X3_readBoth_b at H
  obtain ⟨w1, H⟩ := jgd_ok H
  refine jS.adv O [(.aload_n 0, 0, 0, 0, 0, 0, 0), (.iload_n 1, 0, 0, 0, 0, 0, 0)] (pc' := 2) (ls' := [(0, .inr (.inr x0)), (1, .inl x1)]) (st' := [.inl x1, .inr (.inr x0)]) (m2 := m) (by decide +kernel) rfl trivial ?_
  obtain ⟨t3, w2, H⟩ := jb_ok H
  refine jS.step (c' := (5, [(0, .inr (.inr x0)), (1, .inl x1)], [], t3)) (jSt.callV (c := 3) (As := [.inl x1]) (rest := []) O (hG 2 _ _ _ _ (by decide) w2) w1 (by decide) rfl hdG jmw_X3_readDenied jmv_X3_readDenied jmn_X3_readDenied (idx := 63) (jW_of 1035 (by decide +kernel) rfl) (Nat.le_of_ble_eq_true rfl) (by decide +kernel)) ?_
  refine jS.adv O [(.iconst 0, 0, 0, 0, 0, (0 : Int32), 0), (.istore_n 2, 0, 0, 0, 0, 0, 0)] (pc' := 7) (ls' := [(2, .inl (0 : Int32)), (0, .inr (.inr x0)), (1, .inl x1)]) (st' := []) (m2 := t3) (by decide +kernel) rfl trivial ?_
  refine jS.loc' [1, 2, 0] (ls' := [(0, .inr (.inr x0)), (1, .inl x1), (2, .inl (0 : Int32))]) rfl ?_
  obtain ⟨e16, w17, H⟩ := jb_ok H
  refine ec_X3_readBoth_l7 O hd hdG hG F w17 ?_
  replace H := Option.some.inj H
  subst H
  exact jS.vret rfl (by decide +kernel)
def c_X3_readDenied_l2_b (F : Nat) (G : Nat → jMe → Nat → Int32 → Option (jMe)) (B : jMe → Nat → Int32 → Int32 → Option (jMe × Nat × Int32 × Int32)) (m : jMe) (y0 : Nat) (y1 : Int32) (y2 : Int32) : Option (jMe × Nat × Int32 × Int32) :=
  jgd (jK m y0 = 35) <| (if (jI m y0 6) = (7 : Int32) then (if (5 : Int32) ≤ (y1 + y2) then some (m, y0, y1, y2) else jb (c_X3_step F m y0) fun t5 => B t5 y0 y1 (y2 + (1 : Int32))) else some (m, y0, y1, y2))
theorem ec_X3_readDenied_l2_b {X : jX} {l : Launch} {d : Nat} (O : jOk X) (hd : 11 ≤ d) {F : Nat} {dG : Nat} (hdG : dG < d) {G : Nat → jMe → Nat → Int32 → Option (jMe)} (hG : ∀ (q : Nat) (m : jMe) (x0 : Nat) (x1 : Int32) (r : jMe), q < 8 → G q m x0 x1 = some r → jH X l dG (jms_X3_readEither q) [.inr (.inr x0), .inl x1] m none r) {m0 m' : jMe} {v : Option jAV} {B : jMe → Nat → Int32 → Int32 → Option (jMe × Nat × Int32 × Int32)} (hB : ∀ (m : jMe) (y0 : Nat) (y1 : Int32) (y2 : Int32) (r : jMe × Nat × Int32 × Int32), B m y0 y1 y2 = some r → (jS X l d jm_X3_readDenied m0 v m' (28, [(0, .inr (.inr r.2.1)), (1, .inl r.2.2.1), (2, .inl r.2.2.2)], [], r.1)) → jS X l d jm_X3_readDenied m0 v m' (2, [(0, .inr (.inr y0)), (1, .inl y1), (2, .inl y2)], [], m)) {m : jMe} {y0 : Nat} {y1 : Int32} {y2 : Int32} {r : jMe × Nat × Int32 × Int32} (H : c_X3_readDenied_l2_b F G B m y0 y1 y2 = some r) (h2 : jS X l d jm_X3_readDenied m0 v m' (28, [(0, .inr (.inr r.2.1)), (1, .inl r.2.2.1), (2, .inl r.2.2.2)], [], r.1)) : jS X l d jm_X3_readDenied m0 v m' (2, [(0, .inr (.inr y0)), (1, .inl y1), (2, .inl y2)], [], m) := by
  unfold c_X3_readDenied_l2_b at H
  obtain ⟨w1, H⟩ := jgd_ok H
  refine jS.adv O [(.aload_n 0, 0, 0, 0, 0, 0, 0), (.getfield 32, 0, 3, 6, 290, 0, 0), (.bipush 7, 0, 0, 0, 0, (7 : Int32), 0)] (pc' := 8) (ls' := [(0, .inr (.inr y0)), (1, .inl y1), (2, .inl y2)]) (st' := [.inl (7 : Int32), .inl (jI m y0 6)]) (m2 := m) (by decide +kernel) rfl ⟨w1, trivial⟩ ?_
  refine jS.br (i := .if_icmp .ne 20) (P := ¬ (jI m y0 6) = (7 : Int32)) (rest := []) rfl (by decide +kernel) (tgt := 28) (by decide) (fun c2 => ?_) (fun c2 => ?_)
  · replace H := jif_f c2 H
    replace H := Option.some.inj H
    subst H
    refine jS.loc' [0, 1, 2] (ls' := [(0, .inr (.inr y0)), (1, .inl y1), (2, .inl y2)]) rfl ?_
    exact h2
  · replace H := jif_t (Classical.not_not.mp c2) H
    refine jS.adv O [(.iload_n 1, 0, 0, 0, 0, 0, 0), (.iload_n 2, 0, 0, 0, 0, 0, 0), (.iadd, 0, 0, 0, 0, 0, 0), (.iconst 5, 0, 0, 0, 0, (5 : Int32), 0)] (pc' := 15) (ls' := [(0, .inr (.inr y0)), (1, .inl y1), (2, .inl y2)]) (st' := [.inl (5 : Int32), .inl (y1 + y2)]) (m2 := m) (by decide +kernel) rfl trivial ?_
    refine jS.br (i := .if_icmp .ge 13) (P := (5 : Int32) ≤ (y1 + y2)) (rest := []) rfl (by decide +kernel) (tgt := 28) (by decide) (fun c3 => ?_) (fun c3 => ?_)
    · replace H := jif_t c3 H
      replace H := Option.some.inj H
      subst H
      refine jS.loc' [0, 1, 2] (ls' := [(0, .inr (.inr y0)), (1, .inl y1), (2, .inl y2)]) rfl ?_
      exact h2
    · replace H := jif_f c3 H
      refine jS.adv O [(.aload_n 0, 0, 0, 0, 0, 0, 0)] (pc' := 19) (ls' := [(0, .inr (.inr y0)), (1, .inl y1), (2, .inl y2)]) (st' := [.inr (.inr y0)]) (m2 := m) (by decide +kernel) rfl trivial ?_
      obtain ⟨t5, w4, H⟩ := jb_ok H
      refine jS.step (c' := (22, [(0, .inr (.inr y0)), (1, .inl y1), (2, .inl y2)], [], t5)) (jSt.callV (c := 3) (As := []) (rest := []) O (ec_X3_step (d := 9) O (Nat.le_refl _) w4) w1 (by decide) rfl (by omega) jmw_X3_step jmv_X3_step jmn_X3_step (idx := 41) (jW_of 877 (by decide +kernel) rfl) (Nat.le_of_ble_eq_true rfl) (by decide +kernel)) ?_
      refine jS.adv O [(.iinc 2 1, 0, 0, 0, 0, (1 : Int32), 0), (.goto (-23), 0, 2, 0, 0, 0, 0)] (pc' := 2) (ls' := [(2, .inl (y2 + (1 : Int32))), (0, .inr (.inr y0)), (1, .inl y1)]) (st' := []) (m2 := t5) (by decide +kernel) rfl trivial ?_
      refine jS.loc' [1, 2, 0] (ls' := [(0, .inr (.inr y0)), (1, .inl y1), (2, .inl (y2 + (1 : Int32)))]) rfl ?_
      exact hB _ _ _ _ _ H h2
def c_X3_readDenied_l2 (F : Nat) (G : Nat → jMe → Nat → Int32 → Option (jMe)) : Nat → jMe → Nat → Int32 → Int32 → Option (jMe × Nat × Int32 × Int32)
  | 0, _, _, _, _ => none
  | n + 1, m, y0, y1, y2 => c_X3_readDenied_l2_b F G (fun m y0 y1 y2 => c_X3_readDenied_l2 F G n m y0 y1 y2) m y0 y1 y2
theorem ec_X3_readDenied_l2 {X : jX} {l : Launch} {d : Nat} (O : jOk X) (hd : 11 ≤ d) {F : Nat} {dG : Nat} (hdG : dG < d) {G : Nat → jMe → Nat → Int32 → Option (jMe)} (hG : ∀ (q : Nat) (m : jMe) (x0 : Nat) (x1 : Int32) (r : jMe), q < 8 → G q m x0 x1 = some r → jH X l dG (jms_X3_readEither q) [.inr (.inr x0), .inl x1] m none r) {m0 m' : jMe} {v : Option jAV} : ∀ (n : Nat) {m : jMe} {y0 : Nat} {y1 : Int32} {y2 : Int32} {r : jMe × Nat × Int32 × Int32} (H : c_X3_readDenied_l2 F G n m y0 y1 y2 = some r) (h2 : jS X l d jm_X3_readDenied m0 v m' (28, [(0, .inr (.inr r.2.1)), (1, .inl r.2.2.1), (2, .inl r.2.2.2)], [], r.1)), jS X l d jm_X3_readDenied m0 v m' (2, [(0, .inr (.inr y0)), (1, .inl y1), (2, .inl y2)], [], m) := by
  intro n
  induction n with
  | zero =>
    intro m y0 y1 y2 r H h2
    cases (show none = some r from H)
  | succ n ih =>
    intro m y0 y1 y2 r H h2
    exact ec_X3_readDenied_l2_b O hd hdG hG (B := (fun m y0 y1 y2 => c_X3_readDenied_l2 F G n m y0 y1 y2)) (fun m y0 y1 y2 r H h2 => ih H h2) H h2
def c_X3_readDenied_j28 (F : Nat) (G : Nat → jMe → Nat → Int32 → Option (jMe)) (m : jMe) (y0 : Nat) (y1 : Int32) (y2 : Int32) : Option (jMe) :=
  jgd (jK m y0 = 35) <| jb (G 3 m y0 (y1 + y2)) fun t11 => jgd (jK t11 y0 = 35) <| jb (c_X3_emitAll F t11 y0 (3 : Int32) y2) fun t14 => some t14
theorem ec_X3_readDenied_j28 {X : jX} {l : Launch} {d : Nat} (O : jOk X) (hd : 11 ≤ d) {F : Nat} {dG : Nat} (hdG : dG < d) {G : Nat → jMe → Nat → Int32 → Option (jMe)} (hG : ∀ (q : Nat) (m : jMe) (x0 : Nat) (x1 : Int32) (r : jMe), q < 8 → G q m x0 x1 = some r → jH X l dG (jms_X3_readEither q) [.inr (.inr x0), .inl x1] m none r) {m0 m : jMe} {y0 : Nat} {y1 : Int32} {y2 : Int32} {r : jMe} (H : c_X3_readDenied_j28 F G m y0 y1 y2 = some r) : jS X l d jm_X3_readDenied m0 none r (28, [(0, .inr (.inr y0)), (1, .inl y1), (2, .inl y2)], [], m) := by
  unfold c_X3_readDenied_j28 at H
  obtain ⟨w9, H⟩ := jgd_ok H
  refine jS.adv O [(.aload_n 0, 0, 0, 0, 0, 0, 0), (.iload_n 1, 0, 0, 0, 0, 0, 0), (.iload_n 2, 0, 0, 0, 0, 0, 0), (.iadd, 0, 0, 0, 0, 0, 0)] (pc' := 32) (ls' := [(0, .inr (.inr y0)), (1, .inl y1), (2, .inl y2)]) (st' := [.inl (y1 + y2), .inr (.inr y0)]) (m2 := m) (by decide +kernel) rfl trivial ?_
  obtain ⟨t11, w10, H⟩ := jb_ok H
  refine jS.step (c' := (35, [(0, .inr (.inr y0)), (1, .inl y1), (2, .inl y2)], [], t11)) (jSt.callV (c := 3) (As := [.inl (y1 + y2)]) (rest := []) O (hG 3 _ _ _ _ (by decide) w10) w9 (by decide) rfl hdG jmw_X3_readCompared jmv_X3_readCompared jmn_X3_readCompared (idx := 66) (jW_of 1039 (by decide +kernel) rfl) (Nat.le_of_ble_eq_true rfl) (by decide +kernel)) ?_
  obtain ⟨w12, H⟩ := jgd_ok H
  refine jS.adv O [(.aload_n 0, 0, 0, 0, 0, 0, 0), (.iconst 3, 0, 0, 0, 0, (3 : Int32), 0), (.iload_n 2, 0, 0, 0, 0, 0, 0)] (pc' := 38) (ls' := [(0, .inr (.inr y0)), (1, .inl y1), (2, .inl y2)]) (st' := [.inl y2, .inl (3 : Int32), .inr (.inr y0)]) (m2 := t11) (by decide +kernel) rfl trivial ?_
  obtain ⟨t14, w13, H⟩ := jb_ok H
  refine jS.step (c' := (41, [(0, .inr (.inr y0)), (1, .inl y1), (2, .inl y2)], [], t14)) (jSt.callV (c := 3) (As := [.inl (3 : Int32), .inl y2]) (rest := []) O (ec_X3_emitAll (d := 3) O (Nat.le_refl _) w13) w12 (by decide) rfl (by omega) jmw_X3_emitAll jmv_X3_emitAll jmn_X3_emitAll (idx := 69) (jW_of 1063 (by decide +kernel) rfl) (Nat.le_of_ble_eq_true rfl) (by decide +kernel)) ?_
  replace H := Option.some.inj H
  subst H
  exact jS.vret rfl (by decide +kernel)
def c_X3_readDenied_b (F : Nat) (G : Nat → jMe → Nat → Int32 → Option (jMe)) (m : jMe) (x0 : Nat) (x1 : Int32) : Option (jMe) :=
  jb (c_X3_readDenied_l2 F G F m x0 x1 (0 : Int32)) fun e7 => c_X3_readDenied_j28 F G e7.1 e7.2.1 e7.2.2.1 e7.2.2.2
theorem ec_X3_readDenied_b {X : jX} {l : Launch} {d : Nat} (O : jOk X) (hd : 11 ≤ d) {F : Nat} {dG : Nat} (hdG : dG < d) {G : Nat → jMe → Nat → Int32 → Option (jMe)} (hG : ∀ (q : Nat) (m : jMe) (x0 : Nat) (x1 : Int32) (r : jMe), q < 8 → G q m x0 x1 = some r → jH X l dG (jms_X3_readEither q) [.inr (.inr x0), .inl x1] m none r) {m : jMe} {x0 : Nat} {x1 : Int32} {r : jMe} (H : c_X3_readDenied_b F G m x0 x1 = some r) : jH X l d jm_X3_readDenied [.inr (.inr x0), .inl x1] m none r := by
  refine jH.of jpl_RX3 rfl (Nat.le_of_ble_eq_true rfl) ?_
  show jS X l d jm_X3_readDenied m _ _ (0, [(0, .inr (.inr x0)), (1, .inl x1)], [], m)
  unfold c_X3_readDenied_b at H
  refine jS.adv O [(.iconst 0, 0, 0, 0, 0, (0 : Int32), 0), (.istore_n 2, 0, 0, 0, 0, 0, 0)] (pc' := 2) (ls' := [(2, .inl (0 : Int32)), (0, .inr (.inr x0)), (1, .inl x1)]) (st' := []) (m2 := m) (by decide +kernel) rfl trivial ?_
  refine jS.loc' [1, 2, 0] (ls' := [(0, .inr (.inr x0)), (1, .inl x1), (2, .inl (0 : Int32))]) rfl ?_
  obtain ⟨e7, w8, H⟩ := jb_ok H
  refine ec_X3_readDenied_l2 O hd hdG hG F w8 ?_
  refine jS.loc' [0, 1, 2] (ls' := [(0, .inr (.inr e7.2.1)), (1, .inl e7.2.2.1), (2, .inl e7.2.2.2)]) rfl ?_
  exact ec_X3_readDenied_j28 O hd hdG hG H
def c_X3_readCompared_j39 (F : Nat) (G : Nat → jMe → Nat → Int32 → Option (jMe)) (m : jMe) (y0 : Nat) (y1 : Int32) (s0 : Int32) : Option (jMe) :=
  jgd (jK m y0 = 35) <| jb (c_X3_step F m y0) fun t10 => jgd (jK t10 y0 = 35) <| jb (G 4 t10 y0 y1) fun t13 => jgd (jK t13 y0 = 35) <| jb (c_X3_emit F t13 y0 s0 (0 : Int32)) fun t16 => some t16
theorem ec_X3_readCompared_j39 {X : jX} {l : Launch} {d : Nat} (O : jOk X) (hd : 11 ≤ d) {F : Nat} {dG : Nat} (hdG : dG < d) {G : Nat → jMe → Nat → Int32 → Option (jMe)} (hG : ∀ (q : Nat) (m : jMe) (x0 : Nat) (x1 : Int32) (r : jMe), q < 8 → G q m x0 x1 = some r → jH X l dG (jms_X3_readEither q) [.inr (.inr x0), .inl x1] m none r) {m0 m : jMe} {y0 : Nat} {y1 : Int32} {s0 : Int32} {r : jMe} (H : c_X3_readCompared_j39 F G m y0 y1 s0 = some r) : jS X l d jm_X3_readCompared m0 none r (39, [(0, .inr (.inr y0)), (1, .inl y1)], [.inl s0], m) := by
  unfold c_X3_readCompared_j39 at H
  obtain ⟨w8, H⟩ := jgd_ok H
  refine jS.adv O [(.istore_n 2, 0, 0, 0, 0, 0, 0), (.aload_n 0, 0, 0, 0, 0, 0, 0)] (pc' := 41) (ls' := [(2, .inl s0), (0, .inr (.inr y0)), (1, .inl y1)]) (st' := [.inr (.inr y0)]) (m2 := m) (by decide +kernel) rfl trivial ?_
  obtain ⟨t10, w9, H⟩ := jb_ok H
  refine jS.step (c' := (44, [(2, .inl s0), (0, .inr (.inr y0)), (1, .inl y1)], [], t10)) (jSt.callV (c := 3) (As := []) (rest := []) O (ec_X3_step (d := 9) O (Nat.le_refl _) w9) w8 (by decide) rfl (by omega) jmw_X3_step jmv_X3_step jmn_X3_step (idx := 41) (jW_of 877 (by decide +kernel) rfl) (Nat.le_of_ble_eq_true rfl) (by decide +kernel)) ?_
  obtain ⟨w11, H⟩ := jgd_ok H
  refine jS.adv O [(.aload_n 0, 0, 0, 0, 0, 0, 0), (.iload_n 1, 0, 0, 0, 0, 0, 0)] (pc' := 46) (ls' := [(2, .inl s0), (0, .inr (.inr y0)), (1, .inl y1)]) (st' := [.inl y1, .inr (.inr y0)]) (m2 := t10) (by decide +kernel) rfl trivial ?_
  obtain ⟨t13, w12, H⟩ := jb_ok H
  refine jS.step (c' := (49, [(2, .inl s0), (0, .inr (.inr y0)), (1, .inl y1)], [], t13)) (jSt.callV (c := 3) (As := [.inl y1]) (rest := []) O (hG 4 _ _ _ _ (by decide) w12) w11 (by decide) rfl hdG jmw_X3_readSum jmv_X3_readSum jmn_X3_readSum (idx := 72) (jW_of 1043 (by decide +kernel) rfl) (Nat.le_of_ble_eq_true rfl) (by decide +kernel)) ?_
  obtain ⟨w14, H⟩ := jgd_ok H
  refine jS.adv O [(.aload_n 0, 0, 0, 0, 0, 0, 0), (.iload_n 2, 0, 0, 0, 0, 0, 0), (.iconst 0, 0, 0, 0, 0, (0 : Int32), 0)] (pc' := 52) (ls' := [(2, .inl s0), (0, .inr (.inr y0)), (1, .inl y1)]) (st' := [.inl (0 : Int32), .inl s0, .inr (.inr y0)]) (m2 := t13) (by decide +kernel) rfl trivial ?_
  obtain ⟨t16, w15, H⟩ := jb_ok H
  refine jS.step (c' := (55, [(2, .inl s0), (0, .inr (.inr y0)), (1, .inl y1)], [], t16)) (jSt.callV (c := 3) (As := [.inl s0, .inl (0 : Int32)]) (rest := []) O (ec_X3_emit (d := 2) O (Nat.le_refl _) w15) w14 (by decide) rfl (by omega) jmw_X3_emit jmv_X3_emit jmn_X3_emit (idx := 56) (jW_of 1059 (by decide +kernel) rfl) (Nat.le_of_ble_eq_true rfl) (by decide +kernel)) ?_
  replace H := Option.some.inj H
  subst H
  exact jS.vret rfl (by decide +kernel)
def c_X3_readCompared_j23 (F : Nat) (G : Nat → jMe → Nat → Int32 → Option (jMe)) (m : jMe) (y0 : Nat) (y1 : Int32) : Option (jMe) :=
  jgd (jK m y0 = 35) <| (if (jI m y0 6) = (60 : Int32) then c_X3_readCompared_j39 F G m y0 y1 (8 : Int32) else c_X3_readCompared_j39 F G m y0 y1 (9 : Int32))
theorem ec_X3_readCompared_j23 {X : jX} {l : Launch} {d : Nat} (O : jOk X) (hd : 11 ≤ d) {F : Nat} {dG : Nat} (hdG : dG < d) {G : Nat → jMe → Nat → Int32 → Option (jMe)} (hG : ∀ (q : Nat) (m : jMe) (x0 : Nat) (x1 : Int32) (r : jMe), q < 8 → G q m x0 x1 = some r → jH X l dG (jms_X3_readEither q) [.inr (.inr x0), .inl x1] m none r) {m0 m : jMe} {y0 : Nat} {y1 : Int32} {r : jMe} (H : c_X3_readCompared_j23 F G m y0 y1 = some r) : jS X l d jm_X3_readCompared m0 none r (23, [(0, .inr (.inr y0)), (1, .inl y1)], [], m) := by
  unfold c_X3_readCompared_j23 at H
  obtain ⟨w6, H⟩ := jgd_ok H
  refine jS.adv O [(.aload_n 0, 0, 0, 0, 0, 0, 0), (.getfield 32, 0, 3, 6, 290, 0, 0), (.bipush 60, 0, 0, 0, 0, (60 : Int32), 0)] (pc' := 29) (ls' := [(0, .inr (.inr y0)), (1, .inl y1)]) (st' := [.inl (60 : Int32), .inl (jI m y0 6)]) (m2 := m) (by decide +kernel) rfl ⟨w6, trivial⟩ ?_
  refine jS.br (i := .if_icmp .ne 8) (P := ¬ (jI m y0 6) = (60 : Int32)) (rest := []) rfl (by decide +kernel) (tgt := 37) (by decide) (fun c7 => ?_) (fun c7 => ?_)
  · replace H := jif_f c7 H
    refine jS.adv O [(.bipush 9, 0, 0, 0, 0, (9 : Int32), 0)] (pc' := 39) (ls' := [(0, .inr (.inr y0)), (1, .inl y1)]) (st' := [.inl (9 : Int32)]) (m2 := m) (by decide +kernel) rfl trivial ?_
    refine jS.loc' [0, 1] (ls' := [(0, .inr (.inr y0)), (1, .inl y1)]) rfl ?_
    exact ec_X3_readCompared_j39 O hd hdG hG H
  · replace H := jif_t (Classical.not_not.mp c7) H
    refine jS.adv O [(.bipush 8, 0, 0, 0, 0, (8 : Int32), 0), (.goto 5, 0, 39, 0, 0, 0, 0)] (pc' := 39) (ls' := [(0, .inr (.inr y0)), (1, .inl y1)]) (st' := [.inl (8 : Int32)]) (m2 := m) (by decide +kernel) rfl trivial ?_
    refine jS.loc' [0, 1] (ls' := [(0, .inr (.inr y0)), (1, .inl y1)]) rfl ?_
    exact ec_X3_readCompared_j39 O hd hdG hG H
def c_X3_readCompared_b (F : Nat) (G : Nat → jMe → Nat → Int32 → Option (jMe)) (m : jMe) (x0 : Nat) (x1 : Int32) : Option (jMe) :=
  jgd (jK m x0 = 35) <| jb (G 4 m x0 x1) fun t3 => jgd (jK t3 x0 = 35) <| (if (jI t3 x0 6) = (60 : Int32) then c_X3_readCompared_j23 F G t3 x0 x1 else (if (jI t3 x0 6) = (61 : Int32) then c_X3_readCompared_j23 F G t3 x0 x1 else some t3))
theorem ec_X3_readCompared_b {X : jX} {l : Launch} {d : Nat} (O : jOk X) (hd : 11 ≤ d) {F : Nat} {dG : Nat} (hdG : dG < d) {G : Nat → jMe → Nat → Int32 → Option (jMe)} (hG : ∀ (q : Nat) (m : jMe) (x0 : Nat) (x1 : Int32) (r : jMe), q < 8 → G q m x0 x1 = some r → jH X l dG (jms_X3_readEither q) [.inr (.inr x0), .inl x1] m none r) {m : jMe} {x0 : Nat} {x1 : Int32} {r : jMe} (H : c_X3_readCompared_b F G m x0 x1 = some r) : jH X l d jm_X3_readCompared [.inr (.inr x0), .inl x1] m none r := by
  refine jH.of jpl_RX3 rfl (Nat.le_of_ble_eq_true rfl) ?_
  show jS X l d jm_X3_readCompared m _ _ (0, [(0, .inr (.inr x0)), (1, .inl x1)], [], m)
  unfold c_X3_readCompared_b at H
  obtain ⟨w1, H⟩ := jgd_ok H
  refine jS.adv O [(.aload_n 0, 0, 0, 0, 0, 0, 0), (.iload_n 1, 0, 0, 0, 0, 0, 0)] (pc' := 2) (ls' := [(0, .inr (.inr x0)), (1, .inl x1)]) (st' := [.inl x1, .inr (.inr x0)]) (m2 := m) (by decide +kernel) rfl trivial ?_
  obtain ⟨t3, w2, H⟩ := jb_ok H
  refine jS.step (c' := (5, [(0, .inr (.inr x0)), (1, .inl x1)], [], t3)) (jSt.callV (c := 3) (As := [.inl x1]) (rest := []) O (hG 4 _ _ _ _ (by decide) w2) w1 (by decide) rfl hdG jmw_X3_readSum jmv_X3_readSum jmn_X3_readSum (idx := 72) (jW_of 1043 (by decide +kernel) rfl) (Nat.le_of_ble_eq_true rfl) (by decide +kernel)) ?_
  obtain ⟨w4, H⟩ := jgd_ok H
  refine jS.adv O [(.aload_n 0, 0, 0, 0, 0, 0, 0), (.getfield 32, 0, 3, 6, 290, 0, 0), (.bipush 60, 0, 0, 0, 0, (60 : Int32), 0)] (pc' := 11) (ls' := [(0, .inr (.inr x0)), (1, .inl x1)]) (st' := [.inl (60 : Int32), .inl (jI t3 x0 6)]) (m2 := t3) (by decide +kernel) rfl ⟨w4, trivial⟩ ?_
  refine jS.br (i := .if_icmp .eq 12) (P := (jI t3 x0 6) = (60 : Int32)) (rest := []) rfl (by decide +kernel) (tgt := 23) (by decide) (fun c5 => ?_) (fun c5 => ?_)
  · replace H := jif_t c5 H
    refine jS.loc' [0, 1] (ls' := [(0, .inr (.inr x0)), (1, .inl x1)]) rfl ?_
    exact ec_X3_readCompared_j23 O hd hdG hG H
  · replace H := jif_f c5 H
    refine jS.adv O [(.aload_n 0, 0, 0, 0, 0, 0, 0), (.getfield 32, 0, 3, 6, 290, 0, 0), (.bipush 61, 0, 0, 0, 0, (61 : Int32), 0)] (pc' := 20) (ls' := [(0, .inr (.inr x0)), (1, .inl x1)]) (st' := [.inl (61 : Int32), .inl (jI t3 x0 6)]) (m2 := t3) (by decide +kernel) rfl ⟨w4, trivial⟩ ?_
    refine jS.br (i := .if_icmp .ne 35) (P := ¬ (jI t3 x0 6) = (61 : Int32)) (rest := []) rfl (by decide +kernel) (tgt := 55) (by decide) (fun c17 => ?_) (fun c17 => ?_)
    · replace H := jif_f c17 H
      replace H := Option.some.inj H
      subst H
      exact jS.vret rfl (by decide +kernel)
    · replace H := jif_t (Classical.not_not.mp c17) H
      refine jS.loc' [0, 1] (ls' := [(0, .inr (.inr x0)), (1, .inl x1)]) rfl ?_
      exact ec_X3_readCompared_j23 O hd hdG hG H
def c_X3_readSum_j46_l7 (F : Nat) (G : Nat → jMe → Nat → Int32 → Option (jMe)) (B : jMe → Nat → Int32 → Int32 → Option (jMe)) (m : jMe) (y0 : Nat) (y1 : Int32) (y2 : Int32) (s0 : Int32) : Option (jMe) :=
  jgd (jK m y0 = 35) <| jb (c_X3_step F m y0) fun t11 => jgd (jK t11 y0 = 35) <| jb (G 5 t11 y0 y1) fun t14 => jgd (jK t14 y0 = 35) <| jb (c_X3_emit F t14 y0 s0 (0 : Int32)) fun t17 => B t17 y0 y1 (y2 + (1 : Int32))
theorem ec_X3_readSum_j46_l7 {X : jX} {l : Launch} {d : Nat} (O : jOk X) (hd : 11 ≤ d) {F : Nat} {dG : Nat} (hdG : dG < d) {G : Nat → jMe → Nat → Int32 → Option (jMe)} (hG : ∀ (q : Nat) (m : jMe) (x0 : Nat) (x1 : Int32) (r : jMe), q < 8 → G q m x0 x1 = some r → jH X l dG (jms_X3_readEither q) [.inr (.inr x0), .inl x1] m none r) {m0 m' : jMe} {v : Option jAV} {B : jMe → Nat → Int32 → Int32 → Option (jMe)} (hB : ∀ (m : jMe) (y0 : Nat) (y1 : Int32) (y2 : Int32) (r : jMe), B m y0 y1 y2 = some r → (jS X l d jm_X3_readSum m0 v m' (68, [], [], r)) → jS X l d jm_X3_readSum m0 v m' (7, [(0, .inr (.inr y0)), (1, .inl y1), (2, .inl y2)], [], m)) {m : jMe} {y0 : Nat} {y1 : Int32} {y2 : Int32} {s0 : Int32} {r : jMe} (H : c_X3_readSum_j46_l7 F G B m y0 y1 y2 s0 = some r) (h2 : jS X l d jm_X3_readSum m0 v m' (68, [], [], r)) : jS X l d jm_X3_readSum m0 v m' (46, [(0, .inr (.inr y0)), (1, .inl y1), (2, .inl y2)], [.inl s0], m) := by
  unfold c_X3_readSum_j46_l7 at H
  obtain ⟨w9, H⟩ := jgd_ok H
  refine jS.adv O [(.istore_n 3, 0, 0, 0, 0, 0, 0), (.aload_n 0, 0, 0, 0, 0, 0, 0)] (pc' := 48) (ls' := [(3, .inl s0), (0, .inr (.inr y0)), (1, .inl y1), (2, .inl y2)]) (st' := [.inr (.inr y0)]) (m2 := m) (by decide +kernel) rfl trivial ?_
  obtain ⟨t11, w10, H⟩ := jb_ok H
  refine jS.step (c' := (51, [(3, .inl s0), (0, .inr (.inr y0)), (1, .inl y1), (2, .inl y2)], [], t11)) (jSt.callV (c := 3) (As := []) (rest := []) O (ec_X3_step (d := 9) O (Nat.le_refl _) w10) w9 (by decide) rfl (by omega) jmw_X3_step jmv_X3_step jmn_X3_step (idx := 41) (jW_of 877 (by decide +kernel) rfl) (Nat.le_of_ble_eq_true rfl) (by decide +kernel)) ?_
  obtain ⟨w12, H⟩ := jgd_ok H
  refine jS.adv O [(.aload_n 0, 0, 0, 0, 0, 0, 0), (.iload_n 1, 0, 0, 0, 0, 0, 0)] (pc' := 53) (ls' := [(3, .inl s0), (0, .inr (.inr y0)), (1, .inl y1), (2, .inl y2)]) (st' := [.inl y1, .inr (.inr y0)]) (m2 := t11) (by decide +kernel) rfl trivial ?_
  obtain ⟨t14, w13, H⟩ := jb_ok H
  refine jS.step (c' := (56, [(3, .inl s0), (0, .inr (.inr y0)), (1, .inl y1), (2, .inl y2)], [], t14)) (jSt.callV (c := 3) (As := [.inl y1]) (rest := []) O (hG 5 _ _ _ _ (by decide) w13) w12 (by decide) rfl hdG jmw_X3_readTerm jmv_X3_readTerm jmn_X3_readTerm (idx := 75) (jW_of 1047 (by decide +kernel) rfl) (Nat.le_of_ble_eq_true rfl) (by decide +kernel)) ?_
  obtain ⟨w15, H⟩ := jgd_ok H
  refine jS.adv O [(.aload_n 0, 0, 0, 0, 0, 0, 0), (.iload_n 3, 0, 0, 0, 0, 0, 0), (.iconst 0, 0, 0, 0, 0, (0 : Int32), 0)] (pc' := 59) (ls' := [(3, .inl s0), (0, .inr (.inr y0)), (1, .inl y1), (2, .inl y2)]) (st' := [.inl (0 : Int32), .inl s0, .inr (.inr y0)]) (m2 := t14) (by decide +kernel) rfl trivial ?_
  obtain ⟨t17, w16, H⟩ := jb_ok H
  refine jS.step (c' := (62, [(3, .inl s0), (0, .inr (.inr y0)), (1, .inl y1), (2, .inl y2)], [], t17)) (jSt.callV (c := 3) (As := [.inl s0, .inl (0 : Int32)]) (rest := []) O (ec_X3_emit (d := 2) O (Nat.le_refl _) w16) w15 (by decide) rfl (by omega) jmw_X3_emit jmv_X3_emit jmn_X3_emit (idx := 56) (jW_of 1059 (by decide +kernel) rfl) (Nat.le_of_ble_eq_true rfl) (by decide +kernel)) ?_
  refine jS.adv O [(.iinc 2 1, 0, 0, 0, 0, (1 : Int32), 0), (.goto (-58), 0, 7, 0, 0, 0, 0)] (pc' := 7) (ls' := [(2, .inl (y2 + (1 : Int32))), (3, .inl s0), (0, .inr (.inr y0)), (1, .inl y1)]) (st' := []) (m2 := t17) (by decide +kernel) rfl trivial ?_
  refine jS.loc' [2, 3, 0] (ls' := [(0, .inr (.inr y0)), (1, .inl y1), (2, .inl (y2 + (1 : Int32)))]) rfl ?_
  exact hB _ _ _ _ _ H h2
def c_X3_readSum_j32_l7 (F : Nat) (G : Nat → jMe → Nat → Int32 → Option (jMe)) (B : jMe → Nat → Int32 → Int32 → Option (jMe)) (m : jMe) (y0 : Nat) (y1 : Int32) (y2 : Int32) : Option (jMe) :=
  jgd (jK m y0 = 35) <| (if (jI m y0 6) = (43 : Int32) then c_X3_readSum_j46_l7 F G B m y0 y1 y2 (4 : Int32) else c_X3_readSum_j46_l7 F G B m y0 y1 y2 (5 : Int32))
theorem ec_X3_readSum_j32_l7 {X : jX} {l : Launch} {d : Nat} (O : jOk X) (hd : 11 ≤ d) {F : Nat} {dG : Nat} (hdG : dG < d) {G : Nat → jMe → Nat → Int32 → Option (jMe)} (hG : ∀ (q : Nat) (m : jMe) (x0 : Nat) (x1 : Int32) (r : jMe), q < 8 → G q m x0 x1 = some r → jH X l dG (jms_X3_readEither q) [.inr (.inr x0), .inl x1] m none r) {m0 m' : jMe} {v : Option jAV} {B : jMe → Nat → Int32 → Int32 → Option (jMe)} (hB : ∀ (m : jMe) (y0 : Nat) (y1 : Int32) (y2 : Int32) (r : jMe), B m y0 y1 y2 = some r → (jS X l d jm_X3_readSum m0 v m' (68, [], [], r)) → jS X l d jm_X3_readSum m0 v m' (7, [(0, .inr (.inr y0)), (1, .inl y1), (2, .inl y2)], [], m)) {m : jMe} {y0 : Nat} {y1 : Int32} {y2 : Int32} {r : jMe} (H : c_X3_readSum_j32_l7 F G B m y0 y1 y2 = some r) (h2 : jS X l d jm_X3_readSum m0 v m' (68, [], [], r)) : jS X l d jm_X3_readSum m0 v m' (32, [(0, .inr (.inr y0)), (1, .inl y1), (2, .inl y2)], [], m) := by
  unfold c_X3_readSum_j32_l7 at H
  obtain ⟨w7, H⟩ := jgd_ok H
  refine jS.adv O [(.aload_n 0, 0, 0, 0, 0, 0, 0), (.getfield 32, 0, 3, 6, 290, 0, 0), (.bipush 43, 0, 0, 0, 0, (43 : Int32), 0)] (pc' := 38) (ls' := [(0, .inr (.inr y0)), (1, .inl y1), (2, .inl y2)]) (st' := [.inl (43 : Int32), .inl (jI m y0 6)]) (m2 := m) (by decide +kernel) rfl ⟨w7, trivial⟩ ?_
  refine jS.br (i := .if_icmp .ne 7) (P := ¬ (jI m y0 6) = (43 : Int32)) (rest := []) rfl (by decide +kernel) (tgt := 45) (by decide) (fun c8 => ?_) (fun c8 => ?_)
  · replace H := jif_f c8 H
    refine jS.adv O [(.iconst 5, 0, 0, 0, 0, (5 : Int32), 0)] (pc' := 46) (ls' := [(0, .inr (.inr y0)), (1, .inl y1), (2, .inl y2)]) (st' := [.inl (5 : Int32)]) (m2 := m) (by decide +kernel) rfl trivial ?_
    refine jS.loc' [0, 1, 2] (ls' := [(0, .inr (.inr y0)), (1, .inl y1), (2, .inl y2)]) rfl ?_
    exact ec_X3_readSum_j46_l7 O hd hdG hG hB H h2
  · replace H := jif_t (Classical.not_not.mp c8) H
    refine jS.adv O [(.iconst 4, 0, 0, 0, 0, (4 : Int32), 0), (.goto 4, 0, 46, 0, 0, 0, 0)] (pc' := 46) (ls' := [(0, .inr (.inr y0)), (1, .inl y1), (2, .inl y2)]) (st' := [.inl (4 : Int32)]) (m2 := m) (by decide +kernel) rfl trivial ?_
    refine jS.loc' [0, 1, 2] (ls' := [(0, .inr (.inr y0)), (1, .inl y1), (2, .inl y2)]) rfl ?_
    exact ec_X3_readSum_j46_l7 O hd hdG hG hB H h2
def c_X3_readSum_l7_b (F : Nat) (G : Nat → jMe → Nat → Int32 → Option (jMe)) (B : jMe → Nat → Int32 → Int32 → Option (jMe)) (m : jMe) (y0 : Nat) (y1 : Int32) (y2 : Int32) : Option (jMe) :=
  (if (160 : Int32) ≤ y2 then some (m) else jgd (jK m y0 = 35) <| (if (jI m y0 6) = (43 : Int32) then c_X3_readSum_j32_l7 F G B m y0 y1 y2 else (if (jI m y0 6) = (45 : Int32) then c_X3_readSum_j32_l7 F G B m y0 y1 y2 else some (m))))
theorem ec_X3_readSum_l7_b {X : jX} {l : Launch} {d : Nat} (O : jOk X) (hd : 11 ≤ d) {F : Nat} {dG : Nat} (hdG : dG < d) {G : Nat → jMe → Nat → Int32 → Option (jMe)} (hG : ∀ (q : Nat) (m : jMe) (x0 : Nat) (x1 : Int32) (r : jMe), q < 8 → G q m x0 x1 = some r → jH X l dG (jms_X3_readEither q) [.inr (.inr x0), .inl x1] m none r) {m0 m' : jMe} {v : Option jAV} {B : jMe → Nat → Int32 → Int32 → Option (jMe)} (hB : ∀ (m : jMe) (y0 : Nat) (y1 : Int32) (y2 : Int32) (r : jMe), B m y0 y1 y2 = some r → (jS X l d jm_X3_readSum m0 v m' (68, [], [], r)) → jS X l d jm_X3_readSum m0 v m' (7, [(0, .inr (.inr y0)), (1, .inl y1), (2, .inl y2)], [], m)) {m : jMe} {y0 : Nat} {y1 : Int32} {y2 : Int32} {r : jMe} (H : c_X3_readSum_l7_b F G B m y0 y1 y2 = some r) (h2 : jS X l d jm_X3_readSum m0 v m' (68, [], [], r)) : jS X l d jm_X3_readSum m0 v m' (7, [(0, .inr (.inr y0)), (1, .inl y1), (2, .inl y2)], [], m) := by
  unfold c_X3_readSum_l7_b at H
  refine jS.adv O [(.iload_n 2, 0, 0, 0, 0, 0, 0), (.sipush 160, 0, 0, 0, 0, (160 : Int32), 0)] (pc' := 11) (ls' := [(0, .inr (.inr y0)), (1, .inl y1), (2, .inl y2)]) (st' := [.inl (160 : Int32), .inl y2]) (m2 := m) (by decide +kernel) rfl trivial ?_
  refine jS.br (i := .if_icmp .ge 57) (P := (160 : Int32) ≤ y2) (rest := []) rfl (by decide +kernel) (tgt := 68) (by decide) (fun c4 => ?_) (fun c4 => ?_)
  · replace H := jif_t c4 H
    replace H := Option.some.inj H
    subst H
    refine jS.loc' [] (ls' := []) rfl ?_
    exact h2
  · replace H := jif_f c4 H
    obtain ⟨w5, H⟩ := jgd_ok H
    refine jS.adv O [(.aload_n 0, 0, 0, 0, 0, 0, 0), (.getfield 32, 0, 3, 6, 290, 0, 0), (.bipush 43, 0, 0, 0, 0, (43 : Int32), 0)] (pc' := 20) (ls' := [(0, .inr (.inr y0)), (1, .inl y1), (2, .inl y2)]) (st' := [.inl (43 : Int32), .inl (jI m y0 6)]) (m2 := m) (by decide +kernel) rfl ⟨w5, trivial⟩ ?_
    refine jS.br (i := .if_icmp .eq 12) (P := (jI m y0 6) = (43 : Int32)) (rest := []) rfl (by decide +kernel) (tgt := 32) (by decide) (fun c6 => ?_) (fun c6 => ?_)
    · replace H := jif_t c6 H
      refine jS.loc' [0, 1, 2] (ls' := [(0, .inr (.inr y0)), (1, .inl y1), (2, .inl y2)]) rfl ?_
      exact ec_X3_readSum_j32_l7 O hd hdG hG hB H h2
    · replace H := jif_f c6 H
      refine jS.adv O [(.aload_n 0, 0, 0, 0, 0, 0, 0), (.getfield 32, 0, 3, 6, 290, 0, 0), (.bipush 45, 0, 0, 0, 0, (45 : Int32), 0)] (pc' := 29) (ls' := [(0, .inr (.inr y0)), (1, .inl y1), (2, .inl y2)]) (st' := [.inl (45 : Int32), .inl (jI m y0 6)]) (m2 := m) (by decide +kernel) rfl ⟨w5, trivial⟩ ?_
      refine jS.br (i := .if_icmp .ne 39) (P := ¬ (jI m y0 6) = (45 : Int32)) (rest := []) rfl (by decide +kernel) (tgt := 68) (by decide) (fun c18 => ?_) (fun c18 => ?_)
      · replace H := jif_f c18 H
        replace H := Option.some.inj H
        subst H
        refine jS.loc' [] (ls' := []) rfl ?_
        exact h2
      · replace H := jif_t (Classical.not_not.mp c18) H
        refine jS.loc' [0, 1, 2] (ls' := [(0, .inr (.inr y0)), (1, .inl y1), (2, .inl y2)]) rfl ?_
        exact ec_X3_readSum_j32_l7 O hd hdG hG hB H h2
def c_X3_readSum_l7 (F : Nat) (G : Nat → jMe → Nat → Int32 → Option (jMe)) : Nat → jMe → Nat → Int32 → Int32 → Option (jMe)
  | 0, _, _, _, _ => none
  | n + 1, m, y0, y1, y2 => c_X3_readSum_l7_b F G (fun m y0 y1 y2 => c_X3_readSum_l7 F G n m y0 y1 y2) m y0 y1 y2
theorem ec_X3_readSum_l7 {X : jX} {l : Launch} {d : Nat} (O : jOk X) (hd : 11 ≤ d) {F : Nat} {dG : Nat} (hdG : dG < d) {G : Nat → jMe → Nat → Int32 → Option (jMe)} (hG : ∀ (q : Nat) (m : jMe) (x0 : Nat) (x1 : Int32) (r : jMe), q < 8 → G q m x0 x1 = some r → jH X l dG (jms_X3_readEither q) [.inr (.inr x0), .inl x1] m none r) {m0 m' : jMe} {v : Option jAV} : ∀ (n : Nat) {m : jMe} {y0 : Nat} {y1 : Int32} {y2 : Int32} {r : jMe} (H : c_X3_readSum_l7 F G n m y0 y1 y2 = some r) (h2 : jS X l d jm_X3_readSum m0 v m' (68, [], [], r)), jS X l d jm_X3_readSum m0 v m' (7, [(0, .inr (.inr y0)), (1, .inl y1), (2, .inl y2)], [], m) := by
  intro n
  induction n with
  | zero =>
    intro m y0 y1 y2 r H h2
    cases (show none = some r from H)
  | succ n ih =>
    intro m y0 y1 y2 r H h2
    exact ec_X3_readSum_l7_b O hd hdG hG (B := (fun m y0 y1 y2 => c_X3_readSum_l7 F G n m y0 y1 y2)) (fun m y0 y1 y2 r H h2 => ih H h2) H h2
def c_X3_readSum_b (F : Nat) (G : Nat → jMe → Nat → Int32 → Option (jMe)) (m : jMe) (x0 : Nat) (x1 : Int32) : Option (jMe) :=
  jgd (jK m x0 = 35) <| jb (G 5 m x0 x1) fun t3 => jb (c_X3_readSum_l7 F G F t3 x0 x1 (0 : Int32)) fun e20 => some e20
theorem ec_X3_readSum_b {X : jX} {l : Launch} {d : Nat} (O : jOk X) (hd : 11 ≤ d) {F : Nat} {dG : Nat} (hdG : dG < d) {G : Nat → jMe → Nat → Int32 → Option (jMe)} (hG : ∀ (q : Nat) (m : jMe) (x0 : Nat) (x1 : Int32) (r : jMe), q < 8 → G q m x0 x1 = some r → jH X l dG (jms_X3_readEither q) [.inr (.inr x0), .inl x1] m none r) {m : jMe} {x0 : Nat} {x1 : Int32} {r : jMe} (H : c_X3_readSum_b F G m x0 x1 = some r) : jH X l d jm_X3_readSum [.inr (.inr x0), .inl x1] m none r := by
  refine jH.of jpl_RX3 rfl (Nat.le_of_ble_eq_true rfl) ?_
  show jS X l d jm_X3_readSum m _ _ (0, [(0, .inr (.inr x0)), (1, .inl x1)], [], m)
  unfold c_X3_readSum_b at H
  obtain ⟨w1, H⟩ := jgd_ok H
  refine jS.adv O [(.aload_n 0, 0, 0, 0, 0, 0, 0), (.iload_n 1, 0, 0, 0, 0, 0, 0)] (pc' := 2) (ls' := [(0, .inr (.inr x0)), (1, .inl x1)]) (st' := [.inl x1, .inr (.inr x0)]) (m2 := m) (by decide +kernel) rfl trivial ?_
  obtain ⟨t3, w2, H⟩ := jb_ok H
  refine jS.step (c' := (5, [(0, .inr (.inr x0)), (1, .inl x1)], [], t3)) (jSt.callV (c := 3) (As := [.inl x1]) (rest := []) O (hG 5 _ _ _ _ (by decide) w2) w1 (by decide) rfl hdG jmw_X3_readTerm jmv_X3_readTerm jmn_X3_readTerm (idx := 75) (jW_of 1047 (by decide +kernel) rfl) (Nat.le_of_ble_eq_true rfl) (by decide +kernel)) ?_
  refine jS.adv O [(.iconst 0, 0, 0, 0, 0, (0 : Int32), 0), (.istore_n 2, 0, 0, 0, 0, 0, 0)] (pc' := 7) (ls' := [(2, .inl (0 : Int32)), (0, .inr (.inr x0)), (1, .inl x1)]) (st' := []) (m2 := t3) (by decide +kernel) rfl trivial ?_
  refine jS.loc' [1, 2, 0] (ls' := [(0, .inr (.inr x0)), (1, .inl x1), (2, .inl (0 : Int32))]) rfl ?_
  obtain ⟨e20, w21, H⟩ := jb_ok H
  refine ec_X3_readSum_l7 O hd hdG hG F w21 ?_
  replace H := Option.some.inj H
  subst H
  exact jS.vret rfl (by decide +kernel)
def c_X3_readTerm_j48_l7 (F : Nat) (G : Nat → jMe → Nat → Int32 → Option (jMe)) (B : jMe → Nat → Int32 → Int32 → Option (jMe)) (m : jMe) (y0 : Nat) (y1 : Int32) (y2 : Int32) (s0 : Int32) : Option (jMe) :=
  jgd (jK m y0 = 35) <| jb (c_X3_step F m y0) fun t11 => jgd (jK t11 y0 = 35) <| jb (G 6 t11 y0 y1) fun t14 => jgd (jK t14 y0 = 35) <| jb (c_X3_emit F t14 y0 s0 (0 : Int32)) fun t17 => B t17 y0 y1 (y2 + (1 : Int32))
theorem ec_X3_readTerm_j48_l7 {X : jX} {l : Launch} {d : Nat} (O : jOk X) (hd : 11 ≤ d) {F : Nat} {dG : Nat} (hdG : dG < d) {G : Nat → jMe → Nat → Int32 → Option (jMe)} (hG : ∀ (q : Nat) (m : jMe) (x0 : Nat) (x1 : Int32) (r : jMe), q < 8 → G q m x0 x1 = some r → jH X l dG (jms_X3_readEither q) [.inr (.inr x0), .inl x1] m none r) {m0 m' : jMe} {v : Option jAV} {B : jMe → Nat → Int32 → Int32 → Option (jMe)} (hB : ∀ (m : jMe) (y0 : Nat) (y1 : Int32) (y2 : Int32) (r : jMe), B m y0 y1 y2 = some r → (jS X l d jm_X3_readTerm m0 v m' (70, [], [], r)) → jS X l d jm_X3_readTerm m0 v m' (7, [(0, .inr (.inr y0)), (1, .inl y1), (2, .inl y2)], [], m)) {m : jMe} {y0 : Nat} {y1 : Int32} {y2 : Int32} {s0 : Int32} {r : jMe} (H : c_X3_readTerm_j48_l7 F G B m y0 y1 y2 s0 = some r) (h2 : jS X l d jm_X3_readTerm m0 v m' (70, [], [], r)) : jS X l d jm_X3_readTerm m0 v m' (48, [(0, .inr (.inr y0)), (1, .inl y1), (2, .inl y2)], [.inl s0], m) := by
  unfold c_X3_readTerm_j48_l7 at H
  obtain ⟨w9, H⟩ := jgd_ok H
  refine jS.adv O [(.istore_n 3, 0, 0, 0, 0, 0, 0), (.aload_n 0, 0, 0, 0, 0, 0, 0)] (pc' := 50) (ls' := [(3, .inl s0), (0, .inr (.inr y0)), (1, .inl y1), (2, .inl y2)]) (st' := [.inr (.inr y0)]) (m2 := m) (by decide +kernel) rfl trivial ?_
  obtain ⟨t11, w10, H⟩ := jb_ok H
  refine jS.step (c' := (53, [(3, .inl s0), (0, .inr (.inr y0)), (1, .inl y1), (2, .inl y2)], [], t11)) (jSt.callV (c := 3) (As := []) (rest := []) O (ec_X3_step (d := 9) O (Nat.le_refl _) w10) w9 (by decide) rfl (by omega) jmw_X3_step jmv_X3_step jmn_X3_step (idx := 41) (jW_of 877 (by decide +kernel) rfl) (Nat.le_of_ble_eq_true rfl) (by decide +kernel)) ?_
  obtain ⟨w12, H⟩ := jgd_ok H
  refine jS.adv O [(.aload_n 0, 0, 0, 0, 0, 0, 0), (.iload_n 1, 0, 0, 0, 0, 0, 0)] (pc' := 55) (ls' := [(3, .inl s0), (0, .inr (.inr y0)), (1, .inl y1), (2, .inl y2)]) (st' := [.inl y1, .inr (.inr y0)]) (m2 := t11) (by decide +kernel) rfl trivial ?_
  obtain ⟨t14, w13, H⟩ := jb_ok H
  refine jS.step (c' := (58, [(3, .inl s0), (0, .inr (.inr y0)), (1, .inl y1), (2, .inl y2)], [], t14)) (jSt.callV (c := 3) (As := [.inl y1]) (rest := []) O (hG 6 _ _ _ _ (by decide) w13) w12 (by decide) rfl hdG jmw_X3_readOne jmv_X3_readOne jmn_X3_readOne (idx := 78) (jW_of 1051 (by decide +kernel) rfl) (Nat.le_of_ble_eq_true rfl) (by decide +kernel)) ?_
  obtain ⟨w15, H⟩ := jgd_ok H
  refine jS.adv O [(.aload_n 0, 0, 0, 0, 0, 0, 0), (.iload_n 3, 0, 0, 0, 0, 0, 0), (.iconst 0, 0, 0, 0, 0, (0 : Int32), 0)] (pc' := 61) (ls' := [(3, .inl s0), (0, .inr (.inr y0)), (1, .inl y1), (2, .inl y2)]) (st' := [.inl (0 : Int32), .inl s0, .inr (.inr y0)]) (m2 := t14) (by decide +kernel) rfl trivial ?_
  obtain ⟨t17, w16, H⟩ := jb_ok H
  refine jS.step (c' := (64, [(3, .inl s0), (0, .inr (.inr y0)), (1, .inl y1), (2, .inl y2)], [], t17)) (jSt.callV (c := 3) (As := [.inl s0, .inl (0 : Int32)]) (rest := []) O (ec_X3_emit (d := 2) O (Nat.le_refl _) w16) w15 (by decide) rfl (by omega) jmw_X3_emit jmv_X3_emit jmn_X3_emit (idx := 56) (jW_of 1059 (by decide +kernel) rfl) (Nat.le_of_ble_eq_true rfl) (by decide +kernel)) ?_
  refine jS.adv O [(.iinc 2 1, 0, 0, 0, 0, (1 : Int32), 0), (.goto (-60), 0, 7, 0, 0, 0, 0)] (pc' := 7) (ls' := [(2, .inl (y2 + (1 : Int32))), (3, .inl s0), (0, .inr (.inr y0)), (1, .inl y1)]) (st' := []) (m2 := t17) (by decide +kernel) rfl trivial ?_
  refine jS.loc' [2, 3, 0] (ls' := [(0, .inr (.inr y0)), (1, .inl y1), (2, .inl (y2 + (1 : Int32)))]) rfl ?_
  exact hB _ _ _ _ _ H h2
def c_X3_readTerm_j32_l7 (F : Nat) (G : Nat → jMe → Nat → Int32 → Option (jMe)) (B : jMe → Nat → Int32 → Int32 → Option (jMe)) (m : jMe) (y0 : Nat) (y1 : Int32) (y2 : Int32) : Option (jMe) :=
  jgd (jK m y0 = 35) <| (if (jI m y0 6) = (42 : Int32) then c_X3_readTerm_j48_l7 F G B m y0 y1 y2 (6 : Int32) else c_X3_readTerm_j48_l7 F G B m y0 y1 y2 (7 : Int32))
theorem ec_X3_readTerm_j32_l7 {X : jX} {l : Launch} {d : Nat} (O : jOk X) (hd : 11 ≤ d) {F : Nat} {dG : Nat} (hdG : dG < d) {G : Nat → jMe → Nat → Int32 → Option (jMe)} (hG : ∀ (q : Nat) (m : jMe) (x0 : Nat) (x1 : Int32) (r : jMe), q < 8 → G q m x0 x1 = some r → jH X l dG (jms_X3_readEither q) [.inr (.inr x0), .inl x1] m none r) {m0 m' : jMe} {v : Option jAV} {B : jMe → Nat → Int32 → Int32 → Option (jMe)} (hB : ∀ (m : jMe) (y0 : Nat) (y1 : Int32) (y2 : Int32) (r : jMe), B m y0 y1 y2 = some r → (jS X l d jm_X3_readTerm m0 v m' (70, [], [], r)) → jS X l d jm_X3_readTerm m0 v m' (7, [(0, .inr (.inr y0)), (1, .inl y1), (2, .inl y2)], [], m)) {m : jMe} {y0 : Nat} {y1 : Int32} {y2 : Int32} {r : jMe} (H : c_X3_readTerm_j32_l7 F G B m y0 y1 y2 = some r) (h2 : jS X l d jm_X3_readTerm m0 v m' (70, [], [], r)) : jS X l d jm_X3_readTerm m0 v m' (32, [(0, .inr (.inr y0)), (1, .inl y1), (2, .inl y2)], [], m) := by
  unfold c_X3_readTerm_j32_l7 at H
  obtain ⟨w7, H⟩ := jgd_ok H
  refine jS.adv O [(.aload_n 0, 0, 0, 0, 0, 0, 0), (.getfield 32, 0, 3, 6, 290, 0, 0), (.bipush 42, 0, 0, 0, 0, (42 : Int32), 0)] (pc' := 38) (ls' := [(0, .inr (.inr y0)), (1, .inl y1), (2, .inl y2)]) (st' := [.inl (42 : Int32), .inl (jI m y0 6)]) (m2 := m) (by decide +kernel) rfl ⟨w7, trivial⟩ ?_
  refine jS.br (i := .if_icmp .ne 8) (P := ¬ (jI m y0 6) = (42 : Int32)) (rest := []) rfl (by decide +kernel) (tgt := 46) (by decide) (fun c8 => ?_) (fun c8 => ?_)
  · replace H := jif_f c8 H
    refine jS.adv O [(.bipush 7, 0, 0, 0, 0, (7 : Int32), 0)] (pc' := 48) (ls' := [(0, .inr (.inr y0)), (1, .inl y1), (2, .inl y2)]) (st' := [.inl (7 : Int32)]) (m2 := m) (by decide +kernel) rfl trivial ?_
    refine jS.loc' [0, 1, 2] (ls' := [(0, .inr (.inr y0)), (1, .inl y1), (2, .inl y2)]) rfl ?_
    exact ec_X3_readTerm_j48_l7 O hd hdG hG hB H h2
  · replace H := jif_t (Classical.not_not.mp c8) H
    refine jS.adv O [(.bipush 6, 0, 0, 0, 0, (6 : Int32), 0), (.goto 5, 0, 48, 0, 0, 0, 0)] (pc' := 48) (ls' := [(0, .inr (.inr y0)), (1, .inl y1), (2, .inl y2)]) (st' := [.inl (6 : Int32)]) (m2 := m) (by decide +kernel) rfl trivial ?_
    refine jS.loc' [0, 1, 2] (ls' := [(0, .inr (.inr y0)), (1, .inl y1), (2, .inl y2)]) rfl ?_
    exact ec_X3_readTerm_j48_l7 O hd hdG hG hB H h2
def c_X3_readTerm_l7_b (F : Nat) (G : Nat → jMe → Nat → Int32 → Option (jMe)) (B : jMe → Nat → Int32 → Int32 → Option (jMe)) (m : jMe) (y0 : Nat) (y1 : Int32) (y2 : Int32) : Option (jMe) :=
  (if (160 : Int32) ≤ y2 then some (m) else jgd (jK m y0 = 35) <| (if (jI m y0 6) = (42 : Int32) then c_X3_readTerm_j32_l7 F G B m y0 y1 y2 else (if (jI m y0 6) = (37 : Int32) then c_X3_readTerm_j32_l7 F G B m y0 y1 y2 else some (m))))
theorem ec_X3_readTerm_l7_b {X : jX} {l : Launch} {d : Nat} (O : jOk X) (hd : 11 ≤ d) {F : Nat} {dG : Nat} (hdG : dG < d) {G : Nat → jMe → Nat → Int32 → Option (jMe)} (hG : ∀ (q : Nat) (m : jMe) (x0 : Nat) (x1 : Int32) (r : jMe), q < 8 → G q m x0 x1 = some r → jH X l dG (jms_X3_readEither q) [.inr (.inr x0), .inl x1] m none r) {m0 m' : jMe} {v : Option jAV} {B : jMe → Nat → Int32 → Int32 → Option (jMe)} (hB : ∀ (m : jMe) (y0 : Nat) (y1 : Int32) (y2 : Int32) (r : jMe), B m y0 y1 y2 = some r → (jS X l d jm_X3_readTerm m0 v m' (70, [], [], r)) → jS X l d jm_X3_readTerm m0 v m' (7, [(0, .inr (.inr y0)), (1, .inl y1), (2, .inl y2)], [], m)) {m : jMe} {y0 : Nat} {y1 : Int32} {y2 : Int32} {r : jMe} (H : c_X3_readTerm_l7_b F G B m y0 y1 y2 = some r) (h2 : jS X l d jm_X3_readTerm m0 v m' (70, [], [], r)) : jS X l d jm_X3_readTerm m0 v m' (7, [(0, .inr (.inr y0)), (1, .inl y1), (2, .inl y2)], [], m) := by
  unfold c_X3_readTerm_l7_b at H
  refine jS.adv O [(.iload_n 2, 0, 0, 0, 0, 0, 0), (.sipush 160, 0, 0, 0, 0, (160 : Int32), 0)] (pc' := 11) (ls' := [(0, .inr (.inr y0)), (1, .inl y1), (2, .inl y2)]) (st' := [.inl (160 : Int32), .inl y2]) (m2 := m) (by decide +kernel) rfl trivial ?_
  refine jS.br (i := .if_icmp .ge 59) (P := (160 : Int32) ≤ y2) (rest := []) rfl (by decide +kernel) (tgt := 70) (by decide) (fun c4 => ?_) (fun c4 => ?_)
  · replace H := jif_t c4 H
    replace H := Option.some.inj H
    subst H
    refine jS.loc' [] (ls' := []) rfl ?_
    exact h2
  · replace H := jif_f c4 H
    obtain ⟨w5, H⟩ := jgd_ok H
    refine jS.adv O [(.aload_n 0, 0, 0, 0, 0, 0, 0), (.getfield 32, 0, 3, 6, 290, 0, 0), (.bipush 42, 0, 0, 0, 0, (42 : Int32), 0)] (pc' := 20) (ls' := [(0, .inr (.inr y0)), (1, .inl y1), (2, .inl y2)]) (st' := [.inl (42 : Int32), .inl (jI m y0 6)]) (m2 := m) (by decide +kernel) rfl ⟨w5, trivial⟩ ?_
    refine jS.br (i := .if_icmp .eq 12) (P := (jI m y0 6) = (42 : Int32)) (rest := []) rfl (by decide +kernel) (tgt := 32) (by decide) (fun c6 => ?_) (fun c6 => ?_)
    · replace H := jif_t c6 H
      refine jS.loc' [0, 1, 2] (ls' := [(0, .inr (.inr y0)), (1, .inl y1), (2, .inl y2)]) rfl ?_
      exact ec_X3_readTerm_j32_l7 O hd hdG hG hB H h2
    · replace H := jif_f c6 H
      refine jS.adv O [(.aload_n 0, 0, 0, 0, 0, 0, 0), (.getfield 32, 0, 3, 6, 290, 0, 0), (.bipush 37, 0, 0, 0, 0, (37 : Int32), 0)] (pc' := 29) (ls' := [(0, .inr (.inr y0)), (1, .inl y1), (2, .inl y2)]) (st' := [.inl (37 : Int32), .inl (jI m y0 6)]) (m2 := m) (by decide +kernel) rfl ⟨w5, trivial⟩ ?_
      refine jS.br (i := .if_icmp .ne 41) (P := ¬ (jI m y0 6) = (37 : Int32)) (rest := []) rfl (by decide +kernel) (tgt := 70) (by decide) (fun c18 => ?_) (fun c18 => ?_)
      · replace H := jif_f c18 H
        replace H := Option.some.inj H
        subst H
        refine jS.loc' [] (ls' := []) rfl ?_
        exact h2
      · replace H := jif_t (Classical.not_not.mp c18) H
        refine jS.loc' [0, 1, 2] (ls' := [(0, .inr (.inr y0)), (1, .inl y1), (2, .inl y2)]) rfl ?_
        exact ec_X3_readTerm_j32_l7 O hd hdG hG hB H h2
def c_X3_readTerm_l7 (F : Nat) (G : Nat → jMe → Nat → Int32 → Option (jMe)) : Nat → jMe → Nat → Int32 → Int32 → Option (jMe)
  | 0, _, _, _, _ => none
  | n + 1, m, y0, y1, y2 => c_X3_readTerm_l7_b F G (fun m y0 y1 y2 => c_X3_readTerm_l7 F G n m y0 y1 y2) m y0 y1 y2
theorem ec_X3_readTerm_l7 {X : jX} {l : Launch} {d : Nat} (O : jOk X) (hd : 11 ≤ d) {F : Nat} {dG : Nat} (hdG : dG < d) {G : Nat → jMe → Nat → Int32 → Option (jMe)} (hG : ∀ (q : Nat) (m : jMe) (x0 : Nat) (x1 : Int32) (r : jMe), q < 8 → G q m x0 x1 = some r → jH X l dG (jms_X3_readEither q) [.inr (.inr x0), .inl x1] m none r) {m0 m' : jMe} {v : Option jAV} : ∀ (n : Nat) {m : jMe} {y0 : Nat} {y1 : Int32} {y2 : Int32} {r : jMe} (H : c_X3_readTerm_l7 F G n m y0 y1 y2 = some r) (h2 : jS X l d jm_X3_readTerm m0 v m' (70, [], [], r)), jS X l d jm_X3_readTerm m0 v m' (7, [(0, .inr (.inr y0)), (1, .inl y1), (2, .inl y2)], [], m) := by
  intro n
  induction n with
  | zero =>
    intro m y0 y1 y2 r H h2
    cases (show none = some r from H)
  | succ n ih =>
    intro m y0 y1 y2 r H h2
    exact ec_X3_readTerm_l7_b O hd hdG hG (B := (fun m y0 y1 y2 => c_X3_readTerm_l7 F G n m y0 y1 y2)) (fun m y0 y1 y2 r H h2 => ih H h2) H h2
def c_X3_readTerm_b (F : Nat) (G : Nat → jMe → Nat → Int32 → Option (jMe)) (m : jMe) (x0 : Nat) (x1 : Int32) : Option (jMe) :=
  jgd (jK m x0 = 35) <| jb (G 6 m x0 x1) fun t3 => jb (c_X3_readTerm_l7 F G F t3 x0 x1 (0 : Int32)) fun e20 => some e20
theorem ec_X3_readTerm_b {X : jX} {l : Launch} {d : Nat} (O : jOk X) (hd : 11 ≤ d) {F : Nat} {dG : Nat} (hdG : dG < d) {G : Nat → jMe → Nat → Int32 → Option (jMe)} (hG : ∀ (q : Nat) (m : jMe) (x0 : Nat) (x1 : Int32) (r : jMe), q < 8 → G q m x0 x1 = some r → jH X l dG (jms_X3_readEither q) [.inr (.inr x0), .inl x1] m none r) {m : jMe} {x0 : Nat} {x1 : Int32} {r : jMe} (H : c_X3_readTerm_b F G m x0 x1 = some r) : jH X l d jm_X3_readTerm [.inr (.inr x0), .inl x1] m none r := by
  refine jH.of jpl_RX3 rfl (Nat.le_of_ble_eq_true rfl) ?_
  show jS X l d jm_X3_readTerm m _ _ (0, [(0, .inr (.inr x0)), (1, .inl x1)], [], m)
  unfold c_X3_readTerm_b at H
  obtain ⟨w1, H⟩ := jgd_ok H
  refine jS.adv O [(.aload_n 0, 0, 0, 0, 0, 0, 0), (.iload_n 1, 0, 0, 0, 0, 0, 0)] (pc' := 2) (ls' := [(0, .inr (.inr x0)), (1, .inl x1)]) (st' := [.inl x1, .inr (.inr x0)]) (m2 := m) (by decide +kernel) rfl trivial ?_
  obtain ⟨t3, w2, H⟩ := jb_ok H
  refine jS.step (c' := (5, [(0, .inr (.inr x0)), (1, .inl x1)], [], t3)) (jSt.callV (c := 3) (As := [.inl x1]) (rest := []) O (hG 6 _ _ _ _ (by decide) w2) w1 (by decide) rfl hdG jmw_X3_readOne jmv_X3_readOne jmn_X3_readOne (idx := 78) (jW_of 1051 (by decide +kernel) rfl) (Nat.le_of_ble_eq_true rfl) (by decide +kernel)) ?_
  refine jS.adv O [(.iconst 0, 0, 0, 0, 0, (0 : Int32), 0), (.istore_n 2, 0, 0, 0, 0, 0, 0)] (pc' := 7) (ls' := [(2, .inl (0 : Int32)), (0, .inr (.inr x0)), (1, .inl x1)]) (st' := []) (m2 := t3) (by decide +kernel) rfl trivial ?_
  refine jS.loc' [1, 2, 0] (ls' := [(0, .inr (.inr x0)), (1, .inl x1), (2, .inl (0 : Int32))]) rfl ?_
  obtain ⟨e20, w21, H⟩ := jb_ok H
  refine ec_X3_readTerm_l7 O hd hdG hG F w21 ?_
  replace H := Option.some.inj H
  subst H
  exact jS.vret rfl (by decide +kernel)
def c_X3_readOne_l2_b (F : Nat) (G : Nat → jMe → Nat → Int32 → Option (jMe)) (B : jMe → Nat → Int32 → Int32 → Option (jMe × Nat × Int32 × Int32)) (m : jMe) (y0 : Nat) (y1 : Int32) (y2 : Int32) : Option (jMe × Nat × Int32 × Int32) :=
  jgd (jK m y0 = 35) <| (if (jI m y0 6) = (45 : Int32) then (if (5 : Int32) ≤ (y1 + y2) then some (m, y0, y1, y2) else jb (c_X3_step F m y0) fun t5 => B t5 y0 y1 (y2 + (1 : Int32))) else some (m, y0, y1, y2))
theorem ec_X3_readOne_l2_b {X : jX} {l : Launch} {d : Nat} (O : jOk X) (hd : 11 ≤ d) {F : Nat} {dG : Nat} (hdG : dG < d) {G : Nat → jMe → Nat → Int32 → Option (jMe)} (hG : ∀ (q : Nat) (m : jMe) (x0 : Nat) (x1 : Int32) (r : jMe), q < 8 → G q m x0 x1 = some r → jH X l dG (jms_X3_readEither q) [.inr (.inr x0), .inl x1] m none r) {m0 m' : jMe} {v : Option jAV} {B : jMe → Nat → Int32 → Int32 → Option (jMe × Nat × Int32 × Int32)} (hB : ∀ (m : jMe) (y0 : Nat) (y1 : Int32) (y2 : Int32) (r : jMe × Nat × Int32 × Int32), B m y0 y1 y2 = some r → (jS X l d jm_X3_readOne m0 v m' (28, [(0, .inr (.inr r.2.1)), (1, .inl r.2.2.1), (2, .inl r.2.2.2)], [], r.1)) → jS X l d jm_X3_readOne m0 v m' (2, [(0, .inr (.inr y0)), (1, .inl y1), (2, .inl y2)], [], m)) {m : jMe} {y0 : Nat} {y1 : Int32} {y2 : Int32} {r : jMe × Nat × Int32 × Int32} (H : c_X3_readOne_l2_b F G B m y0 y1 y2 = some r) (h2 : jS X l d jm_X3_readOne m0 v m' (28, [(0, .inr (.inr r.2.1)), (1, .inl r.2.2.1), (2, .inl r.2.2.2)], [], r.1)) : jS X l d jm_X3_readOne m0 v m' (2, [(0, .inr (.inr y0)), (1, .inl y1), (2, .inl y2)], [], m) := by
  unfold c_X3_readOne_l2_b at H
  obtain ⟨w1, H⟩ := jgd_ok H
  refine jS.adv O [(.aload_n 0, 0, 0, 0, 0, 0, 0), (.getfield 32, 0, 3, 6, 290, 0, 0), (.bipush 45, 0, 0, 0, 0, (45 : Int32), 0)] (pc' := 8) (ls' := [(0, .inr (.inr y0)), (1, .inl y1), (2, .inl y2)]) (st' := [.inl (45 : Int32), .inl (jI m y0 6)]) (m2 := m) (by decide +kernel) rfl ⟨w1, trivial⟩ ?_
  refine jS.br (i := .if_icmp .ne 20) (P := ¬ (jI m y0 6) = (45 : Int32)) (rest := []) rfl (by decide +kernel) (tgt := 28) (by decide) (fun c2 => ?_) (fun c2 => ?_)
  · replace H := jif_f c2 H
    replace H := Option.some.inj H
    subst H
    refine jS.loc' [0, 1, 2] (ls' := [(0, .inr (.inr y0)), (1, .inl y1), (2, .inl y2)]) rfl ?_
    exact h2
  · replace H := jif_t (Classical.not_not.mp c2) H
    refine jS.adv O [(.iload_n 1, 0, 0, 0, 0, 0, 0), (.iload_n 2, 0, 0, 0, 0, 0, 0), (.iadd, 0, 0, 0, 0, 0, 0), (.iconst 5, 0, 0, 0, 0, (5 : Int32), 0)] (pc' := 15) (ls' := [(0, .inr (.inr y0)), (1, .inl y1), (2, .inl y2)]) (st' := [.inl (5 : Int32), .inl (y1 + y2)]) (m2 := m) (by decide +kernel) rfl trivial ?_
    refine jS.br (i := .if_icmp .ge 13) (P := (5 : Int32) ≤ (y1 + y2)) (rest := []) rfl (by decide +kernel) (tgt := 28) (by decide) (fun c3 => ?_) (fun c3 => ?_)
    · replace H := jif_t c3 H
      replace H := Option.some.inj H
      subst H
      refine jS.loc' [0, 1, 2] (ls' := [(0, .inr (.inr y0)), (1, .inl y1), (2, .inl y2)]) rfl ?_
      exact h2
    · replace H := jif_f c3 H
      refine jS.adv O [(.aload_n 0, 0, 0, 0, 0, 0, 0)] (pc' := 19) (ls' := [(0, .inr (.inr y0)), (1, .inl y1), (2, .inl y2)]) (st' := [.inr (.inr y0)]) (m2 := m) (by decide +kernel) rfl trivial ?_
      obtain ⟨t5, w4, H⟩ := jb_ok H
      refine jS.step (c' := (22, [(0, .inr (.inr y0)), (1, .inl y1), (2, .inl y2)], [], t5)) (jSt.callV (c := 3) (As := []) (rest := []) O (ec_X3_step (d := 9) O (Nat.le_refl _) w4) w1 (by decide) rfl (by omega) jmw_X3_step jmv_X3_step jmn_X3_step (idx := 41) (jW_of 877 (by decide +kernel) rfl) (Nat.le_of_ble_eq_true rfl) (by decide +kernel)) ?_
      refine jS.adv O [(.iinc 2 1, 0, 0, 0, 0, (1 : Int32), 0), (.goto (-23), 0, 2, 0, 0, 0, 0)] (pc' := 2) (ls' := [(2, .inl (y2 + (1 : Int32))), (0, .inr (.inr y0)), (1, .inl y1)]) (st' := []) (m2 := t5) (by decide +kernel) rfl trivial ?_
      refine jS.loc' [1, 2, 0] (ls' := [(0, .inr (.inr y0)), (1, .inl y1), (2, .inl (y2 + (1 : Int32)))]) rfl ?_
      exact hB _ _ _ _ _ H h2
def c_X3_readOne_l2 (F : Nat) (G : Nat → jMe → Nat → Int32 → Option (jMe)) : Nat → jMe → Nat → Int32 → Int32 → Option (jMe × Nat × Int32 × Int32)
  | 0, _, _, _, _ => none
  | n + 1, m, y0, y1, y2 => c_X3_readOne_l2_b F G (fun m y0 y1 y2 => c_X3_readOne_l2 F G n m y0 y1 y2) m y0 y1 y2
theorem ec_X3_readOne_l2 {X : jX} {l : Launch} {d : Nat} (O : jOk X) (hd : 11 ≤ d) {F : Nat} {dG : Nat} (hdG : dG < d) {G : Nat → jMe → Nat → Int32 → Option (jMe)} (hG : ∀ (q : Nat) (m : jMe) (x0 : Nat) (x1 : Int32) (r : jMe), q < 8 → G q m x0 x1 = some r → jH X l dG (jms_X3_readEither q) [.inr (.inr x0), .inl x1] m none r) {m0 m' : jMe} {v : Option jAV} : ∀ (n : Nat) {m : jMe} {y0 : Nat} {y1 : Int32} {y2 : Int32} {r : jMe × Nat × Int32 × Int32} (H : c_X3_readOne_l2 F G n m y0 y1 y2 = some r) (h2 : jS X l d jm_X3_readOne m0 v m' (28, [(0, .inr (.inr r.2.1)), (1, .inl r.2.2.1), (2, .inl r.2.2.2)], [], r.1)), jS X l d jm_X3_readOne m0 v m' (2, [(0, .inr (.inr y0)), (1, .inl y1), (2, .inl y2)], [], m) := by
  intro n
  induction n with
  | zero =>
    intro m y0 y1 y2 r H h2
    cases (show none = some r from H)
  | succ n ih =>
    intro m y0 y1 y2 r H h2
    exact ec_X3_readOne_l2_b O hd hdG hG (B := (fun m y0 y1 y2 => c_X3_readOne_l2 F G n m y0 y1 y2)) (fun m y0 y1 y2 r H h2 => ih H h2) H h2
def c_X3_readOne_j28 (F : Nat) (G : Nat → jMe → Nat → Int32 → Option (jMe)) (m : jMe) (y0 : Nat) (y1 : Int32) (y2 : Int32) : Option (jMe) :=
  jgd (jK m y0 = 35) <| jb (G 7 m y0 (y1 + y2)) fun t11 => jgd (jK t11 y0 = 35) <| jb (c_X3_emitAll F t11 y0 (2 : Int32) y2) fun t14 => some t14
theorem ec_X3_readOne_j28 {X : jX} {l : Launch} {d : Nat} (O : jOk X) (hd : 11 ≤ d) {F : Nat} {dG : Nat} (hdG : dG < d) {G : Nat → jMe → Nat → Int32 → Option (jMe)} (hG : ∀ (q : Nat) (m : jMe) (x0 : Nat) (x1 : Int32) (r : jMe), q < 8 → G q m x0 x1 = some r → jH X l dG (jms_X3_readEither q) [.inr (.inr x0), .inl x1] m none r) {m0 m : jMe} {y0 : Nat} {y1 : Int32} {y2 : Int32} {r : jMe} (H : c_X3_readOne_j28 F G m y0 y1 y2 = some r) : jS X l d jm_X3_readOne m0 none r (28, [(0, .inr (.inr y0)), (1, .inl y1), (2, .inl y2)], [], m) := by
  unfold c_X3_readOne_j28 at H
  obtain ⟨w9, H⟩ := jgd_ok H
  refine jS.adv O [(.aload_n 0, 0, 0, 0, 0, 0, 0), (.iload_n 1, 0, 0, 0, 0, 0, 0), (.iload_n 2, 0, 0, 0, 0, 0, 0), (.iadd, 0, 0, 0, 0, 0, 0)] (pc' := 32) (ls' := [(0, .inr (.inr y0)), (1, .inl y1), (2, .inl y2)]) (st' := [.inl (y1 + y2), .inr (.inr y0)]) (m2 := m) (by decide +kernel) rfl trivial ?_
  obtain ⟨t11, w10, H⟩ := jb_ok H
  refine jS.step (c' := (35, [(0, .inr (.inr y0)), (1, .inl y1), (2, .inl y2)], [], t11)) (jSt.callV (c := 3) (As := [.inl (y1 + y2)]) (rest := []) O (hG 7 _ _ _ _ (by decide) w10) w9 (by decide) rfl hdG jmw_X3_readPlain jmv_X3_readPlain jmn_X3_readPlain (idx := 81) (jW_of 1055 (by decide +kernel) rfl) (Nat.le_of_ble_eq_true rfl) (by decide +kernel)) ?_
  obtain ⟨w12, H⟩ := jgd_ok H
  refine jS.adv O [(.aload_n 0, 0, 0, 0, 0, 0, 0), (.iconst 2, 0, 0, 0, 0, (2 : Int32), 0), (.iload_n 2, 0, 0, 0, 0, 0, 0)] (pc' := 38) (ls' := [(0, .inr (.inr y0)), (1, .inl y1), (2, .inl y2)]) (st' := [.inl y2, .inl (2 : Int32), .inr (.inr y0)]) (m2 := t11) (by decide +kernel) rfl trivial ?_
  obtain ⟨t14, w13, H⟩ := jb_ok H
  refine jS.step (c' := (41, [(0, .inr (.inr y0)), (1, .inl y1), (2, .inl y2)], [], t14)) (jSt.callV (c := 3) (As := [.inl (2 : Int32), .inl y2]) (rest := []) O (ec_X3_emitAll (d := 3) O (Nat.le_refl _) w13) w12 (by decide) rfl (by omega) jmw_X3_emitAll jmv_X3_emitAll jmn_X3_emitAll (idx := 69) (jW_of 1063 (by decide +kernel) rfl) (Nat.le_of_ble_eq_true rfl) (by decide +kernel)) ?_
  replace H := Option.some.inj H
  subst H
  exact jS.vret rfl (by decide +kernel)
def c_X3_readOne_b (F : Nat) (G : Nat → jMe → Nat → Int32 → Option (jMe)) (m : jMe) (x0 : Nat) (x1 : Int32) : Option (jMe) :=
  jb (c_X3_readOne_l2 F G F m x0 x1 (0 : Int32)) fun e7 => c_X3_readOne_j28 F G e7.1 e7.2.1 e7.2.2.1 e7.2.2.2
theorem ec_X3_readOne_b {X : jX} {l : Launch} {d : Nat} (O : jOk X) (hd : 11 ≤ d) {F : Nat} {dG : Nat} (hdG : dG < d) {G : Nat → jMe → Nat → Int32 → Option (jMe)} (hG : ∀ (q : Nat) (m : jMe) (x0 : Nat) (x1 : Int32) (r : jMe), q < 8 → G q m x0 x1 = some r → jH X l dG (jms_X3_readEither q) [.inr (.inr x0), .inl x1] m none r) {m : jMe} {x0 : Nat} {x1 : Int32} {r : jMe} (H : c_X3_readOne_b F G m x0 x1 = some r) : jH X l d jm_X3_readOne [.inr (.inr x0), .inl x1] m none r := by
  refine jH.of jpl_RX3 rfl (Nat.le_of_ble_eq_true rfl) ?_
  show jS X l d jm_X3_readOne m _ _ (0, [(0, .inr (.inr x0)), (1, .inl x1)], [], m)
  unfold c_X3_readOne_b at H
  refine jS.adv O [(.iconst 0, 0, 0, 0, 0, (0 : Int32), 0), (.istore_n 2, 0, 0, 0, 0, 0, 0)] (pc' := 2) (ls' := [(2, .inl (0 : Int32)), (0, .inr (.inr x0)), (1, .inl x1)]) (st' := []) (m2 := m) (by decide +kernel) rfl trivial ?_
  refine jS.loc' [1, 2, 0] (ls' := [(0, .inr (.inr x0)), (1, .inl x1), (2, .inl (0 : Int32))]) rfl ?_
  obtain ⟨e7, w8, H⟩ := jb_ok H
  refine ec_X3_readOne_l2 O hd hdG hG F w8 ?_
  refine jS.loc' [0, 1, 2] (ls' := [(0, .inr (.inr e7.2.1)), (1, .inl e7.2.2.1), (2, .inl e7.2.2.2)]) rfl ?_
  exact ec_X3_readOne_j28 O hd hdG hG H
def c_X3_readPlain_j30 (F : Nat) (G : Nat → jMe → Nat → Int32 → Option (jMe)) (m : jMe) (y0 : Nat) (s0 : Int32) (s1 : Nat) : Option (jMe) :=
  jgd (jK m y0 = 35) <| jgd (jK m s1 = 35) <| jb (c_X3_emit F m s1 s0 (jI m y0 7)) fun t8 => jgd (jK t8 y0 = 35) <| jb (c_X3_step F t8 y0) fun t11 => some t11
theorem ec_X3_readPlain_j30 {X : jX} {l : Launch} {d : Nat} (O : jOk X) (hd : 11 ≤ d) {F : Nat} {dG : Nat} (hdG : dG < d) {G : Nat → jMe → Nat → Int32 → Option (jMe)} (hG : ∀ (q : Nat) (m : jMe) (x0 : Nat) (x1 : Int32) (r : jMe), q < 8 → G q m x0 x1 = some r → jH X l dG (jms_X3_readEither q) [.inr (.inr x0), .inl x1] m none r) {m0 m : jMe} {y0 : Nat} {s0 : Int32} {s1 : Nat} {r : jMe} (H : c_X3_readPlain_j30 F G m y0 s0 s1 = some r) : jS X l d jm_X3_readPlain m0 none r (30, [(0, .inr (.inr y0))], [.inl s0, .inr (.inr s1)], m) := by
  unfold c_X3_readPlain_j30 at H
  obtain ⟨w5, H⟩ := jgd_ok H
  obtain ⟨w6, H⟩ := jgd_ok H
  refine jS.adv O [(.aload_n 0, 0, 0, 0, 0, 0, 0), (.getfield 35, 0, 3, 7, 291, 0, 0)] (pc' := 34) (ls' := [(0, .inr (.inr y0))]) (st' := [.inl (jI m y0 7), .inl s0, .inr (.inr s1)]) (m2 := m) (by decide +kernel) rfl ⟨w5, trivial⟩ ?_
  obtain ⟨t8, w7, H⟩ := jb_ok H
  refine jS.step (c' := (37, [(0, .inr (.inr y0))], [], t8)) (jSt.callV (c := 3) (As := [.inl s0, .inl (jI m y0 7)]) (rest := []) O (ec_X3_emit (d := 2) O (Nat.le_refl _) w7) w6 (by decide) rfl (by omega) jmw_X3_emit jmv_X3_emit jmn_X3_emit (idx := 56) (jW_of 1059 (by decide +kernel) rfl) (Nat.le_of_ble_eq_true rfl) (by decide +kernel)) ?_
  obtain ⟨w9, H⟩ := jgd_ok H
  refine jS.adv O [(.aload_n 0, 0, 0, 0, 0, 0, 0)] (pc' := 38) (ls' := [(0, .inr (.inr y0))]) (st' := [.inr (.inr y0)]) (m2 := t8) (by decide +kernel) rfl trivial ?_
  obtain ⟨t11, w10, H⟩ := jb_ok H
  refine jS.step (c' := (41, [(0, .inr (.inr y0))], [], t11)) (jSt.callV (c := 3) (As := []) (rest := []) O (ec_X3_step (d := 9) O (Nat.le_refl _) w10) w9 (by decide) rfl (by omega) jmw_X3_step jmv_X3_step jmn_X3_step (idx := 41) (jW_of 877 (by decide +kernel) rfl) (Nat.le_of_ble_eq_true rfl) (by decide +kernel)) ?_
  refine jS.adv O [(.goto 41, 0, 82, 0, 0, 0, 0)] (pc' := 82) (ls' := [(0, .inr (.inr y0))]) (st' := []) (m2 := t11) (by decide +kernel) rfl trivial ?_
  replace H := Option.some.inj H
  subst H
  exact jS.vret rfl (by decide +kernel)
def c_X3_readPlain_j16 (F : Nat) (G : Nat → jMe → Nat → Int32 → Option (jMe)) (m : jMe) (y0 : Nat) : Option (jMe) :=
  jgd (jK m y0 = 35) <| (if (jI m y0 6) = (2 : Int32) then c_X3_readPlain_j30 F G m y0 (0 : Int32) y0 else c_X3_readPlain_j30 F G m y0 (1 : Int32) y0)
theorem ec_X3_readPlain_j16 {X : jX} {l : Launch} {d : Nat} (O : jOk X) (hd : 11 ≤ d) {F : Nat} {dG : Nat} (hdG : dG < d) {G : Nat → jMe → Nat → Int32 → Option (jMe)} (hG : ∀ (q : Nat) (m : jMe) (x0 : Nat) (x1 : Int32) (r : jMe), q < 8 → G q m x0 x1 = some r → jH X l dG (jms_X3_readEither q) [.inr (.inr x0), .inl x1] m none r) {m0 m : jMe} {y0 : Nat} {r : jMe} (H : c_X3_readPlain_j16 F G m y0 = some r) : jS X l d jm_X3_readPlain m0 none r (16, [(0, .inr (.inr y0))], [], m) := by
  unfold c_X3_readPlain_j16 at H
  obtain ⟨w3, H⟩ := jgd_ok H
  refine jS.adv O [(.aload_n 0, 0, 0, 0, 0, 0, 0), (.aload_n 0, 0, 0, 0, 0, 0, 0), (.getfield 32, 0, 3, 6, 290, 0, 0), (.iconst 2, 0, 0, 0, 0, (2 : Int32), 0)] (pc' := 22) (ls' := [(0, .inr (.inr y0))]) (st' := [.inl (2 : Int32), .inl (jI m y0 6), .inr (.inr y0)]) (m2 := m) (by decide +kernel) rfl ⟨w3, trivial⟩ ?_
  refine jS.br (i := .if_icmp .ne 7) (P := ¬ (jI m y0 6) = (2 : Int32)) (rest := [.inr (.inr y0)]) rfl (by decide +kernel) (tgt := 29) (by decide) (fun c4 => ?_) (fun c4 => ?_)
  · replace H := jif_f c4 H
    refine jS.adv O [(.iconst 1, 0, 0, 0, 0, (1 : Int32), 0)] (pc' := 30) (ls' := [(0, .inr (.inr y0))]) (st' := [.inl (1 : Int32), .inr (.inr y0)]) (m2 := m) (by decide +kernel) rfl trivial ?_
    refine jS.loc' [0] (ls' := [(0, .inr (.inr y0))]) rfl ?_
    exact ec_X3_readPlain_j30 O hd hdG hG H
  · replace H := jif_t (Classical.not_not.mp c4) H
    refine jS.adv O [(.iconst 0, 0, 0, 0, 0, (0 : Int32), 0), (.goto 4, 0, 30, 0, 0, 0, 0)] (pc' := 30) (ls' := [(0, .inr (.inr y0))]) (st' := [.inl (0 : Int32), .inr (.inr y0)]) (m2 := m) (by decide +kernel) rfl trivial ?_
    refine jS.loc' [0] (ls' := [(0, .inr (.inr y0))]) rfl ?_
    exact ec_X3_readPlain_j30 O hd hdG hG H
def c_X3_readPlain_j78 (F : Nat) (G : Nat → jMe → Nat → Int32 → Option (jMe)) (m : jMe) (y0 : Nat) : Option (jMe) :=
  jgd (jK m y0 = 35) <| jb (c_X3_fail F m y0) fun t16 => some t16
theorem ec_X3_readPlain_j78 {X : jX} {l : Launch} {d : Nat} (O : jOk X) (hd : 11 ≤ d) {F : Nat} {dG : Nat} (hdG : dG < d) {G : Nat → jMe → Nat → Int32 → Option (jMe)} (hG : ∀ (q : Nat) (m : jMe) (x0 : Nat) (x1 : Int32) (r : jMe), q < 8 → G q m x0 x1 = some r → jH X l dG (jms_X3_readEither q) [.inr (.inr x0), .inl x1] m none r) {m0 m : jMe} {y0 : Nat} {r : jMe} (H : c_X3_readPlain_j78 F G m y0 = some r) : jS X l d jm_X3_readPlain m0 none r (78, [(0, .inr (.inr y0))], [], m) := by
  unfold c_X3_readPlain_j78 at H
  obtain ⟨w14, H⟩ := jgd_ok H
  refine jS.adv O [(.aload_n 0, 0, 0, 0, 0, 0, 0)] (pc' := 79) (ls' := [(0, .inr (.inr y0))]) (st' := [.inr (.inr y0)]) (m2 := m) (by decide +kernel) rfl trivial ?_
  obtain ⟨t16, w15, H⟩ := jb_ok H
  refine jS.step (c' := (82, [(0, .inr (.inr y0))], [], t16)) (jSt.callV (c := 3) (As := []) (rest := []) O (ec_X3_fail (d := 2) O (Nat.le_refl _) w15) w14 (by decide) rfl (by omega) jmw_X3_fail jmv_X3_fail jmn_X3_fail (idx := 51) (jW_of 952 (by decide +kernel) rfl) (Nat.le_of_ble_eq_true rfl) (by decide +kernel)) ?_
  replace H := Option.some.inj H
  subst H
  exact jS.vret rfl (by decide +kernel)
def c_X3_readPlain_b (F : Nat) (G : Nat → jMe → Nat → Int32 → Option (jMe)) (m : jMe) (x0 : Nat) (x1 : Int32) : Option (jMe) :=
  jgd (jK m x0 = 35) <| (if (jI m x0 6) = (2 : Int32) then c_X3_readPlain_j16 F G m x0 else (if (jI m x0 6) = (3 : Int32) then c_X3_readPlain_j16 F G m x0 else (if (jI m x0 6) = (40 : Int32) then (if (5 : Int32) ≤ x1 then c_X3_readPlain_j78 F G m x0 else jb (c_X3_step F m x0) fun t19 => jgd (jK t19 x0 = 35) <| jb (G 0 t19 x0 (x1 + (1 : Int32))) fun t22 => jgd (jK t22 x0 = 35) <| jb (c_X3_expect F t22 x0 (41 : Int32)) fun t25 => some t25) else c_X3_readPlain_j78 F G m x0)))
theorem ec_X3_readPlain_b {X : jX} {l : Launch} {d : Nat} (O : jOk X) (hd : 11 ≤ d) {F : Nat} {dG : Nat} (hdG : dG < d) {G : Nat → jMe → Nat → Int32 → Option (jMe)} (hG : ∀ (q : Nat) (m : jMe) (x0 : Nat) (x1 : Int32) (r : jMe), q < 8 → G q m x0 x1 = some r → jH X l dG (jms_X3_readEither q) [.inr (.inr x0), .inl x1] m none r) {m : jMe} {x0 : Nat} {x1 : Int32} {r : jMe} (H : c_X3_readPlain_b F G m x0 x1 = some r) : jH X l d jm_X3_readPlain [.inr (.inr x0), .inl x1] m none r := by
  refine jH.of jpl_RX3 rfl (Nat.le_of_ble_eq_true rfl) ?_
  show jS X l d jm_X3_readPlain m _ _ (0, [(0, .inr (.inr x0)), (1, .inl x1)], [], m)
  unfold c_X3_readPlain_b at H
  obtain ⟨w1, H⟩ := jgd_ok H
  refine jS.adv O [(.aload_n 0, 0, 0, 0, 0, 0, 0), (.getfield 32, 0, 3, 6, 290, 0, 0), (.iconst 2, 0, 0, 0, 0, (2 : Int32), 0)] (pc' := 5) (ls' := [(0, .inr (.inr x0)), (1, .inl x1)]) (st' := [.inl (2 : Int32), .inl (jI m x0 6)]) (m2 := m) (by decide +kernel) rfl ⟨w1, trivial⟩ ?_
  refine jS.br (i := .if_icmp .eq 11) (P := (jI m x0 6) = (2 : Int32)) (rest := []) rfl (by decide +kernel) (tgt := 16) (by decide) (fun c2 => ?_) (fun c2 => ?_)
  · replace H := jif_t c2 H
    refine jS.loc' [0] (ls' := [(0, .inr (.inr x0))]) rfl ?_
    exact ec_X3_readPlain_j16 O hd hdG hG H
  · replace H := jif_f c2 H
    refine jS.adv O [(.aload_n 0, 0, 0, 0, 0, 0, 0), (.getfield 32, 0, 3, 6, 290, 0, 0), (.iconst 3, 0, 0, 0, 0, (3 : Int32), 0)] (pc' := 13) (ls' := [(0, .inr (.inr x0)), (1, .inl x1)]) (st' := [.inl (3 : Int32), .inl (jI m x0 6)]) (m2 := m) (by decide +kernel) rfl ⟨w1, trivial⟩ ?_
    refine jS.br (i := .if_icmp .ne 31) (P := ¬ (jI m x0 6) = (3 : Int32)) (rest := []) rfl (by decide +kernel) (tgt := 44) (by decide) (fun c12 => ?_) (fun c12 => ?_)
    · replace H := jif_f c12 H
      refine jS.adv O [(.aload_n 0, 0, 0, 0, 0, 0, 0), (.getfield 32, 0, 3, 6, 290, 0, 0), (.bipush 40, 0, 0, 0, 0, (40 : Int32), 0)] (pc' := 50) (ls' := [(0, .inr (.inr x0)), (1, .inl x1)]) (st' := [.inl (40 : Int32), .inl (jI m x0 6)]) (m2 := m) (by decide +kernel) rfl ⟨w1, trivial⟩ ?_
      refine jS.br (i := .if_icmp .ne 28) (P := ¬ (jI m x0 6) = (40 : Int32)) (rest := []) rfl (by decide +kernel) (tgt := 78) (by decide) (fun c13 => ?_) (fun c13 => ?_)
      · replace H := jif_f c13 H
        refine jS.loc' [0] (ls' := [(0, .inr (.inr x0))]) rfl ?_
        exact ec_X3_readPlain_j78 O hd hdG hG H
      · replace H := jif_t (Classical.not_not.mp c13) H
        refine jS.adv O [(.iload_n 1, 0, 0, 0, 0, 0, 0), (.iconst 5, 0, 0, 0, 0, (5 : Int32), 0)] (pc' := 55) (ls' := [(0, .inr (.inr x0)), (1, .inl x1)]) (st' := [.inl (5 : Int32), .inl x1]) (m2 := m) (by decide +kernel) rfl trivial ?_
        refine jS.br (i := .if_icmp .ge 23) (P := (5 : Int32) ≤ x1) (rest := []) rfl (by decide +kernel) (tgt := 78) (by decide) (fun c17 => ?_) (fun c17 => ?_)
        · replace H := jif_t c17 H
          refine jS.loc' [0] (ls' := [(0, .inr (.inr x0))]) rfl ?_
          exact ec_X3_readPlain_j78 O hd hdG hG H
        · replace H := jif_f c17 H
          refine jS.adv O [(.aload_n 0, 0, 0, 0, 0, 0, 0)] (pc' := 59) (ls' := [(0, .inr (.inr x0)), (1, .inl x1)]) (st' := [.inr (.inr x0)]) (m2 := m) (by decide +kernel) rfl trivial ?_
          obtain ⟨t19, w18, H⟩ := jb_ok H
          refine jS.step (c' := (62, [(0, .inr (.inr x0)), (1, .inl x1)], [], t19)) (jSt.callV (c := 3) (As := []) (rest := []) O (ec_X3_step (d := 9) O (Nat.le_refl _) w18) w1 (by decide) rfl (by omega) jmw_X3_step jmv_X3_step jmn_X3_step (idx := 41) (jW_of 877 (by decide +kernel) rfl) (Nat.le_of_ble_eq_true rfl) (by decide +kernel)) ?_
          obtain ⟨w20, H⟩ := jgd_ok H
          refine jS.adv O [(.aload_n 0, 0, 0, 0, 0, 0, 0), (.iload_n 1, 0, 0, 0, 0, 0, 0), (.iconst 1, 0, 0, 0, 0, (1 : Int32), 0), (.iadd, 0, 0, 0, 0, 0, 0)] (pc' := 66) (ls' := [(0, .inr (.inr x0)), (1, .inl x1)]) (st' := [.inl (x1 + (1 : Int32)), .inr (.inr x0)]) (m2 := t19) (by decide +kernel) rfl trivial ?_
          obtain ⟨t22, w21, H⟩ := jb_ok H
          refine jS.step (c' := (69, [(0, .inr (.inr x0)), (1, .inl x1)], [], t22)) (jSt.callV (c := 3) (As := [.inl (x1 + (1 : Int32))]) (rest := []) O (hG 0 _ _ _ _ (by decide) w21) w20 (by decide) rfl hdG jmw_X3_readEither jmv_X3_readEither jmn_X3_readEither (idx := 48) (jW_of 1027 (by decide +kernel) rfl) (Nat.le_of_ble_eq_true rfl) (by decide +kernel)) ?_
          obtain ⟨w23, H⟩ := jgd_ok H
          refine jS.adv O [(.aload_n 0, 0, 0, 0, 0, 0, 0), (.bipush 41, 0, 0, 0, 0, (41 : Int32), 0)] (pc' := 72) (ls' := [(0, .inr (.inr x0)), (1, .inl x1)]) (st' := [.inl (41 : Int32), .inr (.inr x0)]) (m2 := t22) (by decide +kernel) rfl trivial ?_
          obtain ⟨t25, w24, H⟩ := jb_ok H
          refine jS.step (c' := (75, [(0, .inr (.inr x0)), (1, .inl x1)], [], t25)) (jSt.callV (c := 3) (As := [.inl (41 : Int32)]) (rest := []) O (ec_X3_expect (d := 10) O (Nat.le_refl _) w24) w23 (by decide) rfl (by omega) jmw_X3_expect jmv_X3_expect jmn_X3_expect (idx := 44) (jW_of 1023 (by decide +kernel) rfl) (Nat.le_of_ble_eq_true rfl) (by decide +kernel)) ?_
          refine jS.adv O [(.goto 7, 0, 82, 0, 0, 0, 0)] (pc' := 82) (ls' := [(0, .inr (.inr x0)), (1, .inl x1)]) (st' := []) (m2 := t25) (by decide +kernel) rfl trivial ?_
          replace H := Option.some.inj H
          subst H
          exact jS.vret rfl (by decide +kernel)
    · replace H := jif_t (Classical.not_not.mp c12) H
      refine jS.loc' [0] (ls' := [(0, .inr (.inr x0))]) rfl ?_
      exact ec_X3_readPlain_j16 O hd hdG hG H
def c_X3_readEither_s (F : Nat) : Nat → Nat → jMe → Nat → Int32 → Option (jMe)
  | 0, _, _, _, _ => none
  | k + 1, 0, m, x0, x1 => c_X3_readEither_b F (fun q m x0 x1 => c_X3_readEither_s F k q m x0 x1) m x0 x1
  | k + 1, 1, m, x0, x1 => c_X3_readBoth_b F (fun q m x0 x1 => c_X3_readEither_s F k q m x0 x1) m x0 x1
  | k + 1, 2, m, x0, x1 => c_X3_readDenied_b F (fun q m x0 x1 => c_X3_readEither_s F k q m x0 x1) m x0 x1
  | k + 1, 3, m, x0, x1 => c_X3_readCompared_b F (fun q m x0 x1 => c_X3_readEither_s F k q m x0 x1) m x0 x1
  | k + 1, 4, m, x0, x1 => c_X3_readSum_b F (fun q m x0 x1 => c_X3_readEither_s F k q m x0 x1) m x0 x1
  | k + 1, 5, m, x0, x1 => c_X3_readTerm_b F (fun q m x0 x1 => c_X3_readEither_s F k q m x0 x1) m x0 x1
  | k + 1, 6, m, x0, x1 => c_X3_readOne_b F (fun q m x0 x1 => c_X3_readEither_s F k q m x0 x1) m x0 x1
  | k + 1, 7, m, x0, x1 => c_X3_readPlain_b F (fun q m x0 x1 => c_X3_readEither_s F k q m x0 x1) m x0 x1
  | _ + 1, _ + 8, _, _, _ => none
theorem ec_X3_readEither_s {X : jX} {l : Launch} (O : jOk X) {F : Nat} : ∀ (k : Nat) {d : Nat} (hd : 11 + k ≤ d) {q : Nat} {m : jMe} {x0 : Nat} {x1 : Int32} {r : jMe} (hq : q < 8) (H : c_X3_readEither_s F k q m x0 x1 = some r), jH X l d (jms_X3_readEither q) [.inr (.inr x0), .inl x1] m none r := by
  intro k
  induction k with
  | zero =>
    intro d hd q m x0 x1 r hq H
    cases H
  | succ k ih =>
    intro d hd q m x0 x1 r hq H
    match q, hq, H with
    | 0, _, H => exact ec_X3_readEither_b O (by omega) (dG := 11 + k) (by omega) (G := fun q m x0 x1 => c_X3_readEither_s F k q m x0 x1) (fun q m x0 x1 r hq H => ih (Nat.le_refl _) hq H) H
    | 1, _, H => exact ec_X3_readBoth_b O (by omega) (dG := 11 + k) (by omega) (G := fun q m x0 x1 => c_X3_readEither_s F k q m x0 x1) (fun q m x0 x1 r hq H => ih (Nat.le_refl _) hq H) H
    | 2, _, H => exact ec_X3_readDenied_b O (by omega) (dG := 11 + k) (by omega) (G := fun q m x0 x1 => c_X3_readEither_s F k q m x0 x1) (fun q m x0 x1 r hq H => ih (Nat.le_refl _) hq H) H
    | 3, _, H => exact ec_X3_readCompared_b O (by omega) (dG := 11 + k) (by omega) (G := fun q m x0 x1 => c_X3_readEither_s F k q m x0 x1) (fun q m x0 x1 r hq H => ih (Nat.le_refl _) hq H) H
    | 4, _, H => exact ec_X3_readSum_b O (by omega) (dG := 11 + k) (by omega) (G := fun q m x0 x1 => c_X3_readEither_s F k q m x0 x1) (fun q m x0 x1 r hq H => ih (Nat.le_refl _) hq H) H
    | 5, _, H => exact ec_X3_readTerm_b O (by omega) (dG := 11 + k) (by omega) (G := fun q m x0 x1 => c_X3_readEither_s F k q m x0 x1) (fun q m x0 x1 r hq H => ih (Nat.le_refl _) hq H) H
    | 6, _, H => exact ec_X3_readOne_b O (by omega) (dG := 11 + k) (by omega) (G := fun q m x0 x1 => c_X3_readEither_s F k q m x0 x1) (fun q m x0 x1 r hq H => ih (Nat.le_refl _) hq H) H
    | 7, _, H => exact ec_X3_readPlain_b O (by omega) (dG := 11 + k) (by omega) (G := fun q m x0 x1 => c_X3_readEither_s F k q m x0 x1) (fun q m x0 x1 r hq H => ih (Nat.le_refl _) hq H) H

def c_X3_read (F : Nat) (m : jMe) (x0 : Nat) : Option (Int32 × jMe) :=
  jgd (jK m x0 = 35) <| jb (c_X3_step F (jsI (jsI (jsI m x0 4 (0 : Int32)) x0 3 (0 : Int32)) x0 8 (-1 : Int32)) x0) fun t3 => jgd (jK t3 x0 = 35) <| jb (c_X3_expect F t3 x0 (4 : Int32)) fun t6 => jgd (jK t6 x0 = 35) <| jb (c_X3_readEither_s F 64 0 t6 x0 (0 : Int32)) fun t9 => jgd (jK t9 x0 = 35) <| jb (c_X3_expect F t9 x0 (59 : Int32)) fun t12 => jgd (jK t12 x0 = 35) <| jb (c_X3_expect F t12 x0 (1 : Int32)) fun t15 => jgd (jK t15 x0 = 35) <| some ((jI (jsI t15 x0 2 (0 : Int32)) x0 8), (jsI t15 x0 2 (0 : Int32)))
theorem ec_X3_read {X : jX} {l : Launch} {d : Nat} (O : jOk X) (hd : 76 ≤ d) {F : Nat} {m : jMe} {x0 : Nat} {r : Int32 × jMe} (H : c_X3_read F m x0 = some r) : jH X l d jm_X3_read [.inr (.inr x0)] m (some (.inl r.1)) r.2 := by
  refine jH.of jpl_RX3 rfl (Nat.le_of_ble_eq_true rfl) ?_
  show jS X l d jm_X3_read m _ _ (0, [(0, .inr (.inr x0))], [], m)
  unfold c_X3_read at H
  obtain ⟨w1, H⟩ := jgd_ok H
  refine jS.adv O [(.aload_n 0, 0, 0, 0, 0, 0, 0), (.iconst 0, 0, 0, 0, 0, (0 : Int32), 0), (.putfield 26, 0, 3, 4, 288, 0, 0), (.aload_n 0, 0, 0, 0, 0, 0, 0), (.iconst 0, 0, 0, 0, 0, (0 : Int32), 0), (.putfield 23, 0, 3, 3, 286, 0, 0), (.aload_n 0, 0, 0, 0, 0, 0, 0), (.iconst (-1), 0, 0, 0, 0, (-1 : Int32), 0), (.putfield 38, 0, 3, 8, 292, 0, 0), (.aload_n 0, 0, 0, 0, 0, 0, 0)] (pc' := 16) (ls' := [(0, .inr (.inr x0))]) (st' := [.inr (.inr x0)]) (m2 := (jsI (jsI (jsI m x0 4 (0 : Int32)) x0 3 (0 : Int32)) x0 8 (-1 : Int32))) (by decide +kernel) rfl ⟨w1, w1, w1, trivial⟩ ?_
  obtain ⟨t3, w2, H⟩ := jb_ok H
  refine jS.step (c' := (19, [(0, .inr (.inr x0))], [], t3)) (jSt.callV (c := 3) (As := []) (rest := []) O (ec_X3_step (d := 9) O (Nat.le_refl _) w2) w1 (by decide) rfl (by omega) jmw_X3_step jmv_X3_step jmn_X3_step (idx := 41) (jW_of 877 (by decide +kernel) rfl) (Nat.le_of_ble_eq_true rfl) (by decide +kernel)) ?_
  obtain ⟨w4, H⟩ := jgd_ok H
  refine jS.adv O [(.aload_n 0, 0, 0, 0, 0, 0, 0), (.iconst 4, 0, 0, 0, 0, (4 : Int32), 0)] (pc' := 21) (ls' := [(0, .inr (.inr x0))]) (st' := [.inl (4 : Int32), .inr (.inr x0)]) (m2 := t3) (by decide +kernel) rfl trivial ?_
  obtain ⟨t6, w5, H⟩ := jb_ok H
  refine jS.step (c' := (24, [(0, .inr (.inr x0))], [], t6)) (jSt.callV (c := 3) (As := [.inl (4 : Int32)]) (rest := []) O (ec_X3_expect (d := 10) O (Nat.le_refl _) w5) w4 (by decide) rfl (by omega) jmw_X3_expect jmv_X3_expect jmn_X3_expect (idx := 44) (jW_of 1023 (by decide +kernel) rfl) (Nat.le_of_ble_eq_true rfl) (by decide +kernel)) ?_
  obtain ⟨w7, H⟩ := jgd_ok H
  refine jS.adv O [(.aload_n 0, 0, 0, 0, 0, 0, 0), (.iconst 0, 0, 0, 0, 0, (0 : Int32), 0)] (pc' := 26) (ls' := [(0, .inr (.inr x0))]) (st' := [.inl (0 : Int32), .inr (.inr x0)]) (m2 := t6) (by decide +kernel) rfl trivial ?_
  obtain ⟨t9, w8, H⟩ := jb_ok H
  refine jS.step (c' := (29, [(0, .inr (.inr x0))], [], t9)) (jSt.callV (c := 3) (As := [.inl (0 : Int32)]) (rest := []) O (ec_X3_readEither_s (d := 75) O 64 (by decide) (q := 0) (by decide) w8) w7 (by decide) rfl (by omega) jmw_X3_readEither jmv_X3_readEither jmn_X3_readEither (idx := 48) (jW_of 1027 (by decide +kernel) rfl) (Nat.le_of_ble_eq_true rfl) (by decide +kernel)) ?_
  obtain ⟨w10, H⟩ := jgd_ok H
  refine jS.adv O [(.aload_n 0, 0, 0, 0, 0, 0, 0), (.bipush 59, 0, 0, 0, 0, (59 : Int32), 0)] (pc' := 32) (ls' := [(0, .inr (.inr x0))]) (st' := [.inl (59 : Int32), .inr (.inr x0)]) (m2 := t9) (by decide +kernel) rfl trivial ?_
  obtain ⟨t12, w11, H⟩ := jb_ok H
  refine jS.step (c' := (35, [(0, .inr (.inr x0))], [], t12)) (jSt.callV (c := 3) (As := [.inl (59 : Int32)]) (rest := []) O (ec_X3_expect (d := 10) O (Nat.le_refl _) w11) w10 (by decide) rfl (by omega) jmw_X3_expect jmv_X3_expect jmn_X3_expect (idx := 44) (jW_of 1023 (by decide +kernel) rfl) (Nat.le_of_ble_eq_true rfl) (by decide +kernel)) ?_
  obtain ⟨w13, H⟩ := jgd_ok H
  refine jS.adv O [(.aload_n 0, 0, 0, 0, 0, 0, 0), (.iconst 1, 0, 0, 0, 0, (1 : Int32), 0)] (pc' := 37) (ls' := [(0, .inr (.inr x0))]) (st' := [.inl (1 : Int32), .inr (.inr x0)]) (m2 := t12) (by decide +kernel) rfl trivial ?_
  obtain ⟨t15, w14, H⟩ := jb_ok H
  refine jS.step (c' := (40, [(0, .inr (.inr x0))], [], t15)) (jSt.callV (c := 3) (As := [.inl (1 : Int32)]) (rest := []) O (ec_X3_expect (d := 10) O (Nat.le_refl _) w14) w13 (by decide) rfl (by omega) jmw_X3_expect jmv_X3_expect jmn_X3_expect (idx := 44) (jW_of 1023 (by decide +kernel) rfl) (Nat.le_of_ble_eq_true rfl) (by decide +kernel)) ?_
  obtain ⟨w16, H⟩ := jgd_ok H
  refine jS.adv O [(.aload_n 0, 0, 0, 0, 0, 0, 0), (.iconst 0, 0, 0, 0, 0, (0 : Int32), 0), (.putfield 19, 0, 3, 2, 284, 0, 0), (.aload_n 0, 0, 0, 0, 0, 0, 0), (.getfield 38, 0, 3, 8, 292, 0, 0)] (pc' := 49) (ls' := [(0, .inr (.inr x0))]) (st' := [.inl (jI (jsI t15 x0 2 (0 : Int32)) x0 8)]) (m2 := (jsI t15 x0 2 (0 : Int32))) (by decide +kernel) rfl ⟨w16, w16, trivial⟩ ?_
  replace H := Option.some.inj H
  subst H
  exact jS.iret rfl (by decide +kernel)
