/-! charAt -/
def c_J1_charAt_3b067 (F : Nat) (m : jMe) (x0 : Nat) (x1 : Int32) : Option (Int32) :=
  jgd (jK m x0 = 11) <| jb (c_J0_checkIndex_df160 F m x1 (Int32.ofNat (jZ m x0))) fun t3 => jgd (jin x1 (jZ m x0) = true) <| jgd (vp_nar .char (ji2c ((jI m x0 x1.toNatClampNeg) &&& (255 : Int32))) = (ji2c ((jI m x0 x1.toNatClampNeg) &&& (255 : Int32)))) <| some (ji2c ((jI m x0 x1.toNatClampNeg) &&& (255 : Int32)))
theorem ec_J1_charAt_3b067 {X : jX} {l : Launch} {d : Nat} (O : jOk X) (hd : 4 ≤ d) {F : Nat} {m : jMe} {x0 : Nat} {x1 : Int32} {r : Int32} (H : c_J1_charAt_3b067 F m x0 x1 = some r) : jH X l d jm_J1_charAt_3b067 [.inr (.inr x0), .inl x1] m (some (.inl r)) m := by
  refine jH.of jpl_RJ1 rfl (Nat.le_of_ble_eq_true rfl) ?_
  show jS X l d jm_J1_charAt_3b067 m _ _ (0, [(0, .inr (.inr x0)), (1, .inl x1)], [], m)
  unfold c_J1_charAt_3b067 at H
  obtain ⟨w1, H⟩ := jgd_ok H
  refine jS.adv O [(.iload_n 1, 0, 0, 0, 0, 0, 0), (.aload_n 0, 0, 0, 0, 0, 0, 0)] (pc' := 2) (ls' := [(0, .inr (.inr x0)), (1, .inl x1)]) (st' := [.inr (.inr x0), .inl x1]) (m2 := m) (by decide +kernel) rfl trivial ?_
  refine jS.step (c' := (3, [(0, .inr (.inr x0)), (1, .inl x1)], [.inl (Int32.ofNat (jZ m x0)), .inl x1], m)) (jSt.slen O w1 (by decide +kernel)) ?_
  obtain ⟨t3, w2, H⟩ := jb_ok H
  refine jS.step (c' := (6, [(0, .inr (.inr x0)), (1, .inl x1)], [], m)) (jSt.callS (As := [.inl x1, .inl (Int32.ofNat (jZ m x0))]) (rest := []) O (ec_J0_checkIndex_df160 (d := 3) O (Nat.le_refl _) w2) (by omega) jmw_J0_checkIndex_df160 jmv_J0_checkIndex_df160 jmn_J0_checkIndex_df160 (idx := 9) (jW_of 919 (by decide +kernel) rfl) (Nat.le_of_ble_eq_true rfl) (by decide +kernel)) ?_
  obtain ⟨w4, H⟩ := jgd_ok H
  refine jS.adv O [(.aload_n 0, 0, 0, 0, 0, 0, 0), (.iload_n 1, 0, 0, 0, 0, 0, 0)] (pc' := 8) (ls' := [(0, .inr (.inr x0)), (1, .inl x1)]) (st' := [.inl x1, .inr (.inr x0)]) (m2 := m) (by decide +kernel) rfl trivial ?_
  refine jS.step (c' := (9, [(0, .inr (.inr x0)), (1, .inl x1)], [.inl (jI m x0 x1.toNatClampNeg)], m)) (jSt.sbl O w1 (jib_ok w4) (by decide +kernel)) ?_
  obtain ⟨w5, H⟩ := jgd_ok H
  refine jS.adv O [(.sipush 255, 0, 0, 0, 0, (255 : Int32), 0), (.iand, 0, 0, 0, 0, 0, 0), (.i2c, 0, 0, 0, 0, 0, 0)] (pc' := 14) (ls' := [(0, .inr (.inr x0)), (1, .inl x1)]) (st' := [.inl (ji2c ((jI m x0 x1.toNatClampNeg) &&& (255 : Int32)))]) (m2 := m) (by decide +kernel) rfl trivial ?_
  replace H := Option.some.inj H
  subst H
  exact jS.cret rfl w5 (by decide +kernel)
def c_J0_charAt_5068e (F : Nat) (m : jMe) (x0 : Nat) (x1 : Int32) : Option (Int32) :=
  jgd (jK m x0 = 10) <| jb (c_J0_isLatin1_aae02 F m x0) fun t3 => (if t3 = 0 then none else jb (c_J1_charAt_3b067 F m (x0 + 8) x1) fun t6 => jgd (vp_nar .char t6 = t6) <| some t6)
theorem ec_J0_charAt_5068e {X : jX} {l : Launch} {d : Nat} (O : jOk X) (hd : 5 ≤ d) {F : Nat} {m : jMe} {x0 : Nat} {x1 : Int32} {r : Int32} (H : c_J0_charAt_5068e F m x0 x1 = some r) : jH X l d jm_J0_charAt_5068e [.inr (.inr x0), .inl x1] m (some (.inl r)) m := by
  refine jH.of jpl_RJ0 rfl (Nat.le_of_ble_eq_true rfl) ?_
  show jS X l d jm_J0_charAt_5068e m _ _ (0, [(0, .inr (.inr x0)), (1, .inl x1)], [], m)
  unfold c_J0_charAt_5068e at H
  obtain ⟨w1, H⟩ := jgd_ok H
  refine jS.adv O [(.aload_n 0, 0, 0, 0, 0, 0, 0)] (pc' := 1) (ls' := [(0, .inr (.inr x0)), (1, .inl x1)]) (st' := [.inr (.inr x0)]) (m2 := m) (by decide +kernel) rfl trivial ?_
  obtain ⟨t3, w2, H⟩ := jb_ok H
  refine jS.step (c' := (4, [(0, .inr (.inr x0)), (1, .inl x1)], [.inl t3], m)) (jSt.callT (As := []) (rest := []) O (ec_J0_isLatin1_aae02 (d := 2) O (Nat.le_refl _) w2) w1 rfl (by omega) jmw_J0_isLatin1_aae02 jmv_J0_isLatin1_aae02 jmn_J0_isLatin1_aae02 (idx := 492) (jW_of 912 (by decide +kernel) rfl) (Nat.le_of_ble_eq_true rfl) (by decide +kernel)) ?_
  refine jS.br (i := .ifCond .eq 12) (P := t3 = 0) (rest := []) rfl (by decide +kernel) (tgt := 16) (by decide) (fun c4 => ?_) (fun c4 => ?_)
  · replace H := jif_t c4 H
    refine jS.adv O [(.aload_n 0, 0, 0, 0, 0, 0, 0)] (pc' := 17) (ls' := [(0, .inr (.inr x0)), (1, .inl x1)]) (st' := [.inr (.inr x0)]) (m2 := m) (by decide +kernel) rfl trivial ?_
    refine jS.step (c' := (20, [(0, .inr (.inr x0)), (1, .inl x1)], [.inr (.inr (x0 + 8))], m)) (jSt.sval (idx := 9) O w1 (jW_of 2020 (by decide +kernel) rfl) (by decide +kernel)) ?_
    cases H
  · replace H := jif_f c4 H
    refine jS.adv O [(.aload_n 0, 0, 0, 0, 0, 0, 0)] (pc' := 8) (ls' := [(0, .inr (.inr x0)), (1, .inl x1)]) (st' := [.inr (.inr x0)]) (m2 := m) (by decide +kernel) rfl trivial ?_
    refine jS.step (c' := (11, [(0, .inr (.inr x0)), (1, .inl x1)], [.inr (.inr (x0 + 8))], m)) (jSt.sval (idx := 9) O w1 (jW_of 2020 (by decide +kernel) rfl) (by decide +kernel)) ?_
    refine jS.adv O [(.iload_n 1, 0, 0, 0, 0, 0, 0)] (pc' := 12) (ls' := [(0, .inr (.inr x0)), (1, .inl x1)]) (st' := [.inl x1, .inr (.inr (x0 + 8))]) (m2 := m) (by decide +kernel) rfl trivial ?_
    obtain ⟨t6, w5, H⟩ := jb_ok H
    refine jS.step (c' := (15, [(0, .inr (.inr x0)), (1, .inl x1)], [.inl t6], m)) (jSt.callS (As := [.inr (.inr (x0 + 8)), .inl x1]) (rest := []) O (ec_J1_charAt_3b067 (d := 4) O (Nat.le_refl _) w5) (by omega) jmw_J1_charAt_3b067 jmv_J1_charAt_3b067 jmn_J1_charAt_3b067 (idx := 495) (jW_of 916 (by decide +kernel) rfl) (Nat.le_of_ble_eq_true rfl) (by decide +kernel)) ?_
    obtain ⟨w7, H⟩ := jgd_ok H
    replace H := Option.some.inj H
    subst H
    exact jS.cret rfl w7 (by decide +kernel)
