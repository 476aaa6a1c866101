/-! one of the JDK's methods by hand: String.checkIndex (its formatter is null or a reference) -/
def c_J0_checkIndex_df160 (F : Nat) (m : jMe) (x0 x1 : Int32) : Option Unit := jb (c_J3_checkIndex_8e157 F m x0 x1 0) fun _ => some ()
theorem ec_J0_checkIndex_df160 {X : jX} {l : Launch} {d : Nat} (O : jOk X) (hd : 3 ≤ d) {F : Nat} {m : jMe} {x0 x1 : Int32} {r : Unit} (H : c_J0_checkIndex_df160 F m x0 x1 = some r) : jH X l d jm_J0_checkIndex_df160 [.inl x0, .inl x1] m none m := by
  refine jH.of jpl_RJ0 rfl (Nat.le_of_ble_eq_true rfl) ?_
  show jS X l d jm_J0_checkIndex_df160 m _ _ (0, [(0, .inl x0), (1, .inl x1)], [], m)
  unfold c_J0_checkIndex_df160 at H
  obtain ⟨t, w, H⟩ := jb_ok H
  have w2 : c_J3_checkIndex_8e157 F m x0 x1 31 = some t := w
  refine jS.adv O [(.iload_n 0, 0, 0, 0, 0, 0, 0), (.iload_n 1, 0, 0, 0, 0, 0, 0)] (pc' := 2) (ls' := [(0, .inl x0), (1, .inl x1)]) (st' := [.inl x1, .inl x0]) (m2 := m) (by decide +kernel) rfl trivial ?_
  refine jS.gsf (idx := 1053) O (jW_of 922 (by decide +kernel) rfl) (by decide +kernel) ?_ ?_
  · refine jS.step (c' := (8, [(0, .inl x0), (1, .inl x1)], [.inl t], m)) (jSt.callS (As := [.inl x0, .inl x1, .inr (.inr 0)]) (rest := []) O (ec_J3_checkIndex_8e157 (d := 2) O (Nat.le_refl _) w) (by omega) jmw_J3_checkIndex_8e157 jmv_J3_checkIndex_8e157 jmn_J3_checkIndex_8e157 (idx := 1059) (jW_of 924 (by decide +kernel) rfl) (Nat.le_of_ble_eq_true rfl) (by decide +kernel)) ?_
    refine jS.adv O [(.pop, 0, 0, 0, 0, 0, 0)] (pc' := 9) (ls' := [(0, .inl x0), (1, .inl x1)]) (st' := []) (m2 := m) (by decide +kernel) rfl trivial ?_
    exact jS.vret rfl (by decide +kernel)
  · refine jS.step (c' := (8, [(0, .inl x0), (1, .inl x1)], [.inl t], m)) (jSt.callS (As := [.inl x0, .inl x1, .inr (.inr 31)]) (rest := []) O (ec_J3_checkIndex_8e157 (d := 2) O (Nat.le_refl _) w2) (by omega) jmw_J3_checkIndex_8e157 jmv_J3_checkIndex_8e157 jmn_J3_checkIndex_8e157 (idx := 1059) (jW_of 924 (by decide +kernel) rfl) (Nat.le_of_ble_eq_true rfl) (by decide +kernel)) ?_
    refine jS.adv O [(.pop, 0, 0, 0, 0, 0, 0)] (pc' := 9) (ls' := [(0, .inl x0), (1, .inl x1)]) (st' := []) (m2 := m) (by decide +kernel) rfl trivial ?_
    exact jS.vret rfl (by decide +kernel)
