/-! Join -/
def c_X2_init (F : Nat) (m : jMe) (x0 : Nat) : Option (jMe) :=
  jgd (¬ x0 = 0) <| jlet (jnew m (32 + 8) 0 (jnf 8)) fun m2 => jb (c_X8_init F m2 (32 + jN m)) fun t4 => jgd (jK t4 x0 = 34) <| jgd (¬ (32 : Int32) < 0 ∧ (32 : Int32).toNatClampNeg ≤ 10000) <| jlet (jnew (jsP t4 x0 0 (32 + jN m)) 2 (32 : Int32).toNatClampNeg (32 : Int32).toNatClampNeg) fun m7 => jgd (jK m7 x0 = 34) <| jgd (¬ (4 : Int32) < 0 ∧ (4 : Int32).toNatClampNeg ≤ 10000) <| jlet (jnew (jsP m7 x0 1 (32 + jN (jsP t4 x0 0 (32 + jN m)))) 2 (4 : Int32).toNatClampNeg (4 : Int32).toNatClampNeg) fun m10 => jgd (jK m10 x0 = 34) <| jgd (¬ (128 : Int32) < 0 ∧ (128 : Int32).toNatClampNeg ≤ 10000) <| jlet (jnew (jsP m10 x0 2 (32 + jN (jsP m7 x0 1 (32 + jN (jsP t4 x0 0 (32 + jN m)))))) 2 (128 : Int32).toNatClampNeg (128 : Int32).toNatClampNeg) fun m13 => jgd (jK m13 x0 = 34) <| jgd (¬ (32 : Int32) < 0 ∧ (32 : Int32).toNatClampNeg ≤ 10000) <| jlet (jnew (jsP m13 x0 3 (32 + jN (jsP m10 x0 2 (32 + jN (jsP m7 x0 1 (32 + jN (jsP t4 x0 0 (32 + jN m)))))))) 2 (32 : Int32).toNatClampNeg (32 : Int32).toNatClampNeg) fun m16 => jgd (jK m16 x0 = 34) <| jlet (jsL (jsI (jsP m16 x0 4 (32 + jN (jsP m13 x0 3 (32 + jN (jsP m10 x0 2 (32 + jN (jsP m7 x0 1 (32 + jN (jsP t4 x0 0 (32 + jN m)))))))))) x0 5 (0 : Int32)) x0 6 (0 : Int64)) fun m18 => jgd (jK m18 x0 = 34) <| jlet (jnew (jsI m18 x0 7 (0 : Int32)) (32 + 0) 0 (jnf 0)) fun m20 => jb (c_X0_init F m20 (32 + jN (jsI m18 x0 7 (0 : Int32)))) fun t22 => jgd (jK t22 x0 = 34) <| jgd (¬ (4 : Int32) < 0 ∧ (4 : Int32).toNatClampNeg ≤ 10000) <| jlet (jnew (jsP t22 x0 8 (32 + jN (jsI m18 x0 7 (0 : Int32)))) 1 (4 : Int32).toNatClampNeg (4 : Int32).toNatClampNeg) fun m25 => jgd (jK m25 x0 = 34) <| jgd (¬ (4 : Int32) < 0 ∧ (4 : Int32).toNatClampNeg ≤ 10000) <| jlet (jnew (jsP m25 x0 9 (32 + jN (jsP t22 x0 8 (32 + jN (jsI m18 x0 7 (0 : Int32)))))) 1 (4 : Int32).toNatClampNeg (4 : Int32).toNatClampNeg) fun m28 => jgd (jK m28 x0 = 34) <| jgd (¬ (4 : Int32) < 0 ∧ (4 : Int32).toNatClampNeg ≤ 10000) <| jlet (jnew (jsP m28 x0 10 (32 + jN (jsP m25 x0 9 (32 + jN (jsP t22 x0 8 (32 + jN (jsI m18 x0 7 (0 : Int32)))))))) 2 (4 : Int32).toNatClampNeg (4 : Int32).toNatClampNeg) fun m31 => jgd (jK m31 x0 = 34) <| jlet (jsI (jsP (jsP m31 x0 11 (32 + jN (jsP m28 x0 10 (32 + jN (jsP m25 x0 9 (32 + jN (jsP t22 x0 8 (32 + jN (jsI m18 x0 7 (0 : Int32)))))))))) x0 12 0) x0 13 (0 : Int32)) fun m33 => jgd (jK m33 x0 = 34) <| some (jsI (jsI (jsL (jsI m33 x0 14 (0 : Int32)) x0 15 (0 : Int64)) x0 16 (0 : Int32)) x0 17 (0 : Int32))
theorem ec_X2_init {X : jX} {l : Launch} {d : Nat} (O : jOk X) (hd : 3 ≤ d) {F : Nat} {m : jMe} {x0 : Nat} {r : jMe} (H : c_X2_init F m x0 = some r) : jH X l d jm_X2_init [.inr (.inr x0)] m none r := by
  refine jH.of jpl_RX2 rfl (Nat.le_of_ble_eq_true rfl) ?_
  show jS X l d jm_X2_init m _ _ (0, [(0, .inr (.inr x0))], [], m)
  unfold c_X2_init at H
  obtain ⟨w1, H⟩ := jgd_ok H
  refine jS.adv O [(.aload_n 0, 0, 0, 0, 0, 0, 0)] (pc' := 1) (ls' := [(0, .inr (.inr x0))]) (st' := [.inr (.inr x0)]) (m2 := m) (by decide +kernel) rfl trivial ?_
  refine jS.step (c' := (4, [(0, .inr (.inr x0))], [], m)) (jSt.obj (idx := 3) (by omega) w1 (jW_of 378 (by decide +kernel) rfl) (jW_of 267 (by decide +kernel) rfl) (jW_of 268 (by decide +kernel) rfl) (Nat.le_of_ble_eq_true rfl) (by decide +kernel)) ?_
  obtain ⟨m2, em2, H⟩ := jlet_ok H
  refine jS.adv O [(.aload_n 0, 0, 0, 0, 0, 0, 0), (.new 9, 0, 8, 379, 380, 0, 0)] (pc' := 8) (ls' := [(0, .inr (.inr x0))]) (st' := [.inr (.inr (32 + jN m)), .inr (.inr x0)]) (m2 := (jnew m (32 + 8) 0 (jnf 8))) (by decide +kernel) rfl trivial ?_
  refine jS.cast (c' := (8, [(0, .inr (.inr x0))], [.inr (.inr (32 + jN m)), .inr (.inr x0)], m2)) (by rw [em2]) ?_
  refine jS.adv O [(.dup, 0, 0, 0, 0, 0, 0)] (pc' := 9) (ls' := [(0, .inr (.inr x0))]) (st' := [.inr (.inr (32 + jN m)), .inr (.inr (32 + jN m)), .inr (.inr x0)]) (m2 := m2) (by decide +kernel) rfl trivial ?_
  obtain ⟨t4, w3, H⟩ := jb_ok H
  refine jS.step (c' := (12, [(0, .inr (.inr x0))], [.inr (.inr (32 + jN m)), .inr (.inr x0)], t4)) (jSt.callIN (As := []) (rest := [.inr (.inr (32 + jN m)), .inr (.inr x0)]) O (ec_X8_init (d := 2) O (Nat.le_refl _) w3) (by omega) (by omega) jmw_X8_init jmv_X8_init jmn_X8_init (host := "JoinDraws") (idx := 11) jln_JoinDraws_Join_11 (Nat.le_of_ble_eq_true rfl) (by decide +kernel)) ?_
  obtain ⟨w5, H⟩ := jgd_ok H
  obtain ⟨w6, H⟩ := jgd_ok H
  obtain ⟨m7, em7, H⟩ := jlet_ok H
  refine jS.adv O [(.putfield 12, 0, 2, 0, 424, 0, 0), (.aload_n 0, 0, 0, 0, 0, 0, 0), (.bipush 32, 0, 0, 0, 0, (32 : Int32), 0), (.newarray .long, 0, 2, 372, 0, 0, 0)] (pc' := 20) (ls' := [(0, .inr (.inr x0))]) (st' := [.inr (.inr (32 + jN (jsP t4 x0 0 (32 + jN m)))), .inr (.inr x0)]) (m2 := (jnew (jsP t4 x0 0 (32 + jN m)) 2 (32 : Int32).toNatClampNeg (32 : Int32).toNatClampNeg)) (by decide +kernel) rfl ⟨w5, w6, trivial⟩ ?_
  refine jS.cast (c' := (20, [(0, .inr (.inr x0))], [.inr (.inr (32 + jN (jsP t4 x0 0 (32 + jN m)))), .inr (.inr x0)], m7)) (by rw [em7]) ?_
  obtain ⟨w8, H⟩ := jgd_ok H
  obtain ⟨w9, H⟩ := jgd_ok H
  obtain ⟨m10, em10, H⟩ := jlet_ok H
  refine jS.adv O [(.putfield 18, 0, 2, 1, 426, 0, 0), (.aload_n 0, 0, 0, 0, 0, 0, 0), (.iconst 4, 0, 0, 0, 0, (4 : Int32), 0), (.newarray .long, 0, 2, 372, 0, 0, 0)] (pc' := 27) (ls' := [(0, .inr (.inr x0))]) (st' := [.inr (.inr (32 + jN (jsP m7 x0 1 (32 + jN (jsP t4 x0 0 (32 + jN m)))))), .inr (.inr x0)]) (m2 := (jnew (jsP m7 x0 1 (32 + jN (jsP t4 x0 0 (32 + jN m)))) 2 (4 : Int32).toNatClampNeg (4 : Int32).toNatClampNeg)) (by decide +kernel) rfl ⟨w8, w9, trivial⟩ ?_
  refine jS.cast (c' := (27, [(0, .inr (.inr x0))], [.inr (.inr (32 + jN (jsP m7 x0 1 (32 + jN (jsP t4 x0 0 (32 + jN m)))))), .inr (.inr x0)], m10)) (by rw [em10]) ?_
  obtain ⟨w11, H⟩ := jgd_ok H
  obtain ⟨w12, H⟩ := jgd_ok H
  obtain ⟨m13, em13, H⟩ := jlet_ok H
  refine jS.adv O [(.putfield 22, 0, 2, 2, 428, 0, 0), (.aload_n 0, 0, 0, 0, 0, 0, 0), (.sipush 128, 0, 0, 0, 0, (128 : Int32), 0), (.newarray .long, 0, 2, 372, 0, 0, 0)] (pc' := 36) (ls' := [(0, .inr (.inr x0))]) (st' := [.inr (.inr (32 + jN (jsP m10 x0 2 (32 + jN (jsP m7 x0 1 (32 + jN (jsP t4 x0 0 (32 + jN m)))))))), .inr (.inr x0)]) (m2 := (jnew (jsP m10 x0 2 (32 + jN (jsP m7 x0 1 (32 + jN (jsP t4 x0 0 (32 + jN m)))))) 2 (128 : Int32).toNatClampNeg (128 : Int32).toNatClampNeg)) (by decide +kernel) rfl ⟨w11, w12, trivial⟩ ?_
  refine jS.cast (c' := (36, [(0, .inr (.inr x0))], [.inr (.inr (32 + jN (jsP m10 x0 2 (32 + jN (jsP m7 x0 1 (32 + jN (jsP t4 x0 0 (32 + jN m)))))))), .inr (.inr x0)], m13)) (by rw [em13]) ?_
  obtain ⟨w14, H⟩ := jgd_ok H
  obtain ⟨w15, H⟩ := jgd_ok H
  obtain ⟨m16, em16, H⟩ := jlet_ok H
  refine jS.adv O [(.putfield 25, 0, 2, 3, 430, 0, 0), (.aload_n 0, 0, 0, 0, 0, 0, 0), (.bipush 32, 0, 0, 0, 0, (32 : Int32), 0), (.newarray .long, 0, 2, 372, 0, 0, 0)] (pc' := 44) (ls' := [(0, .inr (.inr x0))]) (st' := [.inr (.inr (32 + jN (jsP m13 x0 3 (32 + jN (jsP m10 x0 2 (32 + jN (jsP m7 x0 1 (32 + jN (jsP t4 x0 0 (32 + jN m)))))))))), .inr (.inr x0)]) (m2 := (jnew (jsP m13 x0 3 (32 + jN (jsP m10 x0 2 (32 + jN (jsP m7 x0 1 (32 + jN (jsP t4 x0 0 (32 + jN m)))))))) 2 (32 : Int32).toNatClampNeg (32 : Int32).toNatClampNeg)) (by decide +kernel) rfl ⟨w14, w15, trivial⟩ ?_
  refine jS.cast (c' := (44, [(0, .inr (.inr x0))], [.inr (.inr (32 + jN (jsP m13 x0 3 (32 + jN (jsP m10 x0 2 (32 + jN (jsP m7 x0 1 (32 + jN (jsP t4 x0 0 (32 + jN m)))))))))), .inr (.inr x0)], m16)) (by rw [em16]) ?_
  obtain ⟨w17, H⟩ := jgd_ok H
  obtain ⟨m18, em18, H⟩ := jlet_ok H
  refine jS.adv O [(.putfield 28, 0, 2, 4, 431, 0, 0), (.aload_n 0, 0, 0, 0, 0, 0, 0), (.iconst 0, 0, 0, 0, 0, (0 : Int32), 0), (.putfield 31, 0, 2, 5, 433, 0, 0), (.aload_n 0, 0, 0, 0, 0, 0, 0), (.lconst 0, 0, 0, 0, 0, 0, (0 : Int64)), (.putfield 35, 0, 2, 6, 435, 0, 0)] (pc' := 57) (ls' := [(0, .inr (.inr x0))]) (st' := []) (m2 := (jsL (jsI (jsP m16 x0 4 (32 + jN (jsP m13 x0 3 (32 + jN (jsP m10 x0 2 (32 + jN (jsP m7 x0 1 (32 + jN (jsP t4 x0 0 (32 + jN m)))))))))) x0 5 (0 : Int32)) x0 6 (0 : Int64))) (by decide +kernel) rfl ⟨w17, ⟨w17, Or.inl rfl⟩, w17, trivial⟩ ?_
  refine jS.cast (c' := (57, [(0, .inr (.inr x0))], [], m18)) (by rw [em18]) ?_
  obtain ⟨w19, H⟩ := jgd_ok H
  obtain ⟨m20, em20, H⟩ := jlet_ok H
  refine jS.adv O [(.aload_n 0, 0, 0, 0, 0, 0, 0), (.iconst 0, 0, 0, 0, 0, (0 : Int32), 0), (.putfield 39, 0, 2, 7, 437, 0, 0), (.aload_n 0, 0, 0, 0, 0, 0, 0), (.new 43, 0, 0, 422, 353, 0, 0)] (pc' := 66) (ls' := [(0, .inr (.inr x0))]) (st' := [.inr (.inr (32 + jN (jsI m18 x0 7 (0 : Int32)))), .inr (.inr x0)]) (m2 := (jnew (jsI m18 x0 7 (0 : Int32)) (32 + 0) 0 (jnf 0))) (by decide +kernel) rfl ⟨w19, trivial⟩ ?_
  refine jS.cast (c' := (66, [(0, .inr (.inr x0))], [.inr (.inr (32 + jN (jsI m18 x0 7 (0 : Int32)))), .inr (.inr x0)], m20)) (by rw [em20]) ?_
  refine jS.adv O [(.dup, 0, 0, 0, 0, 0, 0)] (pc' := 67) (ls' := [(0, .inr (.inr x0))]) (st' := [.inr (.inr (32 + jN (jsI m18 x0 7 (0 : Int32)))), .inr (.inr (32 + jN (jsI m18 x0 7 (0 : Int32)))), .inr (.inr x0)]) (m2 := m20) (by decide +kernel) rfl trivial ?_
  obtain ⟨t22, w21, H⟩ := jb_ok H
  refine jS.step (c' := (70, [(0, .inr (.inr x0))], [.inr (.inr (32 + jN (jsI m18 x0 7 (0 : Int32)))), .inr (.inr x0)], t22)) (jSt.callIN (As := []) (rest := [.inr (.inr (32 + jN (jsI m18 x0 7 (0 : Int32)))), .inr (.inr x0)]) O (ec_X0_init (d := 2) O (Nat.le_refl _) w21) (by omega) (by omega) jmw_X0_init jmv_X0_init jmn_X0_init (host := "JoinDraws") (idx := 45) jln_JoinDraws_Join_45 (Nat.le_of_ble_eq_true rfl) (by decide +kernel)) ?_
  obtain ⟨w23, H⟩ := jgd_ok H
  obtain ⟨w24, H⟩ := jgd_ok H
  obtain ⟨m25, em25, H⟩ := jlet_ok H
  refine jS.adv O [(.putfield 46, 0, 2, 8, 439, 0, 0), (.aload_n 0, 0, 0, 0, 0, 0, 0), (.iconst 4, 0, 0, 0, 0, (4 : Int32), 0), (.newarray .int, 0, 1, 313, 0, 0, 0)] (pc' := 77) (ls' := [(0, .inr (.inr x0))]) (st' := [.inr (.inr (32 + jN (jsP t22 x0 8 (32 + jN (jsI m18 x0 7 (0 : Int32)))))), .inr (.inr x0)]) (m2 := (jnew (jsP t22 x0 8 (32 + jN (jsI m18 x0 7 (0 : Int32)))) 1 (4 : Int32).toNatClampNeg (4 : Int32).toNatClampNeg)) (by decide +kernel) rfl ⟨w23, w24, trivial⟩ ?_
  refine jS.cast (c' := (77, [(0, .inr (.inr x0))], [.inr (.inr (32 + jN (jsP t22 x0 8 (32 + jN (jsI m18 x0 7 (0 : Int32)))))), .inr (.inr x0)], m25)) (by rw [em25]) ?_
  obtain ⟨w26, H⟩ := jgd_ok H
  obtain ⟨w27, H⟩ := jgd_ok H
  obtain ⟨m28, em28, H⟩ := jlet_ok H
  refine jS.adv O [(.putfield 50, 0, 2, 9, 440, 0, 0), (.aload_n 0, 0, 0, 0, 0, 0, 0), (.iconst 4, 0, 0, 0, 0, (4 : Int32), 0), (.newarray .int, 0, 1, 313, 0, 0, 0)] (pc' := 84) (ls' := [(0, .inr (.inr x0))]) (st' := [.inr (.inr (32 + jN (jsP m25 x0 9 (32 + jN (jsP t22 x0 8 (32 + jN (jsI m18 x0 7 (0 : Int32)))))))), .inr (.inr x0)]) (m2 := (jnew (jsP m25 x0 9 (32 + jN (jsP t22 x0 8 (32 + jN (jsI m18 x0 7 (0 : Int32)))))) 1 (4 : Int32).toNatClampNeg (4 : Int32).toNatClampNeg)) (by decide +kernel) rfl ⟨w26, w27, trivial⟩ ?_
  refine jS.cast (c' := (84, [(0, .inr (.inr x0))], [.inr (.inr (32 + jN (jsP m25 x0 9 (32 + jN (jsP t22 x0 8 (32 + jN (jsI m18 x0 7 (0 : Int32)))))))), .inr (.inr x0)], m28)) (by rw [em28]) ?_
  obtain ⟨w29, H⟩ := jgd_ok H
  obtain ⟨w30, H⟩ := jgd_ok H
  obtain ⟨m31, em31, H⟩ := jlet_ok H
  refine jS.adv O [(.putfield 54, 0, 2, 10, 441, 0, 0), (.aload_n 0, 0, 0, 0, 0, 0, 0), (.iconst 4, 0, 0, 0, 0, (4 : Int32), 0), (.newarray .long, 0, 2, 372, 0, 0, 0)] (pc' := 91) (ls' := [(0, .inr (.inr x0))]) (st' := [.inr (.inr (32 + jN (jsP m28 x0 10 (32 + jN (jsP m25 x0 9 (32 + jN (jsP t22 x0 8 (32 + jN (jsI m18 x0 7 (0 : Int32)))))))))), .inr (.inr x0)]) (m2 := (jnew (jsP m28 x0 10 (32 + jN (jsP m25 x0 9 (32 + jN (jsP t22 x0 8 (32 + jN (jsI m18 x0 7 (0 : Int32)))))))) 2 (4 : Int32).toNatClampNeg (4 : Int32).toNatClampNeg)) (by decide +kernel) rfl ⟨w29, w30, trivial⟩ ?_
  refine jS.cast (c' := (91, [(0, .inr (.inr x0))], [.inr (.inr (32 + jN (jsP m28 x0 10 (32 + jN (jsP m25 x0 9 (32 + jN (jsP t22 x0 8 (32 + jN (jsI m18 x0 7 (0 : Int32)))))))))), .inr (.inr x0)], m31)) (by rw [em31]) ?_
  obtain ⟨w32, H⟩ := jgd_ok H
  obtain ⟨m33, em33, H⟩ := jlet_ok H
  refine jS.adv O [(.putfield 57, 0, 2, 11, 442, 0, 0), (.aload_n 0, 0, 0, 0, 0, 0, 0), (.aconst_null, 0, 0, 0, 0, 0, 0), (.putfield 60, 0, 2, 12, 443, 0, 0), (.aload_n 0, 0, 0, 0, 0, 0, 0), (.iconst 0, 0, 0, 0, 0, (0 : Int32), 0), (.putfield 64, 0, 2, 13, 444, 0, 0)] (pc' := 104) (ls' := [(0, .inr (.inr x0))]) (st' := []) (m2 := (jsI (jsP (jsP m31 x0 11 (32 + jN (jsP m28 x0 10 (32 + jN (jsP m25 x0 9 (32 + jN (jsP t22 x0 8 (32 + jN (jsI m18 x0 7 (0 : Int32)))))))))) x0 12 0) x0 13 (0 : Int32))) (by decide +kernel) rfl ⟨w32, w32, w32, trivial⟩ ?_
  refine jS.cast (c' := (104, [(0, .inr (.inr x0))], [], m33)) (by rw [em33]) ?_
  obtain ⟨w34, H⟩ := jgd_ok H
  refine jS.adv O [(.aload_n 0, 0, 0, 0, 0, 0, 0), (.iconst 0, 0, 0, 0, 0, (0 : Int32), 0), (.putfield 67, 0, 2, 14, 445, 0, 0), (.aload_n 0, 0, 0, 0, 0, 0, 0), (.lconst 0, 0, 0, 0, 0, 0, (0 : Int64)), (.putfield 70, 0, 2, 15, 446, 0, 0), (.aload_n 0, 0, 0, 0, 0, 0, 0), (.iconst 0, 0, 0, 0, 0, (0 : Int32), 0), (.putfield 73, 0, 2, 16, 447, 0, 0), (.aload_n 0, 0, 0, 0, 0, 0, 0), (.iconst 0, 0, 0, 0, 0, (0 : Int32), 0), (.putfield 76, 0, 2, 17, 448, 0, 0)] (pc' := 124) (ls' := [(0, .inr (.inr x0))]) (st' := []) (m2 := (jsI (jsI (jsL (jsI m33 x0 14 (0 : Int32)) x0 15 (0 : Int64)) x0 16 (0 : Int32)) x0 17 (0 : Int32))) (by decide +kernel) rfl ⟨⟨w34, Or.inl rfl⟩, w34, w34, w34, trivial⟩ ?_
  replace H := Option.some.inj H
  subst H
  exact jS.vret rfl (by decide +kernel)
def c_X2_plus_j23 (F : Nat) (m : jMe) (y0 : Nat) (y1 : Int64) (y3 : Int64) (s0 : Int32) (s1 : Nat) : Option (Int64 × jMe) :=
  jgd (jK m s1 = 34) <| jgd (s0 = 0 ∨ s0 = 1) <| jgd (jK m y0 = 34) <| (if (jI (jsI m s1 5 s0) y0 5) = 0 then some ((y1 + y3), (jsI m s1 5 s0)) else some ((0 : Int64), (jsI m s1 5 s0)))
theorem ec_X2_plus_j23 {X : jX} {l : Launch} {d : Nat} (O : jOk X) (hd : 2 ≤ d) {F : Nat} {m0 m : jMe} {y0 : Nat} {y1 : Int64} {y3 : Int64} {s0 : Int32} {s1 : Nat} {r : Int64 × jMe} (H : c_X2_plus_j23 F m y0 y1 y3 s0 s1 = some r) : jS X l d jm_X2_plus m0 (some (.inr (.inl r.1))) r.2 (23, [(0, .inr (.inr y0)), (1, .inr (.inl y1)), (3, .inr (.inl y3))], [.inl s0, .inr (.inr s1)], m) := by
  unfold c_X2_plus_j23 at H
  obtain ⟨w3, H⟩ := jgd_ok H
  obtain ⟨w4, H⟩ := jgd_ok H
  obtain ⟨w5, H⟩ := jgd_ok H
  refine jS.adv O [(.putfield 31, 0, 2, 5, 433, 0, 0), (.aload_n 0, 0, 0, 0, 0, 0, 0), (.getfield 31, 0, 2, 5, 433, 0, 0)] (pc' := 30) (ls' := [(0, .inr (.inr y0)), (1, .inr (.inl y1)), (3, .inr (.inl y3))]) (st' := [.inl (jI (jsI m s1 5 s0) y0 5)]) (m2 := (jsI m s1 5 s0)) (by decide +kernel) rfl ⟨⟨w3, w4⟩, w5, trivial⟩ ?_
  refine jS.br (i := .ifCond .eq 7) (P := (jI (jsI m s1 5 s0) y0 5) = 0) (rest := []) rfl (by decide +kernel) (tgt := 37) (by decide) (fun c6 => ?_) (fun c6 => ?_)
  · replace H := jif_t c6 H
    refine jS.adv O [(.lload_n 1, 0, 0, 0, 0, 0, 0), (.lload_n 3, 0, 0, 0, 0, 0, 0), (.ladd, 0, 0, 0, 0, 0, 0)] (pc' := 40) (ls' := [(0, .inr (.inr y0)), (1, .inr (.inl y1)), (3, .inr (.inl y3))]) (st' := [.inr (.inl (y1 + y3))]) (m2 := (jsI m s1 5 s0)) (by decide +kernel) rfl trivial ?_
    replace H := Option.some.inj H
    subst H
    exact jS.lret rfl (by decide +kernel)
  · replace H := jif_f c6 H
    refine jS.adv O [(.lconst 0, 0, 0, 0, 0, 0, (0 : Int64)), (.goto 6, 0, 40, 0, 0, 0, 0)] (pc' := 40) (ls' := [(0, .inr (.inr y0)), (1, .inr (.inl y1)), (3, .inr (.inl y3))]) (st' := [.inr (.inl (0 : Int64))]) (m2 := (jsI m s1 5 s0)) (by decide +kernel) rfl trivial ?_
    replace H := Option.some.inj H
    subst H
    exact jS.lret rfl (by decide +kernel)
def c_X2_plus (F : Nat) (m : jMe) (x0 : Nat) (x1 : Int64) (x3 : Int64) : Option (Int64 × jMe) :=
  jgd (jK m x0 = 34) <| (if (jI m x0 5) = 0 then (if (lg_cmp x1 ((9223372036854775807 : Int64) - x3)) ≤ 0 then c_X2_plus_j23 F m x0 x1 x3 (0 : Int32) x0 else c_X2_plus_j23 F m x0 x1 x3 (1 : Int32) x0) else c_X2_plus_j23 F m x0 x1 x3 (1 : Int32) x0)
theorem ec_X2_plus {X : jX} {l : Launch} {d : Nat} (O : jOk X) (hd : 2 ≤ d) {F : Nat} {m : jMe} {x0 : Nat} {x1 : Int64} {x3 : Int64} {r : Int64 × jMe} (H : c_X2_plus F m x0 x1 x3 = some r) : jH X l d jm_X2_plus [.inr (.inr x0), .inr (.inl x1), .inr (.inl x3)] m (some (.inr (.inl r.1))) r.2 := by
  refine jH.of jpl_RX2 rfl (Nat.le_of_ble_eq_true rfl) ?_
  show jS X l d jm_X2_plus m _ _ (0, [(0, .inr (.inr x0)), (1, .inr (.inl x1)), (3, .inr (.inl x3))], [], m)
  unfold c_X2_plus at H
  obtain ⟨w1, H⟩ := jgd_ok H
  refine jS.adv O [(.aload_n 0, 0, 0, 0, 0, 0, 0), (.aload_n 0, 0, 0, 0, 0, 0, 0), (.getfield 31, 0, 2, 5, 433, 0, 0)] (pc' := 5) (ls' := [(0, .inr (.inr x0)), (1, .inr (.inl x1)), (3, .inr (.inl x3))]) (st' := [.inl (jI m x0 5), .inr (.inr x0)]) (m2 := m) (by decide +kernel) rfl ⟨w1, trivial⟩ ?_
  refine jS.br (i := .ifCond .ne 13) (P := ¬ (jI m x0 5) = 0) (rest := [.inr (.inr x0)]) rfl (by decide +kernel) (tgt := 18) (by decide) (fun c2 => ?_) (fun c2 => ?_)
  · replace H := jif_f c2 H
    refine jS.adv O [(.iconst 1, 0, 0, 0, 0, (1 : Int32), 0), (.goto 4, 0, 23, 0, 0, 0, 0)] (pc' := 23) (ls' := [(0, .inr (.inr x0)), (1, .inr (.inl x1)), (3, .inr (.inl x3))]) (st' := [.inl (1 : Int32), .inr (.inr x0)]) (m2 := m) (by decide +kernel) rfl trivial ?_
    refine jS.loc' [0, 1, 2] (ls' := [(0, .inr (.inr x0)), (1, .inr (.inl x1)), (3, .inr (.inl x3))]) rfl ?_
    exact ec_X2_plus_j23 O hd H
  · replace H := jif_t (Classical.not_not.mp c2) H
    refine jS.adv O [(.lload_n 1, 0, 0, 0, 0, 0, 0), (.ldc2_w 118, 0, 817, 0, 0, 0, (9223372036854775807 : Int64)), (.lload_n 3, 0, 0, 0, 0, 0, 0), (.lsub, 0, 0, 0, 0, 0, 0), (.lcmp, 0, 0, 0, 0, 0, 0)] (pc' := 15) (ls' := [(0, .inr (.inr x0)), (1, .inr (.inl x1)), (3, .inr (.inl x3))]) (st' := [.inl (lg_cmp x1 ((9223372036854775807 : Int64) - x3)), .inr (.inr x0)]) (m2 := m) (by decide +kernel) rfl trivial ?_
    refine jS.br (i := .ifCond .le 7) (P := (lg_cmp x1 ((9223372036854775807 : Int64) - x3)) ≤ 0) (rest := [.inr (.inr x0)]) rfl (by decide +kernel) (tgt := 22) (by decide) (fun c7 => ?_) (fun c7 => ?_)
    · replace H := jif_t c7 H
      refine jS.adv O [(.iconst 0, 0, 0, 0, 0, (0 : Int32), 0)] (pc' := 23) (ls' := [(0, .inr (.inr x0)), (1, .inr (.inl x1)), (3, .inr (.inl x3))]) (st' := [.inl (0 : Int32), .inr (.inr x0)]) (m2 := m) (by decide +kernel) rfl trivial ?_
      refine jS.loc' [0, 1, 2] (ls' := [(0, .inr (.inr x0)), (1, .inr (.inl x1)), (3, .inr (.inl x3))]) rfl ?_
      exact ec_X2_plus_j23 O hd H
    · replace H := jif_f c7 H
      refine jS.adv O [(.iconst 1, 0, 0, 0, 0, (1 : Int32), 0), (.goto 4, 0, 23, 0, 0, 0, 0)] (pc' := 23) (ls' := [(0, .inr (.inr x0)), (1, .inr (.inl x1)), (3, .inr (.inl x3))]) (st' := [.inl (1 : Int32), .inr (.inr x0)]) (m2 := m) (by decide +kernel) rfl trivial ?_
      refine jS.loc' [0, 1, 2] (ls' := [(0, .inr (.inr x0)), (1, .inr (.inl x1)), (3, .inr (.inl x3))]) rfl ?_
      exact ec_X2_plus_j23 O hd H
def c_X2_sumOf_l6_b (F : Nat) (B : jMe → Nat → Int32 → Int32 → Int32 → Int64 → Int32 → Option (jMe × Int64)) (m : jMe) (y0 : Nat) (y1 : Int32) (y2 : Int32) (y3 : Int32) (y4 : Int64) (y6 : Int32) : Option (jMe × Int64) :=
  jgd (jK m y0 = 34) <| jgd (jK m (jP m y0 12) = 5) <| jgd (jin y1 (jZ m (jP m y0 12)) = true) <| jgd (jK m (jP m (jP m y0 12) y1.toNatClampNeg) = 36) <| (if (jI m (jP m (jP m y0 12) y1.toNatClampNeg) 5) ≤ y6 then some (m, y4) else jgd (jin y1 (jZ m (jP m y0 12)) = true) <| jb (c_X4_matches F m (jP m (jP m y0 12) y1.toNatClampNeg) y6 y2 y3) fun t8 => (if t8 = 0 then B m y0 y1 y2 y3 y4 (y6 + (1 : Int32)) else jgd (jK m (jP m y0 1) = 2) <| jgd (jin ((y1 * (8 : Int32)) + y6) (jZ m (jP m y0 1)) = true) <| jb (c_X2_plus F m y0 y4 (jL m (jP m y0 1) ((y1 * (8 : Int32)) + y6).toNatClampNeg)) fun t13 => B t13.2 y0 y1 y2 y3 t13.1 (y6 + (1 : Int32))))
theorem ec_X2_sumOf_l6_b {X : jX} {l : Launch} {d : Nat} (O : jOk X) (hd : 3 ≤ d) {F : Nat} {m0 m' : jMe} {v : Option jAV} {B : jMe → Nat → Int32 → Int32 → Int32 → Int64 → Int32 → Option (jMe × Int64)} (hB : ∀ (m : jMe) (y0 : Nat) (y1 : Int32) (y2 : Int32) (y3 : Int32) (y4 : Int64) (y6 : Int32) (r : jMe × Int64), B m y0 y1 y2 y3 y4 y6 = some r → (jS X l d jm_X2_sumOf m0 v m' (62, [(4, .inr (.inl r.2))], [], r.1)) → jS X l d jm_X2_sumOf m0 v m' (6, [(0, .inr (.inr y0)), (1, .inl y1), (2, .inl y2), (3, .inl y3), (4, .inr (.inl y4)), (6, .inl y6)], [], m)) {m : jMe} {y0 : Nat} {y1 : Int32} {y2 : Int32} {y3 : Int32} {y4 : Int64} {y6 : Int32} {r : jMe × Int64} (H : c_X2_sumOf_l6_b F B m y0 y1 y2 y3 y4 y6 = some r) (h2 : jS X l d jm_X2_sumOf m0 v m' (62, [(4, .inr (.inl r.2))], [], r.1)) : jS X l d jm_X2_sumOf m0 v m' (6, [(0, .inr (.inr y0)), (1, .inl y1), (2, .inl y2), (3, .inl y3), (4, .inr (.inl y4)), (6, .inl y6)], [], m) := by
  unfold c_X2_sumOf_l6_b at H
  obtain ⟨w1, H⟩ := jgd_ok H
  obtain ⟨w2, H⟩ := jgd_ok H
  obtain ⟨w3, H⟩ := jgd_ok H
  obtain ⟨w4, H⟩ := jgd_ok H
  refine jS.adv O [(.iload 6, 0, 0, 0, 0, 0, 0), (.aload_n 0, 0, 0, 0, 0, 0, 0), (.getfield 60, 0, 2, 12, 443, 0, 0), (.iload_n 1, 0, 0, 0, 0, 0, 0), (.aaload, 0, 5, 0, 0, 0, 0), (.getfield 120, 0, 4, 5, 509, 0, 0)] (pc' := 17) (ls' := [(0, .inr (.inr y0)), (1, .inl y1), (2, .inl y2), (3, .inl y3), (4, .inr (.inl y4)), (6, .inl y6)]) (st' := [.inl (jI m (jP m (jP m y0 12) y1.toNatClampNeg) 5), .inl y6]) (m2 := m) (by decide +kernel) rfl ⟨w1, ⟨w2, jib_ok w3⟩, w4, trivial⟩ ?_
  refine jS.br (i := .if_icmp .ge 45) (P := (jI m (jP m (jP m y0 12) y1.toNatClampNeg) 5) ≤ y6) (rest := []) rfl (by decide +kernel) (tgt := 62) (by decide) (fun c5 => ?_) (fun c5 => ?_)
  · replace H := jif_t c5 H
    replace H := Option.some.inj H
    subst H
    refine jS.loc' [4] (ls' := [(4, .inr (.inl y4))]) rfl ?_
    exact h2
  · replace H := jif_f c5 H
    obtain ⟨w6, H⟩ := jgd_ok H
    refine jS.adv O [(.aload_n 0, 0, 0, 0, 0, 0, 0), (.getfield 60, 0, 2, 12, 443, 0, 0), (.iload_n 1, 0, 0, 0, 0, 0, 0), (.aaload, 0, 5, 0, 0, 0, 0), (.iload 6, 0, 0, 0, 0, 0, 0), (.iload_n 2, 0, 0, 0, 0, 0, 0), (.iload_n 3, 0, 0, 0, 0, 0, 0)] (pc' := 30) (ls' := [(0, .inr (.inr y0)), (1, .inl y1), (2, .inl y2), (3, .inl y3), (4, .inr (.inl y4)), (6, .inl y6)]) (st' := [.inl y3, .inl y2, .inl y6, .inr (.inr (jP m (jP m y0 12) y1.toNatClampNeg))]) (m2 := m) (by decide +kernel) rfl ⟨w1, ⟨w2, jib_ok w6⟩, trivial⟩ ?_
    obtain ⟨t8, w7, H⟩ := jb_ok H
    refine jS.step (c' := (33, [(0, .inr (.inr y0)), (1, .inl y1), (2, .inl y2), (3, .inl y3), (4, .inr (.inl y4)), (6, .inl y6)], [.inl t8], m)) (jSt.callV (c := 4) (As := [.inl y6, .inl y2, .inl y3]) (rest := []) O (ec_X4_matches (d := 2) O (Nat.le_refl _) w7) w4 (by decide) rfl (by omega) jmw_X4_matches jmv_X4_matches jmn_X4_matches (idx := 138) (jW_of 809 (by decide +kernel) rfl) (Nat.le_of_ble_eq_true rfl) (by decide +kernel)) ?_
    refine jS.br (i := .ifCond .eq 23) (P := t8 = 0) (rest := []) rfl (by decide +kernel) (tgt := 56) (by decide) (fun c9 => ?_) (fun c9 => ?_)
    · replace H := jif_t c9 H
      refine jS.adv O [(.iinc 6 1, 0, 0, 0, 0, (1 : Int32), 0), (.goto (-53), 0, 6, 0, 0, 0, 0)] (pc' := 6) (ls' := [(6, .inl (y6 + (1 : Int32))), (0, .inr (.inr y0)), (1, .inl y1), (2, .inl y2), (3, .inl y3), (4, .inr (.inl y4))]) (st' := []) (m2 := m) (by decide +kernel) rfl trivial ?_
      refine jS.loc' [1, 2, 3, 4, 5, 0] (ls' := [(0, .inr (.inr y0)), (1, .inl y1), (2, .inl y2), (3, .inl y3), (4, .inr (.inl y4)), (6, .inl (y6 + (1 : Int32)))]) rfl ?_
      exact hB _ _ _ _ _ _ _ _ H h2
    · replace H := jif_f c9 H
      obtain ⟨w10, H⟩ := jgd_ok H
      obtain ⟨w11, H⟩ := jgd_ok H
      refine jS.adv O [(.aload_n 0, 0, 0, 0, 0, 0, 0), (.lload 4, 0, 0, 0, 0, 0, 0), (.aload_n 0, 0, 0, 0, 0, 0, 0), (.getfield 18, 0, 2, 1, 426, 0, 0), (.iload_n 1, 0, 0, 0, 0, 0, 0), (.bipush 8, 0, 0, 0, 0, (8 : Int32), 0), (.imul, 0, 0, 0, 0, 0, 0), (.iload 6, 0, 0, 0, 0, 0, 0), (.iadd, 0, 0, 0, 0, 0, 0), (.laload, 0, 0, 0, 0, 0, 0)] (pc' := 51) (ls' := [(0, .inr (.inr y0)), (1, .inl y1), (2, .inl y2), (3, .inl y3), (4, .inr (.inl y4)), (6, .inl y6)]) (st' := [.inr (.inl (jL m (jP m y0 1) ((y1 * (8 : Int32)) + y6).toNatClampNeg)), .inr (.inl y4), .inr (.inr y0)]) (m2 := m) (by decide +kernel) rfl ⟨w1, ⟨w10, jib_ok w11⟩, trivial⟩ ?_
      obtain ⟨t13, w12, H⟩ := jb_ok H
      refine jS.step (c' := (54, [(0, .inr (.inr y0)), (1, .inl y1), (2, .inl y2), (3, .inl y3), (4, .inr (.inl y4)), (6, .inl y6)], [.inr (.inl t13.1)], t13.2)) (jSt.callV (c := 2) (As := [.inr (.inl y4), .inr (.inl (jL m (jP m y0 1) ((y1 * (8 : Int32)) + y6).toNatClampNeg))]) (rest := []) O (ec_X2_plus (d := 2) O (Nat.le_refl _) w12) w1 (by decide) rfl (by omega) jmw_X2_plus jmv_X2_plus jmn_X2_plus (idx := 142) (jW_of 813 (by decide +kernel) rfl) (Nat.le_of_ble_eq_true rfl) (by decide +kernel)) ?_
      refine jS.adv O [(.lstore 4, 0, 0, 0, 0, 0, 0), (.iinc 6 1, 0, 0, 0, 0, (1 : Int32), 0), (.goto (-53), 0, 6, 0, 0, 0, 0)] (pc' := 6) (ls' := [(6, .inl (y6 + (1 : Int32))), (4, .inr (.inl t13.1)), (0, .inr (.inr y0)), (1, .inl y1), (2, .inl y2), (3, .inl y3)]) (st' := []) (m2 := t13.2) (by decide +kernel) rfl trivial ?_
      refine jS.loc' [2, 3, 4, 5, 1, 0] (ls' := [(0, .inr (.inr y0)), (1, .inl y1), (2, .inl y2), (3, .inl y3), (4, .inr (.inl t13.1)), (6, .inl (y6 + (1 : Int32)))]) rfl ?_
      exact hB _ _ _ _ _ _ _ _ H h2
def c_X2_sumOf_l6 (F : Nat) : Nat → jMe → Nat → Int32 → Int32 → Int32 → Int64 → Int32 → Option (jMe × Int64)
  | 0, _, _, _, _, _, _, _ => none
  | n + 1, m, y0, y1, y2, y3, y4, y6 => c_X2_sumOf_l6_b F (fun m y0 y1 y2 y3 y4 y6 => c_X2_sumOf_l6 F n m y0 y1 y2 y3 y4 y6) m y0 y1 y2 y3 y4 y6
theorem ec_X2_sumOf_l6 {X : jX} {l : Launch} {d : Nat} (O : jOk X) (hd : 3 ≤ d) {F : Nat} {m0 m' : jMe} {v : Option jAV} : ∀ (n : Nat) {m : jMe} {y0 : Nat} {y1 : Int32} {y2 : Int32} {y3 : Int32} {y4 : Int64} {y6 : Int32} {r : jMe × Int64} (H : c_X2_sumOf_l6 F n m y0 y1 y2 y3 y4 y6 = some r) (h2 : jS X l d jm_X2_sumOf m0 v m' (62, [(4, .inr (.inl r.2))], [], r.1)), jS X l d jm_X2_sumOf m0 v m' (6, [(0, .inr (.inr y0)), (1, .inl y1), (2, .inl y2), (3, .inl y3), (4, .inr (.inl y4)), (6, .inl y6)], [], m) := by
  intro n
  induction n with
  | zero =>
    intro m y0 y1 y2 y3 y4 y6 r H h2
    cases (show none = some r from H)
  | succ n ih =>
    intro m y0 y1 y2 y3 y4 y6 r H h2
    exact ec_X2_sumOf_l6_b O hd (B := (fun m y0 y1 y2 y3 y4 y6 => c_X2_sumOf_l6 F n m y0 y1 y2 y3 y4 y6)) (fun m y0 y1 y2 y3 y4 y6 r H h2 => ih H h2) H h2
def c_X2_sumOf (F : Nat) (m : jMe) (x0 : Nat) (x1 : Int32) (x2 : Int32) (x3 : Int32) : Option (Int64 × jMe) :=
  jb (c_X2_sumOf_l6 F F m x0 x1 x2 x3 (0 : Int64) (0 : Int32)) fun e15 => some (e15.2, e15.1)
theorem ec_X2_sumOf {X : jX} {l : Launch} {d : Nat} (O : jOk X) (hd : 3 ≤ d) {F : Nat} {m : jMe} {x0 : Nat} {x1 : Int32} {x2 : Int32} {x3 : Int32} {r : Int64 × jMe} (H : c_X2_sumOf F m x0 x1 x2 x3 = some r) : jH X l d jm_X2_sumOf [.inr (.inr x0), .inl x1, .inl x2, .inl x3] m (some (.inr (.inl r.1))) r.2 := by
  refine jH.of jpl_RX2 rfl (Nat.le_of_ble_eq_true rfl) ?_
  show jS X l d jm_X2_sumOf m _ _ (0, [(0, .inr (.inr x0)), (1, .inl x1), (2, .inl x2), (3, .inl x3)], [], m)
  unfold c_X2_sumOf at H
  refine jS.adv O [(.lconst 0, 0, 0, 0, 0, 0, (0 : Int64)), (.lstore 4, 0, 0, 0, 0, 0, 0), (.iconst 0, 0, 0, 0, 0, (0 : Int32), 0), (.istore 6, 0, 0, 0, 0, 0, 0)] (pc' := 6) (ls' := [(6, .inl (0 : Int32)), (4, .inr (.inl (0 : Int64))), (0, .inr (.inr x0)), (1, .inl x1), (2, .inl x2), (3, .inl x3)]) (st' := []) (m2 := m) (by decide +kernel) rfl trivial ?_
  refine jS.loc' [2, 3, 4, 5, 1, 0] (ls' := [(0, .inr (.inr x0)), (1, .inl x1), (2, .inl x2), (3, .inl x3), (4, .inr (.inl (0 : Int64))), (6, .inl (0 : Int32))]) rfl ?_
  obtain ⟨e15, w16, H⟩ := jb_ok H
  refine ec_X2_sumOf_l6 O hd F w16 ?_
  refine jS.adv O [(.lload 4, 0, 0, 0, 0, 0, 0)] (pc' := 64) (ls' := [(4, .inr (.inl e15.2))]) (st' := [.inr (.inl e15.2)]) (m2 := e15.1) (by decide +kernel) rfl trivial ?_
  replace H := Option.some.inj H
  subst H
  exact jS.lret rfl (by decide +kernel)
def c_X2_times_j29 (F : Nat) (m : jMe) (y0 : Nat) (y1 : Int64) (y3 : Int64) (s0 : Int32) (s1 : Nat) : Option (Int64 × jMe) :=
  jgd (jK m s1 = 34) <| jgd (s0 = 0 ∨ s0 = 1) <| jgd (jK m y0 = 34) <| (if (jI (jsI m s1 5 s0) y0 5) = 0 then some ((y1 * y3), (jsI m s1 5 s0)) else some ((0 : Int64), (jsI m s1 5 s0)))
theorem ec_X2_times_j29 {X : jX} {l : Launch} {d : Nat} (O : jOk X) (hd : 2 ≤ d) {F : Nat} {m0 m : jMe} {y0 : Nat} {y1 : Int64} {y3 : Int64} {s0 : Int32} {s1 : Nat} {r : Int64 × jMe} (H : c_X2_times_j29 F m y0 y1 y3 s0 s1 = some r) : jS X l d jm_X2_times m0 (some (.inr (.inl r.1))) r.2 (29, [(0, .inr (.inr y0)), (1, .inr (.inl y1)), (3, .inr (.inl y3))], [.inl s0, .inr (.inr s1)], m) := by
  unfold c_X2_times_j29 at H
  obtain ⟨w3, H⟩ := jgd_ok H
  obtain ⟨w4, H⟩ := jgd_ok H
  obtain ⟨w5, H⟩ := jgd_ok H
  refine jS.adv O [(.putfield 31, 0, 2, 5, 433, 0, 0), (.aload_n 0, 0, 0, 0, 0, 0, 0), (.getfield 31, 0, 2, 5, 433, 0, 0)] (pc' := 36) (ls' := [(0, .inr (.inr y0)), (1, .inr (.inl y1)), (3, .inr (.inl y3))]) (st' := [.inl (jI (jsI m s1 5 s0) y0 5)]) (m2 := (jsI m s1 5 s0)) (by decide +kernel) rfl ⟨⟨w3, w4⟩, w5, trivial⟩ ?_
  refine jS.br (i := .ifCond .eq 7) (P := (jI (jsI m s1 5 s0) y0 5) = 0) (rest := []) rfl (by decide +kernel) (tgt := 43) (by decide) (fun c6 => ?_) (fun c6 => ?_)
  · replace H := jif_t c6 H
    refine jS.adv O [(.lload_n 1, 0, 0, 0, 0, 0, 0), (.lload_n 3, 0, 0, 0, 0, 0, 0), (.lmul, 0, 0, 0, 0, 0, 0)] (pc' := 46) (ls' := [(0, .inr (.inr y0)), (1, .inr (.inl y1)), (3, .inr (.inl y3))]) (st' := [.inr (.inl (y1 * y3))]) (m2 := (jsI m s1 5 s0)) (by decide +kernel) rfl trivial ?_
    replace H := Option.some.inj H
    subst H
    exact jS.lret rfl (by decide +kernel)
  · replace H := jif_f c6 H
    refine jS.adv O [(.lconst 0, 0, 0, 0, 0, 0, (0 : Int64)), (.goto 6, 0, 46, 0, 0, 0, 0)] (pc' := 46) (ls' := [(0, .inr (.inr y0)), (1, .inr (.inl y1)), (3, .inr (.inl y3))]) (st' := [.inr (.inl (0 : Int64))]) (m2 := (jsI m s1 5 s0)) (by decide +kernel) rfl trivial ?_
    replace H := Option.some.inj H
    subst H
    exact jS.lret rfl (by decide +kernel)
def c_X2_times (F : Nat) (m : jMe) (x0 : Nat) (x1 : Int64) (x3 : Int64) : Option (Int64 × jMe) :=
  jgd (jK m x0 = 34) <| (if (jI m x0 5) = 0 then (if (lg_cmp x3 (0 : Int64)) ≤ 0 then c_X2_times_j29 F m x0 x1 x3 (0 : Int32) x0 else jgd (¬ x3 = 0) <| (if (lg_cmp x1 ((9223372036854775807 : Int64) / x3)) ≤ 0 then c_X2_times_j29 F m x0 x1 x3 (0 : Int32) x0 else c_X2_times_j29 F m x0 x1 x3 (1 : Int32) x0)) else c_X2_times_j29 F m x0 x1 x3 (1 : Int32) x0)
theorem ec_X2_times {X : jX} {l : Launch} {d : Nat} (O : jOk X) (hd : 2 ≤ d) {F : Nat} {m : jMe} {x0 : Nat} {x1 : Int64} {x3 : Int64} {r : Int64 × jMe} (H : c_X2_times F m x0 x1 x3 = some r) : jH X l d jm_X2_times [.inr (.inr x0), .inr (.inl x1), .inr (.inl x3)] m (some (.inr (.inl r.1))) r.2 := by
  refine jH.of jpl_RX2 rfl (Nat.le_of_ble_eq_true rfl) ?_
  show jS X l d jm_X2_times m _ _ (0, [(0, .inr (.inr x0)), (1, .inr (.inl x1)), (3, .inr (.inl x3))], [], m)
  unfold c_X2_times at H
  obtain ⟨w1, H⟩ := jgd_ok H
  refine jS.adv O [(.aload_n 0, 0, 0, 0, 0, 0, 0), (.aload_n 0, 0, 0, 0, 0, 0, 0), (.getfield 31, 0, 2, 5, 433, 0, 0)] (pc' := 5) (ls' := [(0, .inr (.inr x0)), (1, .inr (.inl x1)), (3, .inr (.inl x3))]) (st' := [.inl (jI m x0 5), .inr (.inr x0)]) (m2 := m) (by decide +kernel) rfl ⟨w1, trivial⟩ ?_
  refine jS.br (i := .ifCond .ne 19) (P := ¬ (jI m x0 5) = 0) (rest := [.inr (.inr x0)]) rfl (by decide +kernel) (tgt := 24) (by decide) (fun c2 => ?_) (fun c2 => ?_)
  · replace H := jif_f c2 H
    refine jS.adv O [(.iconst 1, 0, 0, 0, 0, (1 : Int32), 0), (.goto 4, 0, 29, 0, 0, 0, 0)] (pc' := 29) (ls' := [(0, .inr (.inr x0)), (1, .inr (.inl x1)), (3, .inr (.inl x3))]) (st' := [.inl (1 : Int32), .inr (.inr x0)]) (m2 := m) (by decide +kernel) rfl trivial ?_
    refine jS.loc' [0, 1, 2] (ls' := [(0, .inr (.inr x0)), (1, .inr (.inl x1)), (3, .inr (.inl x3))]) rfl ?_
    exact ec_X2_times_j29 O hd H
  · replace H := jif_t (Classical.not_not.mp c2) H
    refine jS.adv O [(.lload_n 3, 0, 0, 0, 0, 0, 0), (.lconst 0, 0, 0, 0, 0, 0, (0 : Int64)), (.lcmp, 0, 0, 0, 0, 0, 0)] (pc' := 11) (ls' := [(0, .inr (.inr x0)), (1, .inr (.inl x1)), (3, .inr (.inl x3))]) (st' := [.inl (lg_cmp x3 (0 : Int64)), .inr (.inr x0)]) (m2 := m) (by decide +kernel) rfl trivial ?_
    refine jS.br (i := .ifCond .le 17) (P := (lg_cmp x3 (0 : Int64)) ≤ 0) (rest := [.inr (.inr x0)]) rfl (by decide +kernel) (tgt := 28) (by decide) (fun c7 => ?_) (fun c7 => ?_)
    · replace H := jif_t c7 H
      refine jS.adv O [(.iconst 0, 0, 0, 0, 0, (0 : Int32), 0)] (pc' := 29) (ls' := [(0, .inr (.inr x0)), (1, .inr (.inl x1)), (3, .inr (.inl x3))]) (st' := [.inl (0 : Int32), .inr (.inr x0)]) (m2 := m) (by decide +kernel) rfl trivial ?_
      refine jS.loc' [0, 1, 2] (ls' := [(0, .inr (.inr x0)), (1, .inr (.inl x1)), (3, .inr (.inl x3))]) rfl ?_
      exact ec_X2_times_j29 O hd H
    · replace H := jif_f c7 H
      obtain ⟨w8, H⟩ := jgd_ok H
      refine jS.adv O [(.lload_n 1, 0, 0, 0, 0, 0, 0), (.ldc2_w 118, 0, 817, 0, 0, 0, (9223372036854775807 : Int64)), (.lload_n 3, 0, 0, 0, 0, 0, 0), (.ldiv, 0, 0, 0, 0, 0, 0), (.lcmp, 0, 0, 0, 0, 0, 0)] (pc' := 21) (ls' := [(0, .inr (.inr x0)), (1, .inr (.inl x1)), (3, .inr (.inl x3))]) (st' := [.inl (lg_cmp x1 ((9223372036854775807 : Int64) / x3)), .inr (.inr x0)]) (m2 := m) (by decide +kernel) rfl ⟨w8, trivial⟩ ?_
      refine jS.br (i := .ifCond .le 7) (P := (lg_cmp x1 ((9223372036854775807 : Int64) / x3)) ≤ 0) (rest := [.inr (.inr x0)]) rfl (by decide +kernel) (tgt := 28) (by decide) (fun c9 => ?_) (fun c9 => ?_)
      · replace H := jif_t c9 H
        refine jS.adv O [(.iconst 0, 0, 0, 0, 0, (0 : Int32), 0)] (pc' := 29) (ls' := [(0, .inr (.inr x0)), (1, .inr (.inl x1)), (3, .inr (.inl x3))]) (st' := [.inl (0 : Int32), .inr (.inr x0)]) (m2 := m) (by decide +kernel) rfl trivial ?_
        refine jS.loc' [0, 1, 2] (ls' := [(0, .inr (.inr x0)), (1, .inr (.inl x1)), (3, .inr (.inl x3))]) rfl ?_
        exact ec_X2_times_j29 O hd H
      · replace H := jif_f c9 H
        refine jS.adv O [(.iconst 1, 0, 0, 0, 0, (1 : Int32), 0), (.goto 4, 0, 29, 0, 0, 0, 0)] (pc' := 29) (ls' := [(0, .inr (.inr x0)), (1, .inr (.inl x1)), (3, .inr (.inl x3))]) (st' := [.inl (1 : Int32), .inr (.inr x0)]) (m2 := m) (by decide +kernel) rfl trivial ?_
        refine jS.loc' [0, 1, 2] (ls' := [(0, .inr (.inr x0)), (1, .inr (.inl x1)), (3, .inr (.inl x3))]) rfl ?_
        exact ec_X2_times_j29 O hd H
def c_X2_weigh_l42_b (F : Nat) (B : jMe → Nat → Int32 → Int32 → Int64 → Int32 → Option (jMe × Nat × Int32 × Int32 × Int64)) (m : jMe) (y0 : Nat) (y1 : Int32) (y2 : Int32) (y3 : Int64) (y5 : Int32) : Option (jMe × Nat × Int32 × Int32 × Int64) :=
  (if (4 : Int32) ≤ y5 then some (m, y0, y1, y2, y3) else jgd (jK m y0 = 34) <| jgd (jK m (jP m y0 0) = 40) <| jgd (jK m (jP m (jP m y0 0) 1) = 1) <| jgd (jin y1 (jZ m (jP m (jP m y0 0) 1)) = true) <| jb (c_X9_isIn F m (jI m (jP m (jP m y0 0) 1) y1.toNatClampNeg) y5) fun t20 => (if t20 = 0 then B m y0 y1 y2 y3 (y5 + (1 : Int32)) else jgd (jK m (jP m y0 12) = 5) <| jgd (jin y1 (jZ m (jP m y0 12)) = true) <| jgd (jK m (jP m (jP m y0 12) y1.toNatClampNeg) = 36) <| jgd (jK m (jP m (jP m (jP m y0 12) y1.toNatClampNeg) 0) = 1) <| jgd (jin y2 (jZ m (jP m (jP m (jP m y0 12) y1.toNatClampNeg) 0)) = true) <| jgd (jin y1 (jZ m (jP m y0 12)) = true) <| jb (c_X2_sumOf F m y0 y5 (jI m (jP m (jP m (jP m y0 12) y1.toNatClampNeg) 0) y2.toNatClampNeg) (jI m (jP m (jP m y0 12) y1.toNatClampNeg) 4)) fun t29 => jgd (jK t29.2 y0 = 34) <| jgd (jK t29.2 (jP t29.2 y0 3) = 2) <| jgd (jin ((((y1 * (8 : Int32)) + y2) * (4 : Int32)) + y5) (jZ t29.2 (jP t29.2 y0 3)) = true) <| jb (c_X2_times F (jsL t29.2 (jP t29.2 y0 3) ((((y1 * (8 : Int32)) + y2) * (4 : Int32)) + y5).toNatClampNeg t29.1) y0 y3 t29.1) fun t34 => B t34.2 y0 y1 y2 t34.1 (y5 + (1 : Int32))))
theorem ec_X2_weigh_l42_b {X : jX} {l : Launch} {d : Nat} (O : jOk X) (hd : 4 ≤ d) {F : Nat} {m0 m' : jMe} {v : Option jAV} {B : jMe → Nat → Int32 → Int32 → Int64 → Int32 → Option (jMe × Nat × Int32 × Int32 × Int64)} (hB : ∀ (m : jMe) (y0 : Nat) (y1 : Int32) (y2 : Int32) (y3 : Int64) (y5 : Int32) (r : jMe × Nat × Int32 × Int32 × Int64), B m y0 y1 y2 y3 y5 = some r → (jS X l d jm_X2_weigh m0 v m' (125, [(0, .inr (.inr r.2.1)), (1, .inl r.2.2.1), (2, .inl r.2.2.2.1), (3, .inr (.inl r.2.2.2.2))], [], r.1)) → jS X l d jm_X2_weigh m0 v m' (42, [(0, .inr (.inr y0)), (1, .inl y1), (2, .inl y2), (3, .inr (.inl y3)), (5, .inl y5)], [], m)) {m : jMe} {y0 : Nat} {y1 : Int32} {y2 : Int32} {y3 : Int64} {y5 : Int32} {r : jMe × Nat × Int32 × Int32 × Int64} (H : c_X2_weigh_l42_b F B m y0 y1 y2 y3 y5 = some r) (h2 : jS X l d jm_X2_weigh m0 v m' (125, [(0, .inr (.inr r.2.1)), (1, .inl r.2.2.1), (2, .inl r.2.2.2.1), (3, .inr (.inl r.2.2.2.2))], [], r.1)) : jS X l d jm_X2_weigh m0 v m' (42, [(0, .inr (.inr y0)), (1, .inl y1), (2, .inl y2), (3, .inr (.inl y3)), (5, .inl y5)], [], m) := by
  unfold c_X2_weigh_l42_b at H
  refine jS.adv O [(.iload 5, 0, 0, 0, 0, 0, 0), (.iconst 4, 0, 0, 0, 0, (4 : Int32), 0)] (pc' := 45) (ls' := [(0, .inr (.inr y0)), (1, .inl y1), (2, .inl y2), (3, .inr (.inl y3)), (5, .inl y5)]) (st' := [.inl (4 : Int32), .inl y5]) (m2 := m) (by decide +kernel) rfl trivial ?_
  refine jS.br (i := .if_icmp .ge 80) (P := (4 : Int32) ≤ y5) (rest := []) rfl (by decide +kernel) (tgt := 125) (by decide) (fun c14 => ?_) (fun c14 => ?_)
  · replace H := jif_t c14 H
    replace H := Option.some.inj H
    subst H
    refine jS.loc' [0, 1, 2, 3] (ls' := [(0, .inr (.inr y0)), (1, .inl y1), (2, .inl y2), (3, .inr (.inl y3))]) rfl ?_
    exact h2
  · replace H := jif_f c14 H
    obtain ⟨w15, H⟩ := jgd_ok H
    obtain ⟨w16, H⟩ := jgd_ok H
    obtain ⟨w17, H⟩ := jgd_ok H
    obtain ⟨w18, H⟩ := jgd_ok H
    refine jS.adv O [(.aload_n 0, 0, 0, 0, 0, 0, 0), (.getfield 12, 0, 2, 0, 424, 0, 0), (.getfield 127, 0, 8, 1, 389, 0, 0), (.iload_n 1, 0, 0, 0, 0, 0, 0), (.iaload, 0, 1, 0, 0, 0, 0), (.iload 5, 0, 0, 0, 0, 0, 0)] (pc' := 59) (ls' := [(0, .inr (.inr y0)), (1, .inl y1), (2, .inl y2), (3, .inr (.inl y3)), (5, .inl y5)]) (st' := [.inl y5, .inl (jI m (jP m (jP m y0 0) 1) y1.toNatClampNeg)]) (m2 := m) (by decide +kernel) rfl ⟨w15, w16, ⟨w17, jib_ok w18⟩, trivial⟩ ?_
    obtain ⟨t20, w19, H⟩ := jb_ok H
    refine jS.step (c' := (62, [(0, .inr (.inr y0)), (1, .inl y1), (2, .inl y2), (3, .inr (.inl y3)), (5, .inl y5)], [.inl t20], m)) (jSt.callSN (As := [.inl (jI m (jP m (jP m y0 0) 1) y1.toNatClampNeg), .inl y5]) (rest := []) O (ec_X9_isIn (d := 2) O (Nat.le_refl _) w19) (by omega) jmw_X9_isIn jmv_X9_isIn jmn_X9_isIn (host := "JoinDraws") (idx := 83) jln_JoinDraws_Join_83 (Nat.le_of_ble_eq_true rfl) (by decide +kernel)) ?_
    refine jS.br (i := .ifCond .eq 57) (P := t20 = 0) (rest := []) rfl (by decide +kernel) (tgt := 119) (by decide) (fun c21 => ?_) (fun c21 => ?_)
    · replace H := jif_t c21 H
      refine jS.adv O [(.iinc 5 1, 0, 0, 0, 0, (1 : Int32), 0), (.goto (-80), 0, 42, 0, 0, 0, 0)] (pc' := 42) (ls' := [(5, .inl (y5 + (1 : Int32))), (0, .inr (.inr y0)), (1, .inl y1), (2, .inl y2), (3, .inr (.inl y3))]) (st' := []) (m2 := m) (by decide +kernel) rfl trivial ?_
      refine jS.loc' [1, 2, 3, 4, 0] (ls' := [(0, .inr (.inr y0)), (1, .inl y1), (2, .inl y2), (3, .inr (.inl y3)), (5, .inl (y5 + (1 : Int32)))]) rfl ?_
      exact hB _ _ _ _ _ _ _ H h2
    · replace H := jif_f c21 H
      obtain ⟨w22, H⟩ := jgd_ok H
      obtain ⟨w23, H⟩ := jgd_ok H
      obtain ⟨w24, H⟩ := jgd_ok H
      obtain ⟨w25, H⟩ := jgd_ok H
      obtain ⟨w26, H⟩ := jgd_ok H
      obtain ⟨w27, H⟩ := jgd_ok H
      refine jS.adv O [(.aload_n 0, 0, 0, 0, 0, 0, 0), (.iload 5, 0, 0, 0, 0, 0, 0), (.aload_n 0, 0, 0, 0, 0, 0, 0), (.getfield 60, 0, 2, 12, 443, 0, 0), (.iload_n 1, 0, 0, 0, 0, 0, 0), (.aaload, 0, 5, 0, 0, 0, 0), (.getfield 130, 0, 4, 0, 494, 0, 0), (.iload_n 2, 0, 0, 0, 0, 0, 0), (.iaload, 0, 1, 0, 0, 0, 0), (.aload_n 0, 0, 0, 0, 0, 0, 0), (.getfield 60, 0, 2, 12, 443, 0, 0), (.iload_n 1, 0, 0, 0, 0, 0, 0), (.aaload, 0, 5, 0, 0, 0, 0), (.getfield 133, 0, 4, 4, 506, 0, 0)] (pc' := 88) (ls' := [(0, .inr (.inr y0)), (1, .inl y1), (2, .inl y2), (3, .inr (.inl y3)), (5, .inl y5)]) (st' := [.inl (jI m (jP m (jP m y0 12) y1.toNatClampNeg) 4), .inl (jI m (jP m (jP m (jP m y0 12) y1.toNatClampNeg) 0) y2.toNatClampNeg), .inl y5, .inr (.inr y0)]) (m2 := m) (by decide +kernel) rfl ⟨w15, ⟨w22, jib_ok w23⟩, w24, ⟨w25, jib_ok w26⟩, w15, ⟨w22, jib_ok w27⟩, w24, trivial⟩ ?_
      obtain ⟨t29, w28, H⟩ := jb_ok H
      refine jS.step (c' := (91, [(0, .inr (.inr y0)), (1, .inl y1), (2, .inl y2), (3, .inr (.inl y3)), (5, .inl y5)], [.inr (.inl t29.1)], t29.2)) (jSt.callV (c := 2) (As := [.inl y5, .inl (jI m (jP m (jP m (jP m y0 12) y1.toNatClampNeg) 0) y2.toNatClampNeg), .inl (jI m (jP m (jP m y0 12) y1.toNatClampNeg) 4)]) (rest := []) O (ec_X2_sumOf (d := 3) O (Nat.le_refl _) w28) w15 (by decide) rfl (by omega) jmw_X2_sumOf jmv_X2_sumOf jmn_X2_sumOf (idx := 111) (jW_of 805 (by decide +kernel) rfl) (Nat.le_of_ble_eq_true rfl) (by decide +kernel)) ?_
      obtain ⟨w30, H⟩ := jgd_ok H
      obtain ⟨w31, H⟩ := jgd_ok H
      obtain ⟨w32, H⟩ := jgd_ok H
      refine jS.adv O [(.lstore 6, 0, 0, 0, 0, 0, 0), (.aload_n 0, 0, 0, 0, 0, 0, 0), (.getfield 25, 0, 2, 3, 430, 0, 0), (.iload_n 1, 0, 0, 0, 0, 0, 0), (.bipush 8, 0, 0, 0, 0, (8 : Int32), 0), (.imul, 0, 0, 0, 0, 0, 0), (.iload_n 2, 0, 0, 0, 0, 0, 0), (.iadd, 0, 0, 0, 0, 0, 0), (.iconst 4, 0, 0, 0, 0, (4 : Int32), 0), (.imul, 0, 0, 0, 0, 0, 0), (.iload 5, 0, 0, 0, 0, 0, 0), (.iadd, 0, 0, 0, 0, 0, 0), (.lload 6, 0, 0, 0, 0, 0, 0), (.lastore, 0, 0, 0, 0, 0, 0), (.aload_n 0, 0, 0, 0, 0, 0, 0), (.lload_n 3, 0, 0, 0, 0, 0, 0), (.lload 6, 0, 0, 0, 0, 0, 0)] (pc' := 115) (ls' := [(6, .inr (.inl t29.1)), (0, .inr (.inr y0)), (1, .inl y1), (2, .inl y2), (3, .inr (.inl y3)), (5, .inl y5)]) (st' := [.inr (.inl t29.1), .inr (.inl y3), .inr (.inr y0)]) (m2 := (jsL t29.2 (jP t29.2 y0 3) ((((y1 * (8 : Int32)) + y2) * (4 : Int32)) + y5).toNatClampNeg t29.1)) (by decide +kernel) rfl ⟨w30, ⟨w31, jib_ok w32⟩, trivial⟩ ?_
      obtain ⟨t34, w33, H⟩ := jb_ok H
      refine jS.step (c' := (118, [(6, .inr (.inl t29.1)), (0, .inr (.inr y0)), (1, .inl y1), (2, .inl y2), (3, .inr (.inl y3)), (5, .inl y5)], [.inr (.inl t34.1)], t34.2)) (jSt.callV (c := 2) (As := [.inr (.inl y3), .inr (.inl t29.1)]) (rest := []) O (ec_X2_times (d := 2) O (Nat.le_refl _) w33) w30 (by decide) rfl (by omega) jmw_X2_times jmv_X2_times jmn_X2_times (idx := 134) (jW_of 818 (by decide +kernel) rfl) (Nat.le_of_ble_eq_true rfl) (by decide +kernel)) ?_
      refine jS.adv O [(.lstore_n 3, 0, 0, 0, 0, 0, 0), (.iinc 5 1, 0, 0, 0, 0, (1 : Int32), 0), (.goto (-80), 0, 42, 0, 0, 0, 0)] (pc' := 42) (ls' := [(5, .inl (y5 + (1 : Int32))), (3, .inr (.inl t34.1)), (6, .inr (.inl t29.1)), (0, .inr (.inr y0)), (1, .inl y1), (2, .inl y2)]) (st' := []) (m2 := t34.2) (by decide +kernel) rfl trivial ?_
      refine jS.loc' [3, 4, 5, 1, 0] (ls' := [(0, .inr (.inr y0)), (1, .inl y1), (2, .inl y2), (3, .inr (.inl t34.1)), (5, .inl (y5 + (1 : Int32)))]) rfl ?_
      exact hB _ _ _ _ _ _ _ H h2
def c_X2_weigh_l42 (F : Nat) : Nat → jMe → Nat → Int32 → Int32 → Int64 → Int32 → Option (jMe × Nat × Int32 × Int32 × Int64)
  | 0, _, _, _, _, _, _ => none
  | n + 1, m, y0, y1, y2, y3, y5 => c_X2_weigh_l42_b F (fun m y0 y1 y2 y3 y5 => c_X2_weigh_l42 F n m y0 y1 y2 y3 y5) m y0 y1 y2 y3 y5
theorem ec_X2_weigh_l42 {X : jX} {l : Launch} {d : Nat} (O : jOk X) (hd : 4 ≤ d) {F : Nat} {m0 m' : jMe} {v : Option jAV} : ∀ (n : Nat) {m : jMe} {y0 : Nat} {y1 : Int32} {y2 : Int32} {y3 : Int64} {y5 : Int32} {r : jMe × Nat × Int32 × Int32 × Int64} (H : c_X2_weigh_l42 F n m y0 y1 y2 y3 y5 = some r) (h2 : jS X l d jm_X2_weigh m0 v m' (125, [(0, .inr (.inr r.2.1)), (1, .inl r.2.2.1), (2, .inl r.2.2.2.1), (3, .inr (.inl r.2.2.2.2))], [], r.1)), jS X l d jm_X2_weigh m0 v m' (42, [(0, .inr (.inr y0)), (1, .inl y1), (2, .inl y2), (3, .inr (.inl y3)), (5, .inl y5)], [], m) := by
  intro n
  induction n with
  | zero =>
    intro m y0 y1 y2 y3 y5 r H h2
    cases (show none = some r from H)
  | succ n ih =>
    intro m y0 y1 y2 y3 y5 r H h2
    exact ec_X2_weigh_l42_b O hd (B := (fun m y0 y1 y2 y3 y5 => c_X2_weigh_l42 F n m y0 y1 y2 y3 y5)) (fun m y0 y1 y2 y3 y5 r H h2 => ih H h2) H h2
def c_X2_weigh_l2_b (F : Nat) (B : jMe → Nat → Int32 → Int32 → Option (jMe)) (m : jMe) (y0 : Nat) (y1 : Int32) (y2 : Int32) : Option (jMe) :=
  jgd (jK m y0 = 34) <| jgd (jK m (jP m y0 12) = 5) <| jgd (jin y1 (jZ m (jP m y0 12)) = true) <| jgd (jK m (jP m (jP m y0 12) y1.toNatClampNeg) = 36) <| (if (jI m (jP m (jP m y0 12) y1.toNatClampNeg) 5) ≤ y2 then some (m) else jgd (jK m (jP m y0 9) = 1) <| jgd (jin y1 (jZ m (jP m y0 9)) = true) <| jb (c_X9_isIn F m (jI m (jP m y0 9) y1.toNatClampNeg) y2) fun t9 => (if t9 = 0 then B m y0 y1 (y2 + (1 : Int32)) else jgd (jin y1 (jZ m (jP m y0 12)) = true) <| jb (c_X4_worthOf F m (jP m (jP m y0 12) y1.toNatClampNeg) y2) fun t13 => jb (c_X2_weigh_l42 F F m y0 y1 y2 t13 (0 : Int32)) fun e36 => jgd (jK e36.1 e36.2.1 = 34) <| jgd (jK e36.1 (jP e36.1 e36.2.1 1) = 2) <| jgd (jin ((e36.2.2.1 * (8 : Int32)) + e36.2.2.2.1) (jZ e36.1 (jP e36.1 e36.2.1 1)) = true) <| B (jsL e36.1 (jP e36.1 e36.2.1 1) ((e36.2.2.1 * (8 : Int32)) + e36.2.2.2.1).toNatClampNeg e36.2.2.2.2) e36.2.1 e36.2.2.1 (e36.2.2.2.1 + (1 : Int32))))
theorem ec_X2_weigh_l2_b {X : jX} {l : Launch} {d : Nat} (O : jOk X) (hd : 4 ≤ d) {F : Nat} {m0 m' : jMe} {v : Option jAV} {B : jMe → Nat → Int32 → Int32 → Option (jMe)} (hB : ∀ (m : jMe) (y0 : Nat) (y1 : Int32) (y2 : Int32) (r : jMe), B m y0 y1 y2 = some r → (jS X l d jm_X2_weigh m0 v m' (143, [], [], r)) → jS X l d jm_X2_weigh m0 v m' (2, [(0, .inr (.inr y0)), (1, .inl y1), (2, .inl y2)], [], m)) {m : jMe} {y0 : Nat} {y1 : Int32} {y2 : Int32} {r : jMe} (H : c_X2_weigh_l2_b F B m y0 y1 y2 = some r) (h2 : jS X l d jm_X2_weigh m0 v m' (143, [], [], r)) : jS X l d jm_X2_weigh m0 v m' (2, [(0, .inr (.inr y0)), (1, .inl y1), (2, .inl y2)], [], m) := by
  unfold c_X2_weigh_l2_b at H
  obtain ⟨w1, H⟩ := jgd_ok H
  obtain ⟨w2, H⟩ := jgd_ok H
  obtain ⟨w3, H⟩ := jgd_ok H
  obtain ⟨w4, H⟩ := jgd_ok H
  refine jS.adv O [(.iload_n 2, 0, 0, 0, 0, 0, 0), (.aload_n 0, 0, 0, 0, 0, 0, 0), (.getfield 60, 0, 2, 12, 443, 0, 0), (.iload_n 1, 0, 0, 0, 0, 0, 0), (.aaload, 0, 5, 0, 0, 0, 0), (.getfield 120, 0, 4, 5, 509, 0, 0)] (pc' := 12) (ls' := [(0, .inr (.inr y0)), (1, .inl y1), (2, .inl y2)]) (st' := [.inl (jI m (jP m (jP m y0 12) y1.toNatClampNeg) 5), .inl y2]) (m2 := m) (by decide +kernel) rfl ⟨w1, ⟨w2, jib_ok w3⟩, w4, trivial⟩ ?_
  refine jS.br (i := .if_icmp .ge 131) (P := (jI m (jP m (jP m y0 12) y1.toNatClampNeg) 5) ≤ y2) (rest := []) rfl (by decide +kernel) (tgt := 143) (by decide) (fun c5 => ?_) (fun c5 => ?_)
  · replace H := jif_t c5 H
    replace H := Option.some.inj H
    subst H
    refine jS.loc' [] (ls' := []) rfl ?_
    exact h2
  · replace H := jif_f c5 H
    obtain ⟨w6, H⟩ := jgd_ok H
    obtain ⟨w7, H⟩ := jgd_ok H
    refine jS.adv O [(.aload_n 0, 0, 0, 0, 0, 0, 0), (.getfield 50, 0, 2, 9, 440, 0, 0), (.iload_n 1, 0, 0, 0, 0, 0, 0), (.iaload, 0, 1, 0, 0, 0, 0), (.iload_n 2, 0, 0, 0, 0, 0, 0)] (pc' := 22) (ls' := [(0, .inr (.inr y0)), (1, .inl y1), (2, .inl y2)]) (st' := [.inl y2, .inl (jI m (jP m y0 9) y1.toNatClampNeg)]) (m2 := m) (by decide +kernel) rfl ⟨w1, ⟨w6, jib_ok w7⟩, trivial⟩ ?_
    obtain ⟨t9, w8, H⟩ := jb_ok H
    refine jS.step (c' := (25, [(0, .inr (.inr y0)), (1, .inl y1), (2, .inl y2)], [.inl t9], m)) (jSt.callSN (As := [.inl (jI m (jP m y0 9) y1.toNatClampNeg), .inl y2]) (rest := []) O (ec_X9_isIn (d := 2) O (Nat.le_refl _) w8) (by omega) jmw_X9_isIn jmv_X9_isIn jmn_X9_isIn (host := "JoinDraws") (idx := 83) jln_JoinDraws_Join_83 (Nat.le_of_ble_eq_true rfl) (by decide +kernel)) ?_
    refine jS.br (i := .ifCond .eq 112) (P := t9 = 0) (rest := []) rfl (by decide +kernel) (tgt := 137) (by decide) (fun c10 => ?_) (fun c10 => ?_)
    · replace H := jif_t c10 H
      refine jS.adv O [(.iinc 2 1, 0, 0, 0, 0, (1 : Int32), 0), (.goto (-138), 0, 2, 0, 0, 0, 0)] (pc' := 2) (ls' := [(2, .inl (y2 + (1 : Int32))), (0, .inr (.inr y0)), (1, .inl y1)]) (st' := []) (m2 := m) (by decide +kernel) rfl trivial ?_
      refine jS.loc' [1, 2, 0] (ls' := [(0, .inr (.inr y0)), (1, .inl y1), (2, .inl (y2 + (1 : Int32)))]) rfl ?_
      exact hB _ _ _ _ _ H h2
    · replace H := jif_f c10 H
      obtain ⟨w11, H⟩ := jgd_ok H
      refine jS.adv O [(.aload_n 0, 0, 0, 0, 0, 0, 0), (.getfield 60, 0, 2, 12, 443, 0, 0), (.iload_n 1, 0, 0, 0, 0, 0, 0), (.aaload, 0, 5, 0, 0, 0, 0), (.iload_n 2, 0, 0, 0, 0, 0, 0)] (pc' := 35) (ls' := [(0, .inr (.inr y0)), (1, .inl y1), (2, .inl y2)]) (st' := [.inl y2, .inr (.inr (jP m (jP m y0 12) y1.toNatClampNeg))]) (m2 := m) (by decide +kernel) rfl ⟨w1, ⟨w2, jib_ok w11⟩, trivial⟩ ?_
      obtain ⟨t13, w12, H⟩ := jb_ok H
      refine jS.step (c' := (38, [(0, .inr (.inr y0)), (1, .inl y1), (2, .inl y2)], [.inr (.inl t13)], m)) (jSt.callV (c := 4) (As := [.inl y2]) (rest := []) O (ec_X4_worthOf (d := 2) O (Nat.le_refl _) w12) w4 (by decide) rfl (by omega) jmw_X4_worthOf jmv_X4_worthOf jmn_X4_worthOf (idx := 123) (jW_of 804 (by decide +kernel) rfl) (Nat.le_of_ble_eq_true rfl) (by decide +kernel)) ?_
      refine jS.adv O [(.lstore_n 3, 0, 0, 0, 0, 0, 0), (.iconst 0, 0, 0, 0, 0, (0 : Int32), 0), (.istore 5, 0, 0, 0, 0, 0, 0)] (pc' := 42) (ls' := [(5, .inl (0 : Int32)), (3, .inr (.inl t13)), (0, .inr (.inr y0)), (1, .inl y1), (2, .inl y2)]) (st' := []) (m2 := m) (by decide +kernel) rfl trivial ?_
      refine jS.loc' [2, 3, 4, 1, 0] (ls' := [(0, .inr (.inr y0)), (1, .inl y1), (2, .inl y2), (3, .inr (.inl t13)), (5, .inl (0 : Int32))]) rfl ?_
      obtain ⟨e36, w37, H⟩ := jb_ok H
      refine ec_X2_weigh_l42 O hd F w37 ?_
      obtain ⟨w38, H⟩ := jgd_ok H
      obtain ⟨w39, H⟩ := jgd_ok H
      obtain ⟨w40, H⟩ := jgd_ok H
      refine jS.adv O [(.aload_n 0, 0, 0, 0, 0, 0, 0), (.getfield 18, 0, 2, 1, 426, 0, 0), (.iload_n 1, 0, 0, 0, 0, 0, 0), (.bipush 8, 0, 0, 0, 0, (8 : Int32), 0), (.imul, 0, 0, 0, 0, 0, 0), (.iload_n 2, 0, 0, 0, 0, 0, 0), (.iadd, 0, 0, 0, 0, 0, 0), (.lload_n 3, 0, 0, 0, 0, 0, 0), (.lastore, 0, 0, 0, 0, 0, 0), (.iinc 2 1, 0, 0, 0, 0, (1 : Int32), 0), (.goto (-138), 0, 2, 0, 0, 0, 0)] (pc' := 2) (ls' := [(2, .inl (e36.2.2.2.1 + (1 : Int32))), (0, .inr (.inr e36.2.1)), (1, .inl e36.2.2.1), (3, .inr (.inl e36.2.2.2.2))]) (st' := []) (m2 := (jsL e36.1 (jP e36.1 e36.2.1 1) ((e36.2.2.1 * (8 : Int32)) + e36.2.2.2.1).toNatClampNeg e36.2.2.2.2)) (by decide +kernel) rfl ⟨w38, ⟨w39, jib_ok w40⟩, trivial⟩ ?_
      refine jS.loc' [1, 2, 0] (ls' := [(0, .inr (.inr e36.2.1)), (1, .inl e36.2.2.1), (2, .inl (e36.2.2.2.1 + (1 : Int32)))]) rfl ?_
      exact hB _ _ _ _ _ H h2
def c_X2_weigh_l2 (F : Nat) : Nat → jMe → Nat → Int32 → Int32 → Option (jMe)
  | 0, _, _, _, _ => none
  | n + 1, m, y0, y1, y2 => c_X2_weigh_l2_b F (fun m y0 y1 y2 => c_X2_weigh_l2 F n m y0 y1 y2) m y0 y1 y2
theorem ec_X2_weigh_l2 {X : jX} {l : Launch} {d : Nat} (O : jOk X) (hd : 4 ≤ d) {F : Nat} {m0 m' : jMe} {v : Option jAV} : ∀ (n : Nat) {m : jMe} {y0 : Nat} {y1 : Int32} {y2 : Int32} {r : jMe} (H : c_X2_weigh_l2 F n m y0 y1 y2 = some r) (h2 : jS X l d jm_X2_weigh m0 v m' (143, [], [], r)), jS X l d jm_X2_weigh m0 v m' (2, [(0, .inr (.inr y0)), (1, .inl y1), (2, .inl y2)], [], m) := by
  intro n
  induction n with
  | zero =>
    intro m y0 y1 y2 r H h2
    cases (show none = some r from H)
  | succ n ih =>
    intro m y0 y1 y2 r H h2
    exact ec_X2_weigh_l2_b O hd (B := (fun m y0 y1 y2 => c_X2_weigh_l2 F n m y0 y1 y2)) (fun m y0 y1 y2 r H h2 => ih H h2) H h2
def c_X2_weigh (F : Nat) (m : jMe) (x0 : Nat) (x1 : Int32) : Option (jMe) :=
  jb (c_X2_weigh_l2 F F m x0 x1 (0 : Int32)) fun e42 => some e42
theorem ec_X2_weigh {X : jX} {l : Launch} {d : Nat} (O : jOk X) (hd : 4 ≤ d) {F : Nat} {m : jMe} {x0 : Nat} {x1 : Int32} {r : jMe} (H : c_X2_weigh F m x0 x1 = some r) : jH X l d jm_X2_weigh [.inr (.inr x0), .inl x1] m none r := by
  refine jH.of jpl_RX2 rfl (Nat.le_of_ble_eq_true rfl) ?_
  show jS X l d jm_X2_weigh m _ _ (0, [(0, .inr (.inr x0)), (1, .inl x1)], [], m)
  unfold c_X2_weigh at H
  refine jS.adv O [(.iconst 0, 0, 0, 0, 0, (0 : Int32), 0), (.istore_n 2, 0, 0, 0, 0, 0, 0)] (pc' := 2) (ls' := [(2, .inl (0 : Int32)), (0, .inr (.inr x0)), (1, .inl x1)]) (st' := []) (m2 := m) (by decide +kernel) rfl trivial ?_
  refine jS.loc' [1, 2, 0] (ls' := [(0, .inr (.inr x0)), (1, .inl x1), (2, .inl (0 : Int32))]) rfl ?_
  obtain ⟨e42, w43, H⟩ := jb_ok H
  refine ec_X2_weigh_l2 O hd F w43 ?_
  replace H := Option.some.inj H
  subst H
  exact jS.vret rfl (by decide +kernel)
def c_X2_worthsAhead_l6_b (F : Nat) (B : Nat → Int32 → Int32 → Int32 → Int32 → Int64 → Int32 → Option (Int64)) (m : jMe) (y0 : Nat) (y1 : Int32) (y2 : Int32) (y3 : Int32) (y4 : Int32) (y5 : Int64) (y7 : Int32) : Option (Int64) :=
  jgd (jK m y0 = 34) <| jgd (jK m (jP m y0 12) = 5) <| jgd (jin y1 (jZ m (jP m y0 12)) = true) <| jgd (jK m (jP m (jP m y0 12) y1.toNatClampNeg) = 36) <| (if (jI m (jP m (jP m y0 12) y1.toNatClampNeg) 5) ≤ y7 then some (y5) else (if y2 ≤ y7 then some (y5) else jgd (jK m (jP m y0 9) = 1) <| jgd (jin y1 (jZ m (jP m y0 9)) = true) <| jb (c_X9_isIn F m (jI m (jP m y0 9) y1.toNatClampNeg) y7) fun t10 => (if t10 = 0 then B y0 y1 y2 y3 y4 y5 (y7 + (1 : Int32)) else jgd (jin y1 (jZ m (jP m y0 12)) = true) <| jb (c_X4_matches F m (jP m (jP m y0 12) y1.toNatClampNeg) y7 y3 y4) fun t14 => (if t14 = 0 then B y0 y1 y2 y3 y4 y5 (y7 + (1 : Int32)) else jgd (jin y1 (jZ m (jP m y0 12)) = true) <| jb (c_X4_worthOf F m (jP m (jP m y0 12) y1.toNatClampNeg) y7) fun t18 => B y0 y1 y2 y3 y4 (y5 + t18) (y7 + (1 : Int32))))))
theorem ec_X2_worthsAhead_l6_b {X : jX} {l : Launch} {d : Nat} (O : jOk X) (hd : 3 ≤ d) {F : Nat} {m0 m' : jMe} {v : Option jAV} {m : jMe} {B : Nat → Int32 → Int32 → Int32 → Int32 → Int64 → Int32 → Option (Int64)} (hB : ∀ (y0 : Nat) (y1 : Int32) (y2 : Int32) (y3 : Int32) (y4 : Int32) (y5 : Int64) (y7 : Int32) (r : Int64), B y0 y1 y2 y3 y4 y5 y7 = some r → (jS X l d jm_X2_worthsAhead m0 v m' (79, [(5, .inr (.inl r))], [], m)) → jS X l d jm_X2_worthsAhead m0 v m' (6, [(0, .inr (.inr y0)), (1, .inl y1), (2, .inl y2), (3, .inl y3), (4, .inl y4), (5, .inr (.inl y5)), (7, .inl y7)], [], m)) {y0 : Nat} {y1 : Int32} {y2 : Int32} {y3 : Int32} {y4 : Int32} {y5 : Int64} {y7 : Int32} {r : Int64} (H : c_X2_worthsAhead_l6_b F B m y0 y1 y2 y3 y4 y5 y7 = some r) (h2 : jS X l d jm_X2_worthsAhead m0 v m' (79, [(5, .inr (.inl r))], [], m)) : jS X l d jm_X2_worthsAhead m0 v m' (6, [(0, .inr (.inr y0)), (1, .inl y1), (2, .inl y2), (3, .inl y3), (4, .inl y4), (5, .inr (.inl y5)), (7, .inl y7)], [], m) := by
  unfold c_X2_worthsAhead_l6_b at H
  obtain ⟨w1, H⟩ := jgd_ok H
  obtain ⟨w2, H⟩ := jgd_ok H
  obtain ⟨w3, H⟩ := jgd_ok H
  obtain ⟨w4, H⟩ := jgd_ok H
  refine jS.adv O [(.iload 7, 0, 0, 0, 0, 0, 0), (.aload_n 0, 0, 0, 0, 0, 0, 0), (.getfield 60, 0, 2, 12, 443, 0, 0), (.iload_n 1, 0, 0, 0, 0, 0, 0), (.aaload, 0, 5, 0, 0, 0, 0), (.getfield 120, 0, 4, 5, 509, 0, 0)] (pc' := 17) (ls' := [(0, .inr (.inr y0)), (1, .inl y1), (2, .inl y2), (3, .inl y3), (4, .inl y4), (5, .inr (.inl y5)), (7, .inl y7)]) (st' := [.inl (jI m (jP m (jP m y0 12) y1.toNatClampNeg) 5), .inl y7]) (m2 := m) (by decide +kernel) rfl ⟨w1, ⟨w2, jib_ok w3⟩, w4, trivial⟩ ?_
  refine jS.br (i := .if_icmp .ge 62) (P := (jI m (jP m (jP m y0 12) y1.toNatClampNeg) 5) ≤ y7) (rest := []) rfl (by decide +kernel) (tgt := 79) (by decide) (fun c5 => ?_) (fun c5 => ?_)
  · replace H := jif_t c5 H
    replace H := Option.some.inj H
    subst H
    refine jS.loc' [5] (ls' := [(5, .inr (.inl y5))]) rfl ?_
    exact h2
  · replace H := jif_f c5 H
    refine jS.adv O [(.iload 7, 0, 0, 0, 0, 0, 0), (.iload_n 2, 0, 0, 0, 0, 0, 0)] (pc' := 23) (ls' := [(0, .inr (.inr y0)), (1, .inl y1), (2, .inl y2), (3, .inl y3), (4, .inl y4), (5, .inr (.inl y5)), (7, .inl y7)]) (st' := [.inl y2, .inl y7]) (m2 := m) (by decide +kernel) rfl trivial ?_
    refine jS.br (i := .if_icmp .ge 56) (P := y2 ≤ y7) (rest := []) rfl (by decide +kernel) (tgt := 79) (by decide) (fun c6 => ?_) (fun c6 => ?_)
    · replace H := jif_t c6 H
      replace H := Option.some.inj H
      subst H
      refine jS.loc' [5] (ls' := [(5, .inr (.inl y5))]) rfl ?_
      exact h2
    · replace H := jif_f c6 H
      obtain ⟨w7, H⟩ := jgd_ok H
      obtain ⟨w8, H⟩ := jgd_ok H
      refine jS.adv O [(.aload_n 0, 0, 0, 0, 0, 0, 0), (.getfield 50, 0, 2, 9, 440, 0, 0), (.iload_n 1, 0, 0, 0, 0, 0, 0), (.iaload, 0, 1, 0, 0, 0, 0), (.iload 7, 0, 0, 0, 0, 0, 0)] (pc' := 34) (ls' := [(0, .inr (.inr y0)), (1, .inl y1), (2, .inl y2), (3, .inl y3), (4, .inl y4), (5, .inr (.inl y5)), (7, .inl y7)]) (st' := [.inl y7, .inl (jI m (jP m y0 9) y1.toNatClampNeg)]) (m2 := m) (by decide +kernel) rfl ⟨w1, ⟨w7, jib_ok w8⟩, trivial⟩ ?_
      obtain ⟨t10, w9, H⟩ := jb_ok H
      refine jS.step (c' := (37, [(0, .inr (.inr y0)), (1, .inl y1), (2, .inl y2), (3, .inl y3), (4, .inl y4), (5, .inr (.inl y5)), (7, .inl y7)], [.inl t10], m)) (jSt.callSN (As := [.inl (jI m (jP m y0 9) y1.toNatClampNeg), .inl y7]) (rest := []) O (ec_X9_isIn (d := 2) O (Nat.le_refl _) w9) (by omega) jmw_X9_isIn jmv_X9_isIn jmn_X9_isIn (host := "JoinDraws") (idx := 83) jln_JoinDraws_Join_83 (Nat.le_of_ble_eq_true rfl) (by decide +kernel)) ?_
      refine jS.br (i := .ifCond .eq 36) (P := t10 = 0) (rest := []) rfl (by decide +kernel) (tgt := 73) (by decide) (fun c11 => ?_) (fun c11 => ?_)
      · replace H := jif_t c11 H
        refine jS.adv O [(.iinc 7 1, 0, 0, 0, 0, (1 : Int32), 0), (.goto (-70), 0, 6, 0, 0, 0, 0)] (pc' := 6) (ls' := [(7, .inl (y7 + (1 : Int32))), (0, .inr (.inr y0)), (1, .inl y1), (2, .inl y2), (3, .inl y3), (4, .inl y4), (5, .inr (.inl y5))]) (st' := []) (m2 := m) (by decide +kernel) rfl trivial ?_
        refine jS.loc' [1, 2, 3, 4, 5, 6, 0] (ls' := [(0, .inr (.inr y0)), (1, .inl y1), (2, .inl y2), (3, .inl y3), (4, .inl y4), (5, .inr (.inl y5)), (7, .inl (y7 + (1 : Int32)))]) rfl ?_
        exact hB _ _ _ _ _ _ _ _ H h2
      · replace H := jif_f c11 H
        obtain ⟨w12, H⟩ := jgd_ok H
        refine jS.adv O [(.aload_n 0, 0, 0, 0, 0, 0, 0), (.getfield 60, 0, 2, 12, 443, 0, 0), (.iload_n 1, 0, 0, 0, 0, 0, 0), (.aaload, 0, 5, 0, 0, 0, 0), (.iload 7, 0, 0, 0, 0, 0, 0), (.iload_n 3, 0, 0, 0, 0, 0, 0), (.iload 4, 0, 0, 0, 0, 0, 0)] (pc' := 51) (ls' := [(0, .inr (.inr y0)), (1, .inl y1), (2, .inl y2), (3, .inl y3), (4, .inl y4), (5, .inr (.inl y5)), (7, .inl y7)]) (st' := [.inl y4, .inl y3, .inl y7, .inr (.inr (jP m (jP m y0 12) y1.toNatClampNeg))]) (m2 := m) (by decide +kernel) rfl ⟨w1, ⟨w2, jib_ok w12⟩, trivial⟩ ?_
        obtain ⟨t14, w13, H⟩ := jb_ok H
        refine jS.step (c' := (54, [(0, .inr (.inr y0)), (1, .inl y1), (2, .inl y2), (3, .inl y3), (4, .inl y4), (5, .inr (.inl y5)), (7, .inl y7)], [.inl t14], m)) (jSt.callV (c := 4) (As := [.inl y7, .inl y3, .inl y4]) (rest := []) O (ec_X4_matches (d := 2) O (Nat.le_refl _) w13) w4 (by decide) rfl (by omega) jmw_X4_matches jmv_X4_matches jmn_X4_matches (idx := 138) (jW_of 809 (by decide +kernel) rfl) (Nat.le_of_ble_eq_true rfl) (by decide +kernel)) ?_
        refine jS.br (i := .ifCond .eq 19) (P := t14 = 0) (rest := []) rfl (by decide +kernel) (tgt := 73) (by decide) (fun c15 => ?_) (fun c15 => ?_)
        · replace H := jif_t c15 H
          refine jS.adv O [(.iinc 7 1, 0, 0, 0, 0, (1 : Int32), 0), (.goto (-70), 0, 6, 0, 0, 0, 0)] (pc' := 6) (ls' := [(7, .inl (y7 + (1 : Int32))), (0, .inr (.inr y0)), (1, .inl y1), (2, .inl y2), (3, .inl y3), (4, .inl y4), (5, .inr (.inl y5))]) (st' := []) (m2 := m) (by decide +kernel) rfl trivial ?_
          refine jS.loc' [1, 2, 3, 4, 5, 6, 0] (ls' := [(0, .inr (.inr y0)), (1, .inl y1), (2, .inl y2), (3, .inl y3), (4, .inl y4), (5, .inr (.inl y5)), (7, .inl (y7 + (1 : Int32)))]) rfl ?_
          exact hB _ _ _ _ _ _ _ _ H h2
        · replace H := jif_f c15 H
          obtain ⟨w16, H⟩ := jgd_ok H
          refine jS.adv O [(.lload 5, 0, 0, 0, 0, 0, 0), (.aload_n 0, 0, 0, 0, 0, 0, 0), (.getfield 60, 0, 2, 12, 443, 0, 0), (.iload_n 1, 0, 0, 0, 0, 0, 0), (.aaload, 0, 5, 0, 0, 0, 0), (.iload 7, 0, 0, 0, 0, 0, 0)] (pc' := 67) (ls' := [(0, .inr (.inr y0)), (1, .inl y1), (2, .inl y2), (3, .inl y3), (4, .inl y4), (5, .inr (.inl y5)), (7, .inl y7)]) (st' := [.inl y7, .inr (.inr (jP m (jP m y0 12) y1.toNatClampNeg)), .inr (.inl y5)]) (m2 := m) (by decide +kernel) rfl ⟨w1, ⟨w2, jib_ok w16⟩, trivial⟩ ?_
          obtain ⟨t18, w17, H⟩ := jb_ok H
          refine jS.step (c' := (70, [(0, .inr (.inr y0)), (1, .inl y1), (2, .inl y2), (3, .inl y3), (4, .inl y4), (5, .inr (.inl y5)), (7, .inl y7)], [.inr (.inl t18), .inr (.inl y5)], m)) (jSt.callV (c := 4) (As := [.inl y7]) (rest := [.inr (.inl y5)]) O (ec_X4_worthOf (d := 2) O (Nat.le_refl _) w17) w4 (by decide) rfl (by omega) jmw_X4_worthOf jmv_X4_worthOf jmn_X4_worthOf (idx := 123) (jW_of 804 (by decide +kernel) rfl) (Nat.le_of_ble_eq_true rfl) (by decide +kernel)) ?_
          refine jS.adv O [(.ladd, 0, 0, 0, 0, 0, 0), (.lstore 5, 0, 0, 0, 0, 0, 0), (.iinc 7 1, 0, 0, 0, 0, (1 : Int32), 0), (.goto (-70), 0, 6, 0, 0, 0, 0)] (pc' := 6) (ls' := [(7, .inl (y7 + (1 : Int32))), (5, .inr (.inl (y5 + t18))), (0, .inr (.inr y0)), (1, .inl y1), (2, .inl y2), (3, .inl y3), (4, .inl y4)]) (st' := []) (m2 := m) (by decide +kernel) rfl trivial ?_
          refine jS.loc' [2, 3, 4, 5, 6, 1, 0] (ls' := [(0, .inr (.inr y0)), (1, .inl y1), (2, .inl y2), (3, .inl y3), (4, .inl y4), (5, .inr (.inl (y5 + t18))), (7, .inl (y7 + (1 : Int32)))]) rfl ?_
          exact hB _ _ _ _ _ _ _ _ H h2
def c_X2_worthsAhead_l6 (F : Nat) (m : jMe) : Nat → Nat → Int32 → Int32 → Int32 → Int32 → Int64 → Int32 → Option (Int64)
  | 0, _, _, _, _, _, _, _ => none
  | n + 1, y0, y1, y2, y3, y4, y5, y7 => c_X2_worthsAhead_l6_b F (fun y0 y1 y2 y3 y4 y5 y7 => c_X2_worthsAhead_l6 F m n y0 y1 y2 y3 y4 y5 y7) m y0 y1 y2 y3 y4 y5 y7
theorem ec_X2_worthsAhead_l6 {X : jX} {l : Launch} {d : Nat} (O : jOk X) (hd : 3 ≤ d) {F : Nat} {m0 m' : jMe} {v : Option jAV} {m : jMe} : ∀ (n : Nat) {y0 : Nat} {y1 : Int32} {y2 : Int32} {y3 : Int32} {y4 : Int32} {y5 : Int64} {y7 : Int32} {r : Int64} (H : c_X2_worthsAhead_l6 F m n y0 y1 y2 y3 y4 y5 y7 = some r) (h2 : jS X l d jm_X2_worthsAhead m0 v m' (79, [(5, .inr (.inl r))], [], m)), jS X l d jm_X2_worthsAhead m0 v m' (6, [(0, .inr (.inr y0)), (1, .inl y1), (2, .inl y2), (3, .inl y3), (4, .inl y4), (5, .inr (.inl y5)), (7, .inl y7)], [], m) := by
  intro n
  induction n with
  | zero =>
    intro y0 y1 y2 y3 y4 y5 y7 r H h2
    cases (show none = some r from H)
  | succ n ih =>
    intro y0 y1 y2 y3 y4 y5 y7 r H h2
    exact ec_X2_worthsAhead_l6_b O hd (B := (fun y0 y1 y2 y3 y4 y5 y7 => c_X2_worthsAhead_l6 F m n y0 y1 y2 y3 y4 y5 y7)) (fun y0 y1 y2 y3 y4 y5 y7 r H h2 => ih H h2) H h2
def c_X2_worthsAhead (F : Nat) (m : jMe) (x0 : Nat) (x1 : Int32) (x2 : Int32) (x3 : Int32) (x4 : Int32) : Option (Int64) :=
  jb (c_X2_worthsAhead_l6 F m F x0 x1 x2 x3 x4 (0 : Int64) (0 : Int32)) fun e20 => some e20
theorem ec_X2_worthsAhead {X : jX} {l : Launch} {d : Nat} (O : jOk X) (hd : 3 ≤ d) {F : Nat} {m : jMe} {x0 : Nat} {x1 : Int32} {x2 : Int32} {x3 : Int32} {x4 : Int32} {r : Int64} (H : c_X2_worthsAhead F m x0 x1 x2 x3 x4 = some r) : jH X l d jm_X2_worthsAhead [.inr (.inr x0), .inl x1, .inl x2, .inl x3, .inl x4] m (some (.inr (.inl r))) m := by
  refine jH.of jpl_RX2 rfl (Nat.le_of_ble_eq_true rfl) ?_
  show jS X l d jm_X2_worthsAhead m _ _ (0, [(0, .inr (.inr x0)), (1, .inl x1), (2, .inl x2), (3, .inl x3), (4, .inl x4)], [], m)
  unfold c_X2_worthsAhead at H
  refine jS.adv O [(.lconst 0, 0, 0, 0, 0, 0, (0 : Int64)), (.lstore 5, 0, 0, 0, 0, 0, 0), (.iconst 0, 0, 0, 0, 0, (0 : Int32), 0), (.istore 7, 0, 0, 0, 0, 0, 0)] (pc' := 6) (ls' := [(7, .inl (0 : Int32)), (5, .inr (.inl (0 : Int64))), (0, .inr (.inr x0)), (1, .inl x1), (2, .inl x2), (3, .inl x3), (4, .inl x4)]) (st' := []) (m2 := m) (by decide +kernel) rfl trivial ?_
  refine jS.loc' [2, 3, 4, 5, 6, 1, 0] (ls' := [(0, .inr (.inr x0)), (1, .inl x1), (2, .inl x2), (3, .inl x3), (4, .inl x4), (5, .inr (.inl (0 : Int64))), (7, .inl (0 : Int32))]) rfl ?_
  obtain ⟨e20, w21, H⟩ := jb_ok H
  refine ec_X2_worthsAhead_l6 O hd F w21 ?_
  refine jS.adv O [(.lload 5, 0, 0, 0, 0, 0, 0)] (pc' := 81) (ls' := [(5, .inr (.inl e20))]) (st' := [.inr (.inl e20)]) (m2 := m) (by decide +kernel) rfl trivial ?_
  replace H := Option.some.inj H
  subst H
  exact jS.lret rfl (by decide +kernel)
def c_X2_greatestHeap_l5_b (F : Nat) (B : Nat → Int32 → Int32 → Int64 → Int32 → Option (Int64)) (m : jMe) (y0 : Nat) (y1 : Int32) (y2 : Int32) (y3 : Int64) (y5 : Int32) : Option (Int64) :=
  jgd (jK m y0 = 34) <| jgd (jK m (jP m y0 12) = 5) <| jgd (jin y1 (jZ m (jP m y0 12)) = true) <| jgd (jK m (jP m (jP m y0 12) y1.toNatClampNeg) = 36) <| (if (jI m (jP m (jP m y0 12) y1.toNatClampNeg) 5) ≤ y5 then some (y3) else jgd (jin y1 (jZ m (jP m y0 12)) = true) <| jgd (jK m (jP m (jP m (jP m y0 12) y1.toNatClampNeg) 0) = 1) <| jgd (jin y5 (jZ m (jP m (jP m (jP m y0 12) y1.toNatClampNeg) 0)) = true) <| jb (c_X2_worthsAhead F m y0 y1 (8 : Int32) (jI m (jP m (jP m (jP m y0 12) y1.toNatClampNeg) 0) y5.toNatClampNeg) y2) fun t10 => B y0 y1 y2 (if t10 < y3 then y3 else t10) (y5 + (1 : Int32)))
theorem ec_X2_greatestHeap_l5_b {X : jX} {l : Launch} {d : Nat} (O : jOk X) (hd : 4 ≤ d) {F : Nat} {m0 m' : jMe} {v : Option jAV} {m : jMe} {B : Nat → Int32 → Int32 → Int64 → Int32 → Option (Int64)} (hB : ∀ (y0 : Nat) (y1 : Int32) (y2 : Int32) (y3 : Int64) (y5 : Int32) (r : Int64), B y0 y1 y2 y3 y5 = some r → (jS X l d jm_X2_greatestHeap m0 v m' (50, [(3, .inr (.inl r))], [], m)) → jS X l d jm_X2_greatestHeap m0 v m' (5, [(0, .inr (.inr y0)), (1, .inl y1), (2, .inl y2), (3, .inr (.inl y3)), (5, .inl y5)], [], m)) {y0 : Nat} {y1 : Int32} {y2 : Int32} {y3 : Int64} {y5 : Int32} {r : Int64} (H : c_X2_greatestHeap_l5_b F B m y0 y1 y2 y3 y5 = some r) (h2 : jS X l d jm_X2_greatestHeap m0 v m' (50, [(3, .inr (.inl r))], [], m)) : jS X l d jm_X2_greatestHeap m0 v m' (5, [(0, .inr (.inr y0)), (1, .inl y1), (2, .inl y2), (3, .inr (.inl y3)), (5, .inl y5)], [], m) := by
  unfold c_X2_greatestHeap_l5_b at H
  obtain ⟨w1, H⟩ := jgd_ok H
  obtain ⟨w2, H⟩ := jgd_ok H
  obtain ⟨w3, H⟩ := jgd_ok H
  obtain ⟨w4, H⟩ := jgd_ok H
  refine jS.adv O [(.iload 5, 0, 0, 0, 0, 0, 0), (.aload_n 0, 0, 0, 0, 0, 0, 0), (.getfield 60, 0, 2, 12, 443, 0, 0), (.iload_n 1, 0, 0, 0, 0, 0, 0), (.aaload, 0, 5, 0, 0, 0, 0), (.getfield 120, 0, 4, 5, 509, 0, 0)] (pc' := 16) (ls' := [(0, .inr (.inr y0)), (1, .inl y1), (2, .inl y2), (3, .inr (.inl y3)), (5, .inl y5)]) (st' := [.inl (jI m (jP m (jP m y0 12) y1.toNatClampNeg) 5), .inl y5]) (m2 := m) (by decide +kernel) rfl ⟨w1, ⟨w2, jib_ok w3⟩, w4, trivial⟩ ?_
  refine jS.br (i := .if_icmp .ge 34) (P := (jI m (jP m (jP m y0 12) y1.toNatClampNeg) 5) ≤ y5) (rest := []) rfl (by decide +kernel) (tgt := 50) (by decide) (fun c5 => ?_) (fun c5 => ?_)
  · replace H := jif_t c5 H
    replace H := Option.some.inj H
    subst H
    refine jS.loc' [3] (ls' := [(3, .inr (.inl y3))]) rfl ?_
    exact h2
  · replace H := jif_f c5 H
    obtain ⟨w6, H⟩ := jgd_ok H
    obtain ⟨w7, H⟩ := jgd_ok H
    obtain ⟨w8, H⟩ := jgd_ok H
    refine jS.adv O [(.lload_n 3, 0, 0, 0, 0, 0, 0), (.aload_n 0, 0, 0, 0, 0, 0, 0), (.iload_n 1, 0, 0, 0, 0, 0, 0), (.bipush 8, 0, 0, 0, 0, (8 : Int32), 0), (.aload_n 0, 0, 0, 0, 0, 0, 0), (.getfield 60, 0, 2, 12, 443, 0, 0), (.iload_n 1, 0, 0, 0, 0, 0, 0), (.aaload, 0, 5, 0, 0, 0, 0), (.getfield 130, 0, 4, 0, 494, 0, 0), (.iload 5, 0, 0, 0, 0, 0, 0), (.iaload, 0, 1, 0, 0, 0, 0), (.iload_n 2, 0, 0, 0, 0, 0, 0)] (pc' := 37) (ls' := [(0, .inr (.inr y0)), (1, .inl y1), (2, .inl y2), (3, .inr (.inl y3)), (5, .inl y5)]) (st' := [.inl y2, .inl (jI m (jP m (jP m (jP m y0 12) y1.toNatClampNeg) 0) y5.toNatClampNeg), .inl (8 : Int32), .inl y1, .inr (.inr y0), .inr (.inl y3)]) (m2 := m) (by decide +kernel) rfl ⟨w1, ⟨w2, jib_ok w6⟩, w4, ⟨w7, jib_ok w8⟩, trivial⟩ ?_
    obtain ⟨t10, w9, H⟩ := jb_ok H
    refine jS.step (c' := (40, [(0, .inr (.inr y0)), (1, .inl y1), (2, .inl y2), (3, .inr (.inl y3)), (5, .inl y5)], [.inr (.inl t10), .inr (.inl y3)], m)) (jSt.callV (c := 2) (As := [.inl y1, .inl (8 : Int32), .inl (jI m (jP m (jP m (jP m y0 12) y1.toNatClampNeg) 0) y5.toNatClampNeg), .inl y2]) (rest := [.inr (.inl y3)]) O (ec_X2_worthsAhead (d := 3) O (Nat.le_refl _) w9) w1 (by decide) rfl (by omega) jmw_X2_worthsAhead jmv_X2_worthsAhead jmn_X2_worthsAhead (idx := 155) (jW_of 830 (by decide +kernel) rfl) (Nat.le_of_ble_eq_true rfl) (by decide +kernel)) ?_
    refine jS.step (c' := (43, [(0, .inr (.inr y0)), (1, .inl y1), (2, .inl y2), (3, .inr (.inl y3)), (5, .inl y5)], [.inr (.inl (if t10 < y3 then y3 else t10))], m)) (jSt.mmaxl (idx := 159) (by omega) (jW_of 834 (by decide +kernel) rfl) (jW_of 835 (by decide +kernel) rfl) (jW_of 251 (by decide +kernel) rfl) (jW_of 836 (by decide +kernel) rfl) (Nat.le_of_ble_eq_true rfl) (by decide +kernel)) ?_
    refine jS.adv O [(.lstore_n 3, 0, 0, 0, 0, 0, 0), (.iinc 5 1, 0, 0, 0, 0, (1 : Int32), 0), (.goto (-42), 0, 5, 0, 0, 0, 0)] (pc' := 5) (ls' := [(5, .inl (y5 + (1 : Int32))), (3, .inr (.inl (if t10 < y3 then y3 else t10))), (0, .inr (.inr y0)), (1, .inl y1), (2, .inl y2)]) (st' := []) (m2 := m) (by decide +kernel) rfl trivial ?_
    refine jS.loc' [2, 3, 4, 1, 0] (ls' := [(0, .inr (.inr y0)), (1, .inl y1), (2, .inl y2), (3, .inr (.inl (if t10 < y3 then y3 else t10))), (5, .inl (y5 + (1 : Int32)))]) rfl ?_
    exact hB _ _ _ _ _ _ H h2
def c_X2_greatestHeap_l5 (F : Nat) (m : jMe) : Nat → Nat → Int32 → Int32 → Int64 → Int32 → Option (Int64)
  | 0, _, _, _, _, _ => none
  | n + 1, y0, y1, y2, y3, y5 => c_X2_greatestHeap_l5_b F (fun y0 y1 y2 y3 y5 => c_X2_greatestHeap_l5 F m n y0 y1 y2 y3 y5) m y0 y1 y2 y3 y5
theorem ec_X2_greatestHeap_l5 {X : jX} {l : Launch} {d : Nat} (O : jOk X) (hd : 4 ≤ d) {F : Nat} {m0 m' : jMe} {v : Option jAV} {m : jMe} : ∀ (n : Nat) {y0 : Nat} {y1 : Int32} {y2 : Int32} {y3 : Int64} {y5 : Int32} {r : Int64} (H : c_X2_greatestHeap_l5 F m n y0 y1 y2 y3 y5 = some r) (h2 : jS X l d jm_X2_greatestHeap m0 v m' (50, [(3, .inr (.inl r))], [], m)), jS X l d jm_X2_greatestHeap m0 v m' (5, [(0, .inr (.inr y0)), (1, .inl y1), (2, .inl y2), (3, .inr (.inl y3)), (5, .inl y5)], [], m) := by
  intro n
  induction n with
  | zero =>
    intro y0 y1 y2 y3 y5 r H h2
    cases (show none = some r from H)
  | succ n ih =>
    intro y0 y1 y2 y3 y5 r H h2
    exact ec_X2_greatestHeap_l5_b O hd (B := (fun y0 y1 y2 y3 y5 => c_X2_greatestHeap_l5 F m n y0 y1 y2 y3 y5)) (fun y0 y1 y2 y3 y5 r H h2 => ih H h2) H h2
def c_X2_greatestHeap (F : Nat) (m : jMe) (x0 : Nat) (x1 : Int32) (x2 : Int32) : Option (Int64) :=
  jb (c_X2_greatestHeap_l5 F m F x0 x1 x2 (0 : Int64) (0 : Int32)) fun e12 => some e12
theorem ec_X2_greatestHeap {X : jX} {l : Launch} {d : Nat} (O : jOk X) (hd : 4 ≤ d) {F : Nat} {m : jMe} {x0 : Nat} {x1 : Int32} {x2 : Int32} {r : Int64} (H : c_X2_greatestHeap F m x0 x1 x2 = some r) : jH X l d jm_X2_greatestHeap [.inr (.inr x0), .inl x1, .inl x2] m (some (.inr (.inl r))) m := by
  refine jH.of jpl_RX2 rfl (Nat.le_of_ble_eq_true rfl) ?_
  show jS X l d jm_X2_greatestHeap m _ _ (0, [(0, .inr (.inr x0)), (1, .inl x1), (2, .inl x2)], [], m)
  unfold c_X2_greatestHeap at H
  refine jS.adv O [(.lconst 0, 0, 0, 0, 0, 0, (0 : Int64)), (.lstore_n 3, 0, 0, 0, 0, 0, 0), (.iconst 0, 0, 0, 0, 0, (0 : Int32), 0), (.istore 5, 0, 0, 0, 0, 0, 0)] (pc' := 5) (ls' := [(5, .inl (0 : Int32)), (3, .inr (.inl (0 : Int64))), (0, .inr (.inr x0)), (1, .inl x1), (2, .inl x2)]) (st' := []) (m2 := m) (by decide +kernel) rfl trivial ?_
  refine jS.loc' [2, 3, 4, 1, 0] (ls' := [(0, .inr (.inr x0)), (1, .inl x1), (2, .inl x2), (3, .inr (.inl (0 : Int64))), (5, .inl (0 : Int32))]) rfl ?_
  obtain ⟨e12, w13, H⟩ := jb_ok H
  refine ec_X2_greatestHeap_l5 O hd F w13 ?_
  refine jS.adv O [(.lload_n 3, 0, 0, 0, 0, 0, 0)] (pc' := 51) (ls' := [(3, .inr (.inl e12))]) (st' := [.inr (.inl e12)]) (m2 := m) (by decide +kernel) rfl trivial ?_
  replace H := Option.some.inj H
  subst H
  exact jS.lret rfl (by decide +kernel)
def c_X2_boundChecks_l4_b (F : Nat) (B : jMe → Nat → Int32 → Int32 → Option (jMe × Nat × Int32)) (m : jMe) (y0 : Nat) (y1 : Int32) (y2 : Int32) : Option (jMe × Nat × Int32) :=
  (if (4 : Int32) ≤ y2 then some (m, y0, y1) else jgd (jK m y0 = 34) <| jgd (jK m (jP m y0 0) = 40) <| jb (c_X9_isIn F m (jI m (jP m y0 0) 6) y2) fun t5 => (if t5 = 0 then B m y0 (y1 ||| (0 : Int32)) (y2 + (1 : Int32)) else jgd (jK m (jP m y0 12) = 5) <| jgd (jin y2 (jZ m (jP m y0 12)) = true) <| jgd (jK m (jP m (jP m y0 12) y2.toNatClampNeg) = 36) <| B m y0 (y1 ||| (jI m (jP m (jP m y0 12) y2.toNatClampNeg) 4)) (y2 + (1 : Int32))))
theorem ec_X2_boundChecks_l4_b {X : jX} {l : Launch} {d : Nat} (O : jOk X) (hd : 5 ≤ d) {F : Nat} {m0 m' : jMe} {v : Option jAV} {B : jMe → Nat → Int32 → Int32 → Option (jMe × Nat × Int32)} (hB : ∀ (m : jMe) (y0 : Nat) (y1 : Int32) (y2 : Int32) (r : jMe × Nat × Int32), B m y0 y1 y2 = some r → (jS X l d jm_X2_boundChecks m0 v m' (45, [(0, .inr (.inr r.2.1)), (1, .inl r.2.2)], [], r.1)) → jS X l d jm_X2_boundChecks m0 v m' (4, [(0, .inr (.inr y0)), (1, .inl y1), (2, .inl y2)], [], m)) {m : jMe} {y0 : Nat} {y1 : Int32} {y2 : Int32} {r : jMe × Nat × Int32} (H : c_X2_boundChecks_l4_b F B m y0 y1 y2 = some r) (h2 : jS X l d jm_X2_boundChecks m0 v m' (45, [(0, .inr (.inr r.2.1)), (1, .inl r.2.2)], [], r.1)) : jS X l d jm_X2_boundChecks m0 v m' (4, [(0, .inr (.inr y0)), (1, .inl y1), (2, .inl y2)], [], m) := by
  unfold c_X2_boundChecks_l4_b at H
  refine jS.adv O [(.iload_n 2, 0, 0, 0, 0, 0, 0), (.iconst 4, 0, 0, 0, 0, (4 : Int32), 0)] (pc' := 6) (ls' := [(0, .inr (.inr y0)), (1, .inl y1), (2, .inl y2)]) (st' := [.inl (4 : Int32), .inl y2]) (m2 := m) (by decide +kernel) rfl trivial ?_
  refine jS.br (i := .if_icmp .ge 39) (P := (4 : Int32) ≤ y2) (rest := []) rfl (by decide +kernel) (tgt := 45) (by decide) (fun c1 => ?_) (fun c1 => ?_)
  · replace H := jif_t c1 H
    replace H := Option.some.inj H
    subst H
    refine jS.loc' [0, 1] (ls' := [(0, .inr (.inr y0)), (1, .inl y1)]) rfl ?_
    exact h2
  · replace H := jif_f c1 H
    obtain ⟨w2, H⟩ := jgd_ok H
    obtain ⟨w3, H⟩ := jgd_ok H
    refine jS.adv O [(.iload_n 1, 0, 0, 0, 0, 0, 0), (.aload_n 0, 0, 0, 0, 0, 0, 0), (.getfield 12, 0, 2, 0, 424, 0, 0), (.getfield 145, 0, 8, 6, 400, 0, 0), (.iload_n 2, 0, 0, 0, 0, 0, 0)] (pc' := 18) (ls' := [(0, .inr (.inr y0)), (1, .inl y1), (2, .inl y2)]) (st' := [.inl y2, .inl (jI m (jP m y0 0) 6), .inl y1]) (m2 := m) (by decide +kernel) rfl ⟨w2, w3, trivial⟩ ?_
    obtain ⟨t5, w4, H⟩ := jb_ok H
    refine jS.step (c' := (21, [(0, .inr (.inr y0)), (1, .inl y1), (2, .inl y2)], [.inl t5, .inl y1], m)) (jSt.callSN (As := [.inl (jI m (jP m y0 0) 6), .inl y2]) (rest := [.inl y1]) O (ec_X9_isIn (d := 2) O (Nat.le_refl _) w4) (by omega) jmw_X9_isIn jmv_X9_isIn jmn_X9_isIn (host := "JoinDraws") (idx := 83) jln_JoinDraws_Join_83 (Nat.le_of_ble_eq_true rfl) (by decide +kernel)) ?_
    refine jS.br (i := .ifCond .eq 15) (P := t5 = 0) (rest := [.inl y1]) rfl (by decide +kernel) (tgt := 36) (by decide) (fun c6 => ?_) (fun c6 => ?_)
    · replace H := jif_t c6 H
      refine jS.adv O [(.iconst 0, 0, 0, 0, 0, (0 : Int32), 0), (.ior, 0, 0, 0, 0, 0, 0), (.istore_n 1, 0, 0, 0, 0, 0, 0), (.iinc 2 1, 0, 0, 0, 0, (1 : Int32), 0), (.goto (-38), 0, 4, 0, 0, 0, 0)] (pc' := 4) (ls' := [(2, .inl (y2 + (1 : Int32))), (1, .inl (y1 ||| (0 : Int32))), (0, .inr (.inr y0))]) (st' := []) (m2 := m) (by decide +kernel) rfl trivial ?_
      refine jS.loc' [2, 1, 0] (ls' := [(0, .inr (.inr y0)), (1, .inl (y1 ||| (0 : Int32))), (2, .inl (y2 + (1 : Int32)))]) rfl ?_
      exact hB _ _ _ _ _ H h2
    · replace H := jif_f c6 H
      obtain ⟨w7, H⟩ := jgd_ok H
      obtain ⟨w8, H⟩ := jgd_ok H
      obtain ⟨w9, H⟩ := jgd_ok H
      refine jS.adv O [(.aload_n 0, 0, 0, 0, 0, 0, 0), (.getfield 60, 0, 2, 12, 443, 0, 0), (.iload_n 2, 0, 0, 0, 0, 0, 0), (.aaload, 0, 5, 0, 0, 0, 0), (.getfield 133, 0, 4, 4, 506, 0, 0), (.goto 4, 0, 37, 0, 0, 0, 0), (.ior, 0, 0, 0, 0, 0, 0), (.istore_n 1, 0, 0, 0, 0, 0, 0), (.iinc 2 1, 0, 0, 0, 0, (1 : Int32), 0), (.goto (-38), 0, 4, 0, 0, 0, 0)] (pc' := 4) (ls' := [(2, .inl (y2 + (1 : Int32))), (1, .inl (y1 ||| (jI m (jP m (jP m y0 12) y2.toNatClampNeg) 4))), (0, .inr (.inr y0))]) (st' := []) (m2 := m) (by decide +kernel) rfl ⟨w2, ⟨w7, jib_ok w8⟩, w9, trivial⟩ ?_
      refine jS.loc' [2, 1, 0] (ls' := [(0, .inr (.inr y0)), (1, .inl (y1 ||| (jI m (jP m (jP m y0 12) y2.toNatClampNeg) 4))), (2, .inl (y2 + (1 : Int32)))]) rfl ?_
      exact hB _ _ _ _ _ H h2
def c_X2_boundChecks_l4 (F : Nat) : Nat → jMe → Nat → Int32 → Int32 → Option (jMe × Nat × Int32)
  | 0, _, _, _, _ => none
  | n + 1, m, y0, y1, y2 => c_X2_boundChecks_l4_b F (fun m y0 y1 y2 => c_X2_boundChecks_l4 F n m y0 y1 y2) m y0 y1 y2
theorem ec_X2_boundChecks_l4 {X : jX} {l : Launch} {d : Nat} (O : jOk X) (hd : 5 ≤ d) {F : Nat} {m0 m' : jMe} {v : Option jAV} : ∀ (n : Nat) {m : jMe} {y0 : Nat} {y1 : Int32} {y2 : Int32} {r : jMe × Nat × Int32} (H : c_X2_boundChecks_l4 F n m y0 y1 y2 = some r) (h2 : jS X l d jm_X2_boundChecks m0 v m' (45, [(0, .inr (.inr r.2.1)), (1, .inl r.2.2)], [], r.1)), jS X l d jm_X2_boundChecks m0 v m' (4, [(0, .inr (.inr y0)), (1, .inl y1), (2, .inl y2)], [], m) := by
  intro n
  induction n with
  | zero =>
    intro m y0 y1 y2 r H h2
    cases (show none = some r from H)
  | succ n ih =>
    intro m y0 y1 y2 r H h2
    exact ec_X2_boundChecks_l4_b O hd (B := (fun m y0 y1 y2 => c_X2_boundChecks_l4 F n m y0 y1 y2)) (fun m y0 y1 y2 r H h2 => ih H h2) H h2
def c_X2_boundChecks_l47_b (F : Nat) (B : jMe → Nat → Int32 → Int32 → Option (jMe)) (m : jMe) (y0 : Nat) (y1 : Int32) (y2 : Int32) : Option (jMe) :=
  (if (4 : Int32) ≤ y2 then some (m) else jgd (jK m y0 = 34) <| jgd (jK m (jP m y0 2) = 2) <| jgd (jin y2 (jZ m (jP m y0 2)) = true) <| jgd (jK m (jP (jsL m (jP m y0 2) y2.toNatClampNeg (0 : Int64)) y0 0) = 40) <| jb (c_X9_isIn F (jsL m (jP m y0 2) y2.toNatClampNeg (0 : Int64)) (jI (jsL m (jP m y0 2) y2.toNatClampNeg (0 : Int64)) (jP (jsL m (jP m y0 2) y2.toNatClampNeg (0 : Int64)) y0 0) 7) y2) fun t19 => (if t19 = 0 then B (jsL m (jP m y0 2) y2.toNatClampNeg (0 : Int64)) y0 y1 (y2 + (1 : Int32)) else jb (c_X2_greatestHeap F (jsL m (jP m y0 2) y2.toNatClampNeg (0 : Int64)) y0 y2 y1) fun t22 => jgd (jK m (jP (jsL m (jP m y0 2) y2.toNatClampNeg (0 : Int64)) y0 2) = 2) <| jgd (jin y2 (jZ m (jP (jsL m (jP m y0 2) y2.toNatClampNeg (0 : Int64)) y0 2)) = true) <| jgd (jK m (jP (jsL (jsL m (jP m y0 2) y2.toNatClampNeg (0 : Int64)) (jP (jsL m (jP m y0 2) y2.toNatClampNeg (0 : Int64)) y0 2) y2.toNatClampNeg t22) y0 2) = 2) <| jgd (jin y2 (jZ m (jP (jsL (jsL m (jP m y0 2) y2.toNatClampNeg (0 : Int64)) (jP (jsL m (jP m y0 2) y2.toNatClampNeg (0 : Int64)) y0 2) y2.toNatClampNeg t22) y0 2)) = true) <| jb (c_X2_times F (jsL (jsL m (jP m y0 2) y2.toNatClampNeg (0 : Int64)) (jP (jsL m (jP m y0 2) y2.toNatClampNeg (0 : Int64)) y0 2) y2.toNatClampNeg t22) y0 (jL (jsL (jsL m (jP m y0 2) y2.toNatClampNeg (0 : Int64)) (jP (jsL m (jP m y0 2) y2.toNatClampNeg (0 : Int64)) y0 2) y2.toNatClampNeg t22) y0 6) (jL (jsL (jsL m (jP m y0 2) y2.toNatClampNeg (0 : Int64)) (jP (jsL m (jP m y0 2) y2.toNatClampNeg (0 : Int64)) y0 2) y2.toNatClampNeg t22) (jP (jsL (jsL m (jP m y0 2) y2.toNatClampNeg (0 : Int64)) (jP (jsL m (jP m y0 2) y2.toNatClampNeg (0 : Int64)) y0 2) y2.toNatClampNeg t22) y0 2) y2.toNatClampNeg)) fun t28 => jgd (jK t28.2 y0 = 34) <| jgd (jK t28.2 (jP (jsL t28.2 y0 6 t28.1) y0 12) = 5) <| jgd (jin y2 (jZ t28.2 (jP (jsL t28.2 y0 6 t28.1) y0 12)) = true) <| jgd (jK t28.2 (jP (jsL t28.2 y0 6 t28.1) (jP (jsL t28.2 y0 6 t28.1) y0 12) y2.toNatClampNeg) = 36) <| jlet (y1 ||| (jI (jsL t28.2 y0 6 t28.1) (jP (jsL t28.2 y0 6 t28.1) (jP (jsL t28.2 y0 6 t28.1) y0 12) y2.toNatClampNeg) 4)) fun v33 => B (jsL t28.2 y0 6 t28.1) y0 v33 (y2 + (1 : Int32))))
theorem ec_X2_boundChecks_l47_b {X : jX} {l : Launch} {d : Nat} (O : jOk X) (hd : 5 ≤ d) {F : Nat} {m0 m' : jMe} {v : Option jAV} {B : jMe → Nat → Int32 → Int32 → Option (jMe)} (hB : ∀ (m : jMe) (y0 : Nat) (y1 : Int32) (y2 : Int32) (r : jMe), B m y0 y1 y2 = some r → (jS X l d jm_X2_boundChecks m0 v m' (121, [], [], r)) → jS X l d jm_X2_boundChecks m0 v m' (47, [(0, .inr (.inr y0)), (1, .inl y1), (2, .inl y2)], [], m)) {m : jMe} {y0 : Nat} {y1 : Int32} {y2 : Int32} {r : jMe} (H : c_X2_boundChecks_l47_b F B m y0 y1 y2 = some r) (h2 : jS X l d jm_X2_boundChecks m0 v m' (121, [], [], r)) : jS X l d jm_X2_boundChecks m0 v m' (47, [(0, .inr (.inr y0)), (1, .inl y1), (2, .inl y2)], [], m) := by
  unfold c_X2_boundChecks_l47_b at H
  refine jS.adv O [(.iload_n 2, 0, 0, 0, 0, 0, 0), (.iconst 4, 0, 0, 0, 0, (4 : Int32), 0)] (pc' := 49) (ls' := [(0, .inr (.inr y0)), (1, .inl y1), (2, .inl y2)]) (st' := [.inl (4 : Int32), .inl y2]) (m2 := m) (by decide +kernel) rfl trivial ?_
  refine jS.br (i := .if_icmp .ge 72) (P := (4 : Int32) ≤ y2) (rest := []) rfl (by decide +kernel) (tgt := 121) (by decide) (fun c13 => ?_) (fun c13 => ?_)
  · replace H := jif_t c13 H
    replace H := Option.some.inj H
    subst H
    refine jS.loc' [] (ls' := []) rfl ?_
    exact h2
  · replace H := jif_f c13 H
    obtain ⟨w14, H⟩ := jgd_ok H
    obtain ⟨w15, H⟩ := jgd_ok H
    obtain ⟨w16, H⟩ := jgd_ok H
    obtain ⟨w17, H⟩ := jgd_ok H
    refine jS.adv O [(.aload_n 0, 0, 0, 0, 0, 0, 0), (.getfield 22, 0, 2, 2, 428, 0, 0), (.iload_n 2, 0, 0, 0, 0, 0, 0), (.lconst 0, 0, 0, 0, 0, 0, (0 : Int64)), (.lastore, 0, 0, 0, 0, 0, 0), (.aload_n 0, 0, 0, 0, 0, 0, 0), (.getfield 12, 0, 2, 0, 424, 0, 0), (.getfield 148, 0, 8, 7, 403, 0, 0), (.iload_n 2, 0, 0, 0, 0, 0, 0)] (pc' := 67) (ls' := [(0, .inr (.inr y0)), (1, .inl y1), (2, .inl y2)]) (st' := [.inl y2, .inl (jI (jsL m (jP m y0 2) y2.toNatClampNeg (0 : Int64)) (jP (jsL m (jP m y0 2) y2.toNatClampNeg (0 : Int64)) y0 0) 7)]) (m2 := (jsL m (jP m y0 2) y2.toNatClampNeg (0 : Int64))) (by decide +kernel) rfl ⟨w14, ⟨w15, jib_ok w16⟩, w14, w17, trivial⟩ ?_
    obtain ⟨t19, w18, H⟩ := jb_ok H
    refine jS.step (c' := (70, [(0, .inr (.inr y0)), (1, .inl y1), (2, .inl y2)], [.inl t19], (jsL m (jP m y0 2) y2.toNatClampNeg (0 : Int64)))) (jSt.callSN (As := [.inl (jI (jsL m (jP m y0 2) y2.toNatClampNeg (0 : Int64)) (jP (jsL m (jP m y0 2) y2.toNatClampNeg (0 : Int64)) y0 0) 7), .inl y2]) (rest := []) O (ec_X9_isIn (d := 2) O (Nat.le_refl _) w18) (by omega) jmw_X9_isIn jmv_X9_isIn jmn_X9_isIn (host := "JoinDraws") (idx := 83) jln_JoinDraws_Join_83 (Nat.le_of_ble_eq_true rfl) (by decide +kernel)) ?_
    refine jS.br (i := .ifCond .eq 45) (P := t19 = 0) (rest := []) rfl (by decide +kernel) (tgt := 115) (by decide) (fun c20 => ?_) (fun c20 => ?_)
    · replace H := jif_t c20 H
      refine jS.adv O [(.iinc 2 1, 0, 0, 0, 0, (1 : Int32), 0), (.goto (-71), 0, 47, 0, 0, 0, 0)] (pc' := 47) (ls' := [(2, .inl (y2 + (1 : Int32))), (0, .inr (.inr y0)), (1, .inl y1)]) (st' := []) (m2 := (jsL m (jP m y0 2) y2.toNatClampNeg (0 : Int64))) (by decide +kernel) rfl trivial ?_
      refine jS.loc' [1, 2, 0] (ls' := [(0, .inr (.inr y0)), (1, .inl y1), (2, .inl (y2 + (1 : Int32)))]) rfl ?_
      exact hB _ _ _ _ _ H h2
    · replace H := jif_f c20 H
      refine jS.adv O [(.aload_n 0, 0, 0, 0, 0, 0, 0), (.getfield 22, 0, 2, 2, 428, 0, 0), (.iload_n 2, 0, 0, 0, 0, 0, 0), (.aload_n 0, 0, 0, 0, 0, 0, 0), (.iload_n 2, 0, 0, 0, 0, 0, 0), (.iload_n 1, 0, 0, 0, 0, 0, 0)] (pc' := 81) (ls' := [(0, .inr (.inr y0)), (1, .inl y1), (2, .inl y2)]) (st' := [.inl y1, .inl y2, .inr (.inr y0), .inl y2, .inr (.inr (jP (jsL m (jP m y0 2) y2.toNatClampNeg (0 : Int64)) y0 2))]) (m2 := (jsL m (jP m y0 2) y2.toNatClampNeg (0 : Int64))) (by decide +kernel) rfl ⟨w14, trivial⟩ ?_
      obtain ⟨t22, w21, H⟩ := jb_ok H
      refine jS.step (c' := (84, [(0, .inr (.inr y0)), (1, .inl y1), (2, .inl y2)], [.inr (.inl t22), .inl y2, .inr (.inr (jP (jsL m (jP m y0 2) y2.toNatClampNeg (0 : Int64)) y0 2))], (jsL m (jP m y0 2) y2.toNatClampNeg (0 : Int64)))) (jSt.callV (c := 2) (As := [.inl y2, .inl y1]) (rest := [.inl y2, .inr (.inr (jP (jsL m (jP m y0 2) y2.toNatClampNeg (0 : Int64)) y0 2))]) O (ec_X2_greatestHeap (d := 4) O (Nat.le_refl _) w21) w14 (by decide) rfl (by omega) jmw_X2_greatestHeap jmv_X2_greatestHeap jmn_X2_greatestHeap (idx := 151) (jW_of 826 (by decide +kernel) rfl) (Nat.le_of_ble_eq_true rfl) (by decide +kernel)) ?_
      obtain ⟨w23, H⟩ := jgd_ok H
      obtain ⟨w24, H⟩ := jgd_ok H
      obtain ⟨w25, H⟩ := jgd_ok H
      obtain ⟨w26, H⟩ := jgd_ok H
      refine jS.adv O [(.lastore, 0, 0, 0, 0, 0, 0), (.aload_n 0, 0, 0, 0, 0, 0, 0), (.aload_n 0, 0, 0, 0, 0, 0, 0), (.aload_n 0, 0, 0, 0, 0, 0, 0), (.getfield 35, 0, 2, 6, 435, 0, 0), (.aload_n 0, 0, 0, 0, 0, 0, 0), (.getfield 22, 0, 2, 2, 428, 0, 0), (.iload_n 2, 0, 0, 0, 0, 0, 0), (.laload, 0, 0, 0, 0, 0, 0)] (pc' := 97) (ls' := [(0, .inr (.inr y0)), (1, .inl y1), (2, .inl y2)]) (st' := [.inr (.inl (jL (jsL (jsL m (jP m y0 2) y2.toNatClampNeg (0 : Int64)) (jP (jsL m (jP m y0 2) y2.toNatClampNeg (0 : Int64)) y0 2) y2.toNatClampNeg t22) (jP (jsL (jsL m (jP m y0 2) y2.toNatClampNeg (0 : Int64)) (jP (jsL m (jP m y0 2) y2.toNatClampNeg (0 : Int64)) y0 2) y2.toNatClampNeg t22) y0 2) y2.toNatClampNeg)), .inr (.inl (jL (jsL (jsL m (jP m y0 2) y2.toNatClampNeg (0 : Int64)) (jP (jsL m (jP m y0 2) y2.toNatClampNeg (0 : Int64)) y0 2) y2.toNatClampNeg t22) y0 6)), .inr (.inr y0), .inr (.inr y0)]) (m2 := (jsL (jsL m (jP m y0 2) y2.toNatClampNeg (0 : Int64)) (jP (jsL m (jP m y0 2) y2.toNatClampNeg (0 : Int64)) y0 2) y2.toNatClampNeg t22)) (by decide +kernel) rfl ⟨⟨w23, jib_ok w24⟩, w14, w14, ⟨w25, jib_ok w26⟩, trivial⟩ ?_
      obtain ⟨t28, w27, H⟩ := jb_ok H
      refine jS.step (c' := (100, [(0, .inr (.inr y0)), (1, .inl y1), (2, .inl y2)], [.inr (.inl t28.1), .inr (.inr y0)], t28.2)) (jSt.callV (c := 2) (As := [.inr (.inl (jL (jsL (jsL m (jP m y0 2) y2.toNatClampNeg (0 : Int64)) (jP (jsL m (jP m y0 2) y2.toNatClampNeg (0 : Int64)) y0 2) y2.toNatClampNeg t22) y0 6)), .inr (.inl (jL (jsL (jsL m (jP m y0 2) y2.toNatClampNeg (0 : Int64)) (jP (jsL m (jP m y0 2) y2.toNatClampNeg (0 : Int64)) y0 2) y2.toNatClampNeg t22) (jP (jsL (jsL m (jP m y0 2) y2.toNatClampNeg (0 : Int64)) (jP (jsL m (jP m y0 2) y2.toNatClampNeg (0 : Int64)) y0 2) y2.toNatClampNeg t22) y0 2) y2.toNatClampNeg))]) (rest := [.inr (.inr y0)]) O (ec_X2_times (d := 2) O (Nat.le_refl _) w27) w14 (by decide) rfl (by omega) jmw_X2_times jmv_X2_times jmn_X2_times (idx := 134) (jW_of 818 (by decide +kernel) rfl) (Nat.le_of_ble_eq_true rfl) (by decide +kernel)) ?_
      obtain ⟨w29, H⟩ := jgd_ok H
      obtain ⟨w30, H⟩ := jgd_ok H
      obtain ⟨w31, H⟩ := jgd_ok H
      obtain ⟨w32, H⟩ := jgd_ok H
      obtain ⟨v33, ev33, H⟩ := jlet_ok H
      refine jS.adv O [(.putfield 35, 0, 2, 6, 435, 0, 0), (.iload_n 1, 0, 0, 0, 0, 0, 0), (.aload_n 0, 0, 0, 0, 0, 0, 0), (.getfield 60, 0, 2, 12, 443, 0, 0), (.iload_n 2, 0, 0, 0, 0, 0, 0), (.aaload, 0, 5, 0, 0, 0, 0), (.getfield 133, 0, 4, 4, 506, 0, 0), (.ior, 0, 0, 0, 0, 0, 0), (.istore_n 1, 0, 0, 0, 0, 0, 0)] (pc' := 115) (ls' := [(1, .inl (y1 ||| (jI (jsL t28.2 y0 6 t28.1) (jP (jsL t28.2 y0 6 t28.1) (jP (jsL t28.2 y0 6 t28.1) y0 12) y2.toNatClampNeg) 4))), (0, .inr (.inr y0)), (2, .inl y2)]) (st' := []) (m2 := (jsL t28.2 y0 6 t28.1)) (by decide +kernel) rfl ⟨w29, w29, ⟨w30, jib_ok w31⟩, w32, trivial⟩ ?_
      refine jS.cast (c' := (115, [(1, .inl v33), (0, .inr (.inr y0)), (2, .inl y2)], [], (jsL t28.2 y0 6 t28.1))) (by rw [ev33]) ?_
      refine jS.adv O [(.iinc 2 1, 0, 0, 0, 0, (1 : Int32), 0), (.goto (-71), 0, 47, 0, 0, 0, 0)] (pc' := 47) (ls' := [(2, .inl (y2 + (1 : Int32))), (1, .inl v33), (0, .inr (.inr y0))]) (st' := []) (m2 := (jsL t28.2 y0 6 t28.1)) (by decide +kernel) rfl trivial ?_
      refine jS.loc' [2, 1, 0] (ls' := [(0, .inr (.inr y0)), (1, .inl v33), (2, .inl (y2 + (1 : Int32)))]) rfl ?_
      exact hB _ _ _ _ _ H h2
def c_X2_boundChecks_l47 (F : Nat) : Nat → jMe → Nat → Int32 → Int32 → Option (jMe)
  | 0, _, _, _, _ => none
  | n + 1, m, y0, y1, y2 => c_X2_boundChecks_l47_b F (fun m y0 y1 y2 => c_X2_boundChecks_l47 F n m y0 y1 y2) m y0 y1 y2
theorem ec_X2_boundChecks_l47 {X : jX} {l : Launch} {d : Nat} (O : jOk X) (hd : 5 ≤ d) {F : Nat} {m0 m' : jMe} {v : Option jAV} : ∀ (n : Nat) {m : jMe} {y0 : Nat} {y1 : Int32} {y2 : Int32} {r : jMe} (H : c_X2_boundChecks_l47 F n m y0 y1 y2 = some r) (h2 : jS X l d jm_X2_boundChecks m0 v m' (121, [], [], r)), jS X l d jm_X2_boundChecks m0 v m' (47, [(0, .inr (.inr y0)), (1, .inl y1), (2, .inl y2)], [], m) := by
  intro n
  induction n with
  | zero =>
    intro m y0 y1 y2 r H h2
    cases (show none = some r from H)
  | succ n ih =>
    intro m y0 y1 y2 r H h2
    exact ec_X2_boundChecks_l47_b O hd (B := (fun m y0 y1 y2 => c_X2_boundChecks_l47 F n m y0 y1 y2)) (fun m y0 y1 y2 r H h2 => ih H h2) H h2
def c_X2_boundChecks (F : Nat) (m : jMe) (x0 : Nat) : Option (jMe) :=
  jb (c_X2_boundChecks_l4 F F m x0 (0 : Int32) (0 : Int32)) fun e11 => jb (c_X2_boundChecks_l47 F F e11.1 e11.2.1 e11.2.2 (0 : Int32)) fun e35 => some e35
theorem ec_X2_boundChecks {X : jX} {l : Launch} {d : Nat} (O : jOk X) (hd : 5 ≤ d) {F : Nat} {m : jMe} {x0 : Nat} {r : jMe} (H : c_X2_boundChecks F m x0 = some r) : jH X l d jm_X2_boundChecks [.inr (.inr x0)] m none r := by
  refine jH.of jpl_RX2 rfl (Nat.le_of_ble_eq_true rfl) ?_
  show jS X l d jm_X2_boundChecks m _ _ (0, [(0, .inr (.inr x0))], [], m)
  unfold c_X2_boundChecks at H
  refine jS.adv O [(.iconst 0, 0, 0, 0, 0, (0 : Int32), 0), (.istore_n 1, 0, 0, 0, 0, 0, 0), (.iconst 0, 0, 0, 0, 0, (0 : Int32), 0), (.istore_n 2, 0, 0, 0, 0, 0, 0)] (pc' := 4) (ls' := [(2, .inl (0 : Int32)), (1, .inl (0 : Int32)), (0, .inr (.inr x0))]) (st' := []) (m2 := m) (by decide +kernel) rfl trivial ?_
  refine jS.loc' [2, 1, 0] (ls' := [(0, .inr (.inr x0)), (1, .inl (0 : Int32)), (2, .inl (0 : Int32))]) rfl ?_
  obtain ⟨e11, w12, H⟩ := jb_ok H
  refine ec_X2_boundChecks_l4 O hd F w12 ?_
  refine jS.adv O [(.iconst 0, 0, 0, 0, 0, (0 : Int32), 0), (.istore_n 2, 0, 0, 0, 0, 0, 0)] (pc' := 47) (ls' := [(2, .inl (0 : Int32)), (0, .inr (.inr e11.2.1)), (1, .inl e11.2.2)]) (st' := []) (m2 := e11.1) (by decide +kernel) rfl trivial ?_
  refine jS.loc' [1, 2, 0] (ls' := [(0, .inr (.inr e11.2.1)), (1, .inl e11.2.2), (2, .inl (0 : Int32))]) rfl ?_
  obtain ⟨e35, w36, H⟩ := jb_ok H
  refine ec_X2_boundChecks_l47 O hd F w36 ?_
  replace H := Option.some.inj H
  subst H
  exact jS.vret rfl (by decide +kernel)
def c_X2_tell_j67_l32 (F : Nat) (B : jMe → Nat → Nat → Nat → Int32 → Int32 → Option (jMe × Nat)) (m : jMe) (y0 : Nat) (y1 : Nat) (y2 : Nat) (y3 : Int32) (y4 : Int32) (s0 : Int32) (s1 : Int32) (s2 : Nat) : Option (jMe × Nat) :=
  jgd (jK m s2 = 1) <| jgd (jin s1 (jZ m s2) = true) <| B (jsI m s2 s1.toNatClampNeg s0) y0 y1 y2 y3 (y4 + (1 : Int32))
theorem ec_X2_tell_j67_l32 {X : jX} {l : Launch} {d : Nat} (O : jOk X) (hd : 6 ≤ d) {F : Nat} {m0 m' : jMe} {v : Option jAV} {B : jMe → Nat → Nat → Nat → Int32 → Int32 → Option (jMe × Nat)} (hB : ∀ (m : jMe) (y0 : Nat) (y1 : Nat) (y2 : Nat) (y3 : Int32) (y4 : Int32) (r : jMe × Nat), B m y0 y1 y2 y3 y4 = some r → (jS X l d jm_X2_tell m0 v m' (74, [(0, .inr (.inr r.2))], [], r.1)) → jS X l d jm_X2_tell m0 v m' (32, [(0, .inr (.inr y0)), (1, .inr (.inr y1)), (2, .inr (.inr y2)), (3, .inl y3), (4, .inl y4)], [], m)) {m : jMe} {y0 : Nat} {y1 : Nat} {y2 : Nat} {y3 : Int32} {y4 : Int32} {s0 : Int32} {s1 : Int32} {s2 : Nat} {r : jMe × Nat} (H : c_X2_tell_j67_l32 F B m y0 y1 y2 y3 y4 s0 s1 s2 = some r) (h2 : jS X l d jm_X2_tell m0 v m' (74, [(0, .inr (.inr r.2))], [], r.1)) : jS X l d jm_X2_tell m0 v m' (67, [(0, .inr (.inr y0)), (1, .inr (.inr y1)), (2, .inr (.inr y2)), (3, .inl y3), (4, .inl y4)], [.inl s0, .inl s1, .inr (.inr s2)], m) := by
  unfold c_X2_tell_j67_l32 at H
  obtain ⟨w10, H⟩ := jgd_ok H
  obtain ⟨w11, H⟩ := jgd_ok H
  refine jS.adv O [(.iastore, 0, 0, 0, 0, 0, 0), (.iinc 4 1, 0, 0, 0, 0, (1 : Int32), 0), (.goto (-39), 0, 32, 0, 0, 0, 0)] (pc' := 32) (ls' := [(4, .inl (y4 + (1 : Int32))), (0, .inr (.inr y0)), (1, .inr (.inr y1)), (2, .inr (.inr y2)), (3, .inl y3)]) (st' := []) (m2 := (jsI m s2 s1.toNatClampNeg s0)) (by decide +kernel) rfl ⟨⟨w10, jib_ok w11⟩, trivial⟩ ?_
  refine jS.loc' [1, 2, 3, 4, 0] (ls' := [(0, .inr (.inr y0)), (1, .inr (.inr y1)), (2, .inr (.inr y2)), (3, .inl y3), (4, .inl (y4 + (1 : Int32)))]) rfl ?_
  exact hB _ _ _ _ _ _ _ H h2
def c_X2_tell_l32_b (F : Nat) (B : jMe → Nat → Nat → Nat → Int32 → Int32 → Option (jMe × Nat)) (m : jMe) (y0 : Nat) (y1 : Nat) (y2 : Nat) (y3 : Int32) (y4 : Int32) : Option (jMe × Nat) :=
  (if (4 : Int32) ≤ y4 then some (m, y0) else jgd (jK m y0 = 34) <| jb (c_X9_isIn F m y3 y4) fun t8 => (if t8 = 0 then c_X2_tell_j67_l32 F B m y0 y1 y2 y3 y4 (0 : Int32) y4 (jP m y0 9) else jgd (jK m y1 = 5) <| jgd (jin y4 (jZ m y1) = true) <| jgd (jK m (jP m y1 y4.toNatClampNeg) = 36) <| jb (c_X4_passing F m (jP m y1 y4.toNatClampNeg) y2 y4) fun t16 => c_X2_tell_j67_l32 F B t16.2 y0 y1 y2 y3 y4 t16.1 y4 (jP m y0 9)))
theorem ec_X2_tell_l32_b {X : jX} {l : Launch} {d : Nat} (O : jOk X) (hd : 6 ≤ d) {F : Nat} {m0 m' : jMe} {v : Option jAV} {B : jMe → Nat → Nat → Nat → Int32 → Int32 → Option (jMe × Nat)} (hB : ∀ (m : jMe) (y0 : Nat) (y1 : Nat) (y2 : Nat) (y3 : Int32) (y4 : Int32) (r : jMe × Nat), B m y0 y1 y2 y3 y4 = some r → (jS X l d jm_X2_tell m0 v m' (74, [(0, .inr (.inr r.2))], [], r.1)) → jS X l d jm_X2_tell m0 v m' (32, [(0, .inr (.inr y0)), (1, .inr (.inr y1)), (2, .inr (.inr y2)), (3, .inl y3), (4, .inl y4)], [], m)) {m : jMe} {y0 : Nat} {y1 : Nat} {y2 : Nat} {y3 : Int32} {y4 : Int32} {r : jMe × Nat} (H : c_X2_tell_l32_b F B m y0 y1 y2 y3 y4 = some r) (h2 : jS X l d jm_X2_tell m0 v m' (74, [(0, .inr (.inr r.2))], [], r.1)) : jS X l d jm_X2_tell m0 v m' (32, [(0, .inr (.inr y0)), (1, .inr (.inr y1)), (2, .inr (.inr y2)), (3, .inl y3), (4, .inl y4)], [], m) := by
  unfold c_X2_tell_l32_b at H
  refine jS.adv O [(.iload 4, 0, 0, 0, 0, 0, 0), (.iconst 4, 0, 0, 0, 0, (4 : Int32), 0)] (pc' := 35) (ls' := [(0, .inr (.inr y0)), (1, .inr (.inr y1)), (2, .inr (.inr y2)), (3, .inl y3), (4, .inl y4)]) (st' := [.inl (4 : Int32), .inl y4]) (m2 := m) (by decide +kernel) rfl trivial ?_
  refine jS.br (i := .if_icmp .ge 39) (P := (4 : Int32) ≤ y4) (rest := []) rfl (by decide +kernel) (tgt := 74) (by decide) (fun c5 => ?_) (fun c5 => ?_)
  · replace H := jif_t c5 H
    replace H := Option.some.inj H
    subst H
    refine jS.loc' [0] (ls' := [(0, .inr (.inr y0))]) rfl ?_
    exact h2
  · replace H := jif_f c5 H
    obtain ⟨w6, H⟩ := jgd_ok H
    refine jS.adv O [(.aload_n 0, 0, 0, 0, 0, 0, 0), (.getfield 50, 0, 2, 9, 440, 0, 0), (.iload 4, 0, 0, 0, 0, 0, 0), (.iload_n 3, 0, 0, 0, 0, 0, 0), (.iload 4, 0, 0, 0, 0, 0, 0)] (pc' := 47) (ls' := [(0, .inr (.inr y0)), (1, .inr (.inr y1)), (2, .inr (.inr y2)), (3, .inl y3), (4, .inl y4)]) (st' := [.inl y4, .inl y3, .inl y4, .inr (.inr (jP m y0 9))]) (m2 := m) (by decide +kernel) rfl ⟨w6, trivial⟩ ?_
    obtain ⟨t8, w7, H⟩ := jb_ok H
    refine jS.step (c' := (50, [(0, .inr (.inr y0)), (1, .inr (.inr y1)), (2, .inr (.inr y2)), (3, .inl y3), (4, .inl y4)], [.inl t8, .inl y4, .inr (.inr (jP m y0 9))], m)) (jSt.callSN (As := [.inl y3, .inl y4]) (rest := [.inl y4, .inr (.inr (jP m y0 9))]) O (ec_X9_isIn (d := 2) O (Nat.le_refl _) w7) (by omega) jmw_X9_isIn jmv_X9_isIn jmn_X9_isIn (host := "JoinDraws") (idx := 83) jln_JoinDraws_Join_83 (Nat.le_of_ble_eq_true rfl) (by decide +kernel)) ?_
    refine jS.br (i := .ifCond .eq 16) (P := t8 = 0) (rest := [.inl y4, .inr (.inr (jP m y0 9))]) rfl (by decide +kernel) (tgt := 66) (by decide) (fun c9 => ?_) (fun c9 => ?_)
    · replace H := jif_t c9 H
      refine jS.adv O [(.iconst 0, 0, 0, 0, 0, (0 : Int32), 0)] (pc' := 67) (ls' := [(0, .inr (.inr y0)), (1, .inr (.inr y1)), (2, .inr (.inr y2)), (3, .inl y3), (4, .inl y4)]) (st' := [.inl (0 : Int32), .inl y4, .inr (.inr (jP m y0 9))]) (m2 := m) (by decide +kernel) rfl trivial ?_
      refine jS.loc' [0, 1, 2, 3, 4] (ls' := [(0, .inr (.inr y0)), (1, .inr (.inr y1)), (2, .inr (.inr y2)), (3, .inl y3), (4, .inl y4)]) rfl ?_
      exact ec_X2_tell_j67_l32 O hd hB H h2
    · replace H := jif_f c9 H
      obtain ⟨w12, H⟩ := jgd_ok H
      obtain ⟨w13, H⟩ := jgd_ok H
      obtain ⟨w14, H⟩ := jgd_ok H
      refine jS.adv O [(.aload_n 1, 0, 0, 0, 0, 0, 0), (.iload 4, 0, 0, 0, 0, 0, 0), (.aaload, 0, 5, 0, 0, 0, 0), (.aload_n 2, 0, 0, 0, 0, 0, 0), (.iload 4, 0, 0, 0, 0, 0, 0)] (pc' := 60) (ls' := [(0, .inr (.inr y0)), (1, .inr (.inr y1)), (2, .inr (.inr y2)), (3, .inl y3), (4, .inl y4)]) (st' := [.inl y4, .inr (.inr y2), .inr (.inr (jP m y1 y4.toNatClampNeg)), .inl y4, .inr (.inr (jP m y0 9))]) (m2 := m) (by decide +kernel) rfl ⟨⟨w12, jib_ok w13⟩, trivial⟩ ?_
      obtain ⟨t16, w15, H⟩ := jb_ok H
      refine jS.step (c' := (63, [(0, .inr (.inr y0)), (1, .inr (.inr y1)), (2, .inr (.inr y2)), (3, .inl y3), (4, .inl y4)], [.inl t16.1, .inl y4, .inr (.inr (jP m y0 9))], t16.2)) (jSt.callV (c := 4) (As := [.inr (.inr y2), .inl y4]) (rest := [.inl y4, .inr (.inr (jP m y0 9))]) O (ec_X4_passing (d := 5) O (Nat.le_refl _) w15) w14 (by decide) rfl (by omega) jmw_X4_passing jmv_X4_passing jmn_X4_passing (idx := 87) (jW_of 796 (by decide +kernel) rfl) (Nat.le_of_ble_eq_true rfl) (by decide +kernel)) ?_
      refine jS.adv O [(.goto 4, 0, 67, 0, 0, 0, 0)] (pc' := 67) (ls' := [(0, .inr (.inr y0)), (1, .inr (.inr y1)), (2, .inr (.inr y2)), (3, .inl y3), (4, .inl y4)]) (st' := [.inl t16.1, .inl y4, .inr (.inr (jP m y0 9))]) (m2 := t16.2) (by decide +kernel) rfl trivial ?_
      refine jS.loc' [0, 1, 2, 3, 4] (ls' := [(0, .inr (.inr y0)), (1, .inr (.inr y1)), (2, .inr (.inr y2)), (3, .inl y3), (4, .inl y4)]) rfl ?_
      exact ec_X2_tell_j67_l32 O hd hB H h2
def c_X2_tell_l32 (F : Nat) : Nat → jMe → Nat → Nat → Nat → Int32 → Int32 → Option (jMe × Nat)
  | 0, _, _, _, _, _, _ => none
  | n + 1, m, y0, y1, y2, y3, y4 => c_X2_tell_l32_b F (fun m y0 y1 y2 y3 y4 => c_X2_tell_l32 F n m y0 y1 y2 y3 y4) m y0 y1 y2 y3 y4
theorem ec_X2_tell_l32 {X : jX} {l : Launch} {d : Nat} (O : jOk X) (hd : 6 ≤ d) {F : Nat} {m0 m' : jMe} {v : Option jAV} : ∀ (n : Nat) {m : jMe} {y0 : Nat} {y1 : Nat} {y2 : Nat} {y3 : Int32} {y4 : Int32} {r : jMe × Nat} (H : c_X2_tell_l32 F n m y0 y1 y2 y3 y4 = some r) (h2 : jS X l d jm_X2_tell m0 v m' (74, [(0, .inr (.inr r.2))], [], r.1)), jS X l d jm_X2_tell m0 v m' (32, [(0, .inr (.inr y0)), (1, .inr (.inr y1)), (2, .inr (.inr y2)), (3, .inl y3), (4, .inl y4)], [], m) := by
  intro n
  induction n with
  | zero =>
    intro m y0 y1 y2 y3 y4 r H h2
    cases (show none = some r from H)
  | succ n ih =>
    intro m y0 y1 y2 y3 y4 r H h2
    exact ec_X2_tell_l32_b O hd (B := (fun m y0 y1 y2 y3 y4 => c_X2_tell_l32 F n m y0 y1 y2 y3 y4)) (fun m y0 y1 y2 y3 y4 r H h2 => ih H h2) H h2
def c_X2_tell_l85_b (F : Nat) (B : jMe → Nat → Int32 → Option (jMe × Nat)) (m : jMe) (y0 : Nat) (y4 : Int32) : Option (jMe × Nat) :=
  jgd (jK m y0 = 34) <| jgd (jK m (jP m y0 0) = 40) <| (if (jI m (jP m y0 0) 4) ≤ y4 then some (m, y0) else jgd (jK m (jP m (jP m y0 0) 2) = 1) <| jgd (jin y4 (jZ m (jP m (jP m y0 0) 2)) = true) <| jb (c_X2_weigh F m y0 (jI m (jP m (jP m y0 0) 2) y4.toNatClampNeg)) fun t29 => B t29 y0 (y4 + (1 : Int32)))
theorem ec_X2_tell_l85_b {X : jX} {l : Launch} {d : Nat} (O : jOk X) (hd : 6 ≤ d) {F : Nat} {m0 m' : jMe} {v : Option jAV} {B : jMe → Nat → Int32 → Option (jMe × Nat)} (hB : ∀ (m : jMe) (y0 : Nat) (y4 : Int32) (r : jMe × Nat), B m y0 y4 = some r → (jS X l d jm_X2_tell m0 v m' (117, [(0, .inr (.inr r.2))], [], r.1)) → jS X l d jm_X2_tell m0 v m' (85, [(0, .inr (.inr y0)), (4, .inl y4)], [], m)) {m : jMe} {y0 : Nat} {y4 : Int32} {r : jMe × Nat} (H : c_X2_tell_l85_b F B m y0 y4 = some r) (h2 : jS X l d jm_X2_tell m0 v m' (117, [(0, .inr (.inr r.2))], [], r.1)) : jS X l d jm_X2_tell m0 v m' (85, [(0, .inr (.inr y0)), (4, .inl y4)], [], m) := by
  unfold c_X2_tell_l85_b at H
  obtain ⟨w23, H⟩ := jgd_ok H
  obtain ⟨w24, H⟩ := jgd_ok H
  refine jS.adv O [(.iload 4, 0, 0, 0, 0, 0, 0), (.aload_n 0, 0, 0, 0, 0, 0, 0), (.getfield 12, 0, 2, 0, 424, 0, 0), (.getfield 98, 0, 8, 4, 395, 0, 0)] (pc' := 94) (ls' := [(0, .inr (.inr y0)), (4, .inl y4)]) (st' := [.inl (jI m (jP m y0 0) 4), .inl y4]) (m2 := m) (by decide +kernel) rfl ⟨w23, w24, trivial⟩ ?_
  refine jS.br (i := .if_icmp .ge 23) (P := (jI m (jP m y0 0) 4) ≤ y4) (rest := []) rfl (by decide +kernel) (tgt := 117) (by decide) (fun c25 => ?_) (fun c25 => ?_)
  · replace H := jif_t c25 H
    replace H := Option.some.inj H
    subst H
    refine jS.loc' [0] (ls' := [(0, .inr (.inr y0))]) rfl ?_
    exact h2
  · replace H := jif_f c25 H
    obtain ⟨w26, H⟩ := jgd_ok H
    obtain ⟨w27, H⟩ := jgd_ok H
    refine jS.adv O [(.aload_n 0, 0, 0, 0, 0, 0, 0), (.aload_n 0, 0, 0, 0, 0, 0, 0), (.getfield 12, 0, 2, 0, 424, 0, 0), (.getfield 101, 0, 8, 2, 392, 0, 0), (.iload 4, 0, 0, 0, 0, 0, 0), (.iaload, 0, 1, 0, 0, 0, 0)] (pc' := 108) (ls' := [(0, .inr (.inr y0)), (4, .inl y4)]) (st' := [.inl (jI m (jP m (jP m y0 0) 2) y4.toNatClampNeg), .inr (.inr y0)]) (m2 := m) (by decide +kernel) rfl ⟨w23, w24, ⟨w26, jib_ok w27⟩, trivial⟩ ?_
    obtain ⟨t29, w28, H⟩ := jb_ok H
    refine jS.step (c' := (111, [(0, .inr (.inr y0)), (4, .inl y4)], [], t29)) (jSt.callV (c := 2) (As := [.inl (jI m (jP m (jP m y0 0) 2) y4.toNatClampNeg)]) (rest := []) O (ec_X2_weigh (d := 4) O (Nat.le_refl _) w28) w23 (by decide) rfl (by omega) jmw_X2_weigh jmv_X2_weigh jmn_X2_weigh (idx := 104) (jW_of 800 (by decide +kernel) rfl) (Nat.le_of_ble_eq_true rfl) (by decide +kernel)) ?_
    refine jS.adv O [(.iinc 4 1, 0, 0, 0, 0, (1 : Int32), 0), (.goto (-29), 0, 85, 0, 0, 0, 0)] (pc' := 85) (ls' := [(4, .inl (y4 + (1 : Int32))), (0, .inr (.inr y0))]) (st' := []) (m2 := t29) (by decide +kernel) rfl trivial ?_
    refine jS.loc' [1, 0] (ls' := [(0, .inr (.inr y0)), (4, .inl (y4 + (1 : Int32)))]) rfl ?_
    exact hB _ _ _ _ H h2
def c_X2_tell_l85 (F : Nat) : Nat → jMe → Nat → Int32 → Option (jMe × Nat)
  | 0, _, _, _ => none
  | n + 1, m, y0, y4 => c_X2_tell_l85_b F (fun m y0 y4 => c_X2_tell_l85 F n m y0 y4) m y0 y4
theorem ec_X2_tell_l85 {X : jX} {l : Launch} {d : Nat} (O : jOk X) (hd : 6 ≤ d) {F : Nat} {m0 m' : jMe} {v : Option jAV} : ∀ (n : Nat) {m : jMe} {y0 : Nat} {y4 : Int32} {r : jMe × Nat} (H : c_X2_tell_l85 F n m y0 y4 = some r) (h2 : jS X l d jm_X2_tell m0 v m' (117, [(0, .inr (.inr r.2))], [], r.1)), jS X l d jm_X2_tell m0 v m' (85, [(0, .inr (.inr y0)), (4, .inl y4)], [], m) := by
  intro n
  induction n with
  | zero =>
    intro m y0 y4 r H h2
    cases (show none = some r from H)
  | succ n ih =>
    intro m y0 y4 r H h2
    exact ec_X2_tell_l85_b O hd (B := (fun m y0 y4 => c_X2_tell_l85 F n m y0 y4)) (fun m y0 y4 r H h2 => ih H h2) H h2
def c_X2_tell_j146 (F : Nat) (m : jMe) (y0 : Nat) (s0 : Int64) (s1 : Nat) : Option (jMe) :=
  jgd (jK m s1 = 34) <| jgd (jK m y0 = 34) <| jb (c_X2_boundChecks F (jsL m s1 6 s0) y0) fun t41 => some t41
theorem ec_X2_tell_j146 {X : jX} {l : Launch} {d : Nat} (O : jOk X) (hd : 6 ≤ d) {F : Nat} {m0 m : jMe} {y0 : Nat} {s0 : Int64} {s1 : Nat} {r : jMe} (H : c_X2_tell_j146 F m y0 s0 s1 = some r) : jS X l d jm_X2_tell m0 none r (146, [(0, .inr (.inr y0))], [.inr (.inl s0), .inr (.inr s1)], m) := by
  unfold c_X2_tell_j146 at H
  obtain ⟨w38, H⟩ := jgd_ok H
  obtain ⟨w39, H⟩ := jgd_ok H
  refine jS.adv O [(.putfield 35, 0, 2, 6, 435, 0, 0), (.aload_n 0, 0, 0, 0, 0, 0, 0)] (pc' := 150) (ls' := [(0, .inr (.inr y0))]) (st' := [.inr (.inr y0)]) (m2 := (jsL m s1 6 s0)) (by decide +kernel) rfl ⟨w38, trivial⟩ ?_
  obtain ⟨t41, w40, H⟩ := jb_ok H
  refine jS.step (c' := (153, [(0, .inr (.inr y0))], [], t41)) (jSt.callV (c := 2) (As := []) (rest := []) O (ec_X2_boundChecks (d := 5) O (Nat.le_refl _) w40) w39 (by decide) rfl (by omega) jmw_X2_boundChecks jmv_X2_boundChecks jmn_X2_boundChecks (idx := 115) (jW_of 822 (by decide +kernel) rfl) (Nat.le_of_ble_eq_true rfl) (by decide +kernel)) ?_
  replace H := Option.some.inj H
  subst H
  exact jS.vret rfl (by decide +kernel)
def c_X2_tell (F : Nat) (m : jMe) (x0 : Nat) (x1 : Nat) (x2 : Nat) (x3 : Int32) : Option (jMe) :=
  jgd (jK m x0 = 34) <| jgd (jK m (jP (jsI (jsI (jsI (jsP m x0 12 x1) x0 13 x3) x0 5 (0 : Int32)) x0 14 (0 : Int32)) x0 0) = 40) <| jb (c_X8_grow F (jsI (jsI (jsI (jsP m x0 12 x1) x0 13 x3) x0 5 (0 : Int32)) x0 14 (0 : Int32)) (jP (jsI (jsI (jsI (jsP m x0 12 x1) x0 13 x3) x0 5 (0 : Int32)) x0 14 (0 : Int32)) x0 0) x1 x3) fun t4 => jb (c_X2_tell_l32 F F t4 x0 x1 x2 x3 (0 : Int32)) fun e18 => jgd (jK e18.1 e18.2 = 34) <| jb (c_J7_fill_d0a16 F e18.1 (jP e18.1 e18.2 1) (0 : Int64)) fun t22 => jb (c_X2_tell_l85 F F t22 e18.2 (0 : Int32)) fun e31 => jgd (jK e31.1 e31.2 = 34) <| jgd (jK e31.1 (jP e31.1 e31.2 0) = 40) <| (if (jI e31.1 (jP e31.1 e31.2 0) 5) = (-1 : Int32) then c_X2_tell_j146 F e31.1 e31.2 (0 : Int64) e31.2 else jb (c_X2_sumOf F e31.1 e31.2 (jI e31.1 (jP e31.1 e31.2 0) 5) (0 : Int32) (0 : Int32)) fun t37 => c_X2_tell_j146 F t37.2 e31.2 t37.1 e31.2)
theorem ec_X2_tell {X : jX} {l : Launch} {d : Nat} (O : jOk X) (hd : 6 ≤ d) {F : Nat} {m : jMe} {x0 : Nat} {x1 : Nat} {x2 : Nat} {x3 : Int32} {r : jMe} (H : c_X2_tell F m x0 x1 x2 x3 = some r) : jH X l d jm_X2_tell [.inr (.inr x0), .inr (.inr x1), .inr (.inr x2), .inl x3] m none r := by
  refine jH.of jpl_RX2 rfl (Nat.le_of_ble_eq_true rfl) ?_
  show jS X l d jm_X2_tell m _ _ (0, [(0, .inr (.inr x0)), (1, .inr (.inr x1)), (2, .inr (.inr x2)), (3, .inl x3)], [], m)
  unfold c_X2_tell at H
  obtain ⟨w1, H⟩ := jgd_ok H
  obtain ⟨w2, H⟩ := jgd_ok H
  refine jS.adv O [(.aload_n 0, 0, 0, 0, 0, 0, 0), (.aload_n 1, 0, 0, 0, 0, 0, 0), (.putfield 60, 0, 2, 12, 443, 0, 0), (.aload_n 0, 0, 0, 0, 0, 0, 0), (.iload_n 3, 0, 0, 0, 0, 0, 0), (.putfield 64, 0, 2, 13, 444, 0, 0), (.aload_n 0, 0, 0, 0, 0, 0, 0), (.iconst 0, 0, 0, 0, 0, (0 : Int32), 0), (.putfield 31, 0, 2, 5, 433, 0, 0), (.aload_n 0, 0, 0, 0, 0, 0, 0), (.iconst 0, 0, 0, 0, 0, (0 : Int32), 0), (.putfield 67, 0, 2, 14, 445, 0, 0), (.aload_n 0, 0, 0, 0, 0, 0, 0), (.getfield 12, 0, 2, 0, 424, 0, 0), (.aload_n 1, 0, 0, 0, 0, 0, 0), (.iload_n 3, 0, 0, 0, 0, 0, 0)] (pc' := 26) (ls' := [(0, .inr (.inr x0)), (1, .inr (.inr x1)), (2, .inr (.inr x2)), (3, .inl x3)]) (st' := [.inl x3, .inr (.inr x1), .inr (.inr (jP (jsI (jsI (jsI (jsP m x0 12 x1) x0 13 x3) x0 5 (0 : Int32)) x0 14 (0 : Int32)) x0 0))]) (m2 := (jsI (jsI (jsI (jsP m x0 12 x1) x0 13 x3) x0 5 (0 : Int32)) x0 14 (0 : Int32))) (by decide +kernel) rfl ⟨w1, w1, ⟨w1, Or.inl rfl⟩, ⟨w1, Or.inl rfl⟩, w1, trivial⟩ ?_
  obtain ⟨t4, w3, H⟩ := jb_ok H
  refine jS.step (c' := (29, [(0, .inr (.inr x0)), (1, .inr (.inr x1)), (2, .inr (.inr x2)), (3, .inl x3)], [], t4)) (jSt.callV (c := 8) (As := [.inr (.inr x1), .inl x3]) (rest := []) O (ec_X8_grow (d := 5) O (Nat.le_refl _) w3) w2 (by decide) rfl (by omega) jmw_X8_grow jmv_X8_grow jmn_X8_grow (idx := 79) (jW_of 770 (by decide +kernel) rfl) (Nat.le_of_ble_eq_true rfl) (by decide +kernel)) ?_
  refine jS.adv O [(.iconst 0, 0, 0, 0, 0, (0 : Int32), 0), (.istore 4, 0, 0, 0, 0, 0, 0)] (pc' := 32) (ls' := [(4, .inl (0 : Int32)), (0, .inr (.inr x0)), (1, .inr (.inr x1)), (2, .inr (.inr x2)), (3, .inl x3)]) (st' := []) (m2 := t4) (by decide +kernel) rfl trivial ?_
  refine jS.loc' [1, 2, 3, 4, 0] (ls' := [(0, .inr (.inr x0)), (1, .inr (.inr x1)), (2, .inr (.inr x2)), (3, .inl x3), (4, .inl (0 : Int32))]) rfl ?_
  obtain ⟨e18, w19, H⟩ := jb_ok H
  refine ec_X2_tell_l32 O hd F w19 ?_
  obtain ⟨w20, H⟩ := jgd_ok H
  refine jS.adv O [(.aload_n 0, 0, 0, 0, 0, 0, 0), (.getfield 18, 0, 2, 1, 426, 0, 0), (.lconst 0, 0, 0, 0, 0, 0, (0 : Int64))] (pc' := 79) (ls' := [(0, .inr (.inr e18.2))]) (st' := [.inr (.inl (0 : Int64)), .inr (.inr (jP e18.1 e18.2 1))]) (m2 := e18.1) (by decide +kernel) rfl ⟨w20, trivial⟩ ?_
  obtain ⟨t22, w21, H⟩ := jb_ok H
  refine jS.step (c' := (82, [(0, .inr (.inr e18.2))], [], t22)) (jSt.callS (As := [.inr (.inr (jP e18.1 e18.2 1)), .inr (.inl (0 : Int64))]) (rest := []) O (ec_J7_fill_d0a16 (d := 2) O (Nat.le_refl _) w21) (by omega) jmw_J7_fill_d0a16 jmv_J7_fill_d0a16 jmn_J7_fill_d0a16 (idx := 92) (jW_of 797 (by decide +kernel) rfl) (Nat.le_of_ble_eq_true rfl) (by decide +kernel)) ?_
  refine jS.adv O [(.iconst 0, 0, 0, 0, 0, (0 : Int32), 0), (.istore 4, 0, 0, 0, 0, 0, 0)] (pc' := 85) (ls' := [(4, .inl (0 : Int32)), (0, .inr (.inr e18.2))]) (st' := []) (m2 := t22) (by decide +kernel) rfl trivial ?_
  refine jS.loc' [1, 0] (ls' := [(0, .inr (.inr e18.2)), (4, .inl (0 : Int32))]) rfl ?_
  obtain ⟨e31, w32, H⟩ := jb_ok H
  refine ec_X2_tell_l85 O hd F w32 ?_
  obtain ⟨w33, H⟩ := jgd_ok H
  obtain ⟨w34, H⟩ := jgd_ok H
  refine jS.adv O [(.aload_n 0, 0, 0, 0, 0, 0, 0), (.aload_n 0, 0, 0, 0, 0, 0, 0), (.getfield 12, 0, 2, 0, 424, 0, 0), (.getfield 108, 0, 8, 5, 397, 0, 0), (.iconst (-1), 0, 0, 0, 0, (-1 : Int32), 0)] (pc' := 126) (ls' := [(0, .inr (.inr e31.2))]) (st' := [.inl (-1 : Int32), .inl (jI e31.1 (jP e31.1 e31.2 0) 5), .inr (.inr e31.2)]) (m2 := e31.1) (by decide +kernel) rfl ⟨w33, w34, trivial⟩ ?_
  refine jS.br (i := .if_icmp .ne 7) (P := ¬ (jI e31.1 (jP e31.1 e31.2 0) 5) = (-1 : Int32)) (rest := [.inr (.inr e31.2)]) rfl (by decide +kernel) (tgt := 133) (by decide) (fun c35 => ?_) (fun c35 => ?_)
  · replace H := jif_f c35 H
    refine jS.adv O [(.aload_n 0, 0, 0, 0, 0, 0, 0), (.aload_n 0, 0, 0, 0, 0, 0, 0), (.getfield 12, 0, 2, 0, 424, 0, 0), (.getfield 108, 0, 8, 5, 397, 0, 0), (.iconst 0, 0, 0, 0, 0, (0 : Int32), 0), (.iconst 0, 0, 0, 0, 0, (0 : Int32), 0)] (pc' := 143) (ls' := [(0, .inr (.inr e31.2))]) (st' := [.inl (0 : Int32), .inl (0 : Int32), .inl (jI e31.1 (jP e31.1 e31.2 0) 5), .inr (.inr e31.2), .inr (.inr e31.2)]) (m2 := e31.1) (by decide +kernel) rfl ⟨w33, w34, trivial⟩ ?_
    obtain ⟨t37, w36, H⟩ := jb_ok H
    refine jS.step (c' := (146, [(0, .inr (.inr e31.2))], [.inr (.inl t37.1), .inr (.inr e31.2)], t37.2)) (jSt.callV (c := 2) (As := [.inl (jI e31.1 (jP e31.1 e31.2 0) 5), .inl (0 : Int32), .inl (0 : Int32)]) (rest := [.inr (.inr e31.2)]) O (ec_X2_sumOf (d := 3) O (Nat.le_refl _) w36) w33 (by decide) rfl (by omega) jmw_X2_sumOf jmv_X2_sumOf jmn_X2_sumOf (idx := 111) (jW_of 805 (by decide +kernel) rfl) (Nat.le_of_ble_eq_true rfl) (by decide +kernel)) ?_
    refine jS.loc' [0] (ls' := [(0, .inr (.inr e31.2))]) rfl ?_
    exact ec_X2_tell_j146 O hd H
  · replace H := jif_t (Classical.not_not.mp c35) H
    refine jS.adv O [(.lconst 0, 0, 0, 0, 0, 0, (0 : Int64)), (.goto 16, 0, 146, 0, 0, 0, 0)] (pc' := 146) (ls' := [(0, .inr (.inr e31.2))]) (st' := [.inr (.inl (0 : Int64)), .inr (.inr e31.2)]) (m2 := e31.1) (by decide +kernel) rfl trivial ?_
    refine jS.loc' [0] (ls' := [(0, .inr (.inr e31.2))]) rfl ?_
    exact ec_X2_tell_j146 O hd H
def c_X2_isTold (F : Nat) (m : jMe) (x0 : Nat) : Option (Int32) :=
  jgd (jK m x0 = 34) <| (if (jI m x0 13) = 0 then some (0 : Int32) else (if (jI m x0 5) = 0 then some (1 : Int32) else some (0 : Int32)))
theorem ec_X2_isTold {X : jX} {l : Launch} {d : Nat} (O : jOk X) (hd : 2 ≤ d) {F : Nat} {m : jMe} {x0 : Nat} {r : Int32} (H : c_X2_isTold F m x0 = some r) : jH X l d jm_X2_isTold [.inr (.inr x0)] m (some (.inl r)) m := by
  refine jH.of jpl_RX2 rfl (Nat.le_of_ble_eq_true rfl) ?_
  show jS X l d jm_X2_isTold m _ _ (0, [(0, .inr (.inr x0))], [], m)
  unfold c_X2_isTold at H
  obtain ⟨w1, H⟩ := jgd_ok H
  refine jS.adv O [(.aload_n 0, 0, 0, 0, 0, 0, 0), (.getfield 64, 0, 2, 13, 444, 0, 0)] (pc' := 4) (ls' := [(0, .inr (.inr x0))]) (st' := [.inl (jI m x0 13)]) (m2 := m) (by decide +kernel) rfl ⟨w1, trivial⟩ ?_
  refine jS.br (i := .ifCond .eq 14) (P := (jI m x0 13) = 0) (rest := []) rfl (by decide +kernel) (tgt := 18) (by decide) (fun c2 => ?_) (fun c2 => ?_)
  · replace H := jif_t c2 H
    refine jS.adv O [(.iconst 0, 0, 0, 0, 0, (0 : Int32), 0)] (pc' := 19) (ls' := [(0, .inr (.inr x0))]) (st' := [.inl (0 : Int32)]) (m2 := m) (by decide +kernel) rfl trivial ?_
    replace H := Option.some.inj H
    subst H
    exact jS.zret rfl (Or.inl rfl) (by decide +kernel)
  · replace H := jif_f c2 H
    refine jS.adv O [(.aload_n 0, 0, 0, 0, 0, 0, 0), (.getfield 31, 0, 2, 5, 433, 0, 0)] (pc' := 11) (ls' := [(0, .inr (.inr x0))]) (st' := [.inl (jI m x0 5)]) (m2 := m) (by decide +kernel) rfl ⟨w1, trivial⟩ ?_
    refine jS.br (i := .ifCond .ne 7) (P := ¬ (jI m x0 5) = 0) (rest := []) rfl (by decide +kernel) (tgt := 18) (by decide) (fun c3 => ?_) (fun c3 => ?_)
    · replace H := jif_f c3 H
      refine jS.adv O [(.iconst 0, 0, 0, 0, 0, (0 : Int32), 0)] (pc' := 19) (ls' := [(0, .inr (.inr x0))]) (st' := [.inl (0 : Int32)]) (m2 := m) (by decide +kernel) rfl trivial ?_
      replace H := Option.some.inj H
      subst H
      exact jS.zret rfl (Or.inl rfl) (by decide +kernel)
    · replace H := jif_t (Classical.not_not.mp c3) H
      refine jS.adv O [(.iconst 1, 0, 0, 0, 0, (1 : Int32), 0), (.goto 4, 0, 19, 0, 0, 0, 0)] (pc' := 19) (ls' := [(0, .inr (.inr x0))]) (st' := [.inl (1 : Int32)]) (m2 := m) (by decide +kernel) rfl trivial ?_
      replace H := Option.some.inj H
      subst H
      exact jS.zret rfl (Or.inr rfl) (by decide +kernel)
def c_X2_seat (F : Nat) (m : jMe) (x0 : Nat) (x1 : Int32) (x2 : Int32) : Option (jMe) :=
  jgd (jK m x0 = 34) <| jgd (jK m (jP m x0 10) = 1) <| jgd (jin x1 (jZ m (jP m x0 10)) = true) <| jgd (jK m (jP (jsI m (jP m x0 10) x1.toNatClampNeg x2) x0 12) = 5) <| jgd (jin x1 (jZ m (jP (jsI m (jP m x0 10) x1.toNatClampNeg x2) x0 12)) = true) <| jgd (jK m (jP (jsI m (jP m x0 10) x1.toNatClampNeg x2) (jP (jsI m (jP m x0 10) x1.toNatClampNeg x2) x0 12) x1.toNatClampNeg) = 36) <| jgd (jK m (jP (jsI m (jP m x0 10) x1.toNatClampNeg x2) (jP (jsI m (jP m x0 10) x1.toNatClampNeg x2) (jP (jsI m (jP m x0 10) x1.toNatClampNeg x2) x0 12) x1.toNatClampNeg) 0) = 1) <| jgd (jin x2 (jZ m (jP (jsI m (jP m x0 10) x1.toNatClampNeg x2) (jP (jsI m (jP m x0 10) x1.toNatClampNeg x2) (jP (jsI m (jP m x0 10) x1.toNatClampNeg x2) x0 12) x1.toNatClampNeg) 0)) = true) <| jlet (jsI (jsI m (jP m x0 10) x1.toNatClampNeg x2) x0 16 ((jI (jsI m (jP m x0 10) x1.toNatClampNeg x2) x0 16) ||| (jI (jsI m (jP m x0 10) x1.toNatClampNeg x2) (jP (jsI m (jP m x0 10) x1.toNatClampNeg x2) (jP (jsI m (jP m x0 10) x1.toNatClampNeg x2) (jP (jsI m (jP m x0 10) x1.toNatClampNeg x2) x0 12) x1.toNatClampNeg) 0) x2.toNatClampNeg))) fun m9 => jgd (jK m9 x0 = 34) <| jgd (jK m9 (jP m9 x0 12) = 5) <| jgd (jin x1 (jZ m9 (jP m9 x0 12)) = true) <| jgd (jK m9 (jP m9 (jP m9 x0 12) x1.toNatClampNeg) = 36) <| some (jsI m9 x0 17 ((jI m9 x0 17) ||| (jI m9 (jP m9 (jP m9 x0 12) x1.toNatClampNeg) 4)))
theorem ec_X2_seat {X : jX} {l : Launch} {d : Nat} (O : jOk X) (hd : 2 ≤ d) {F : Nat} {m : jMe} {x0 : Nat} {x1 : Int32} {x2 : Int32} {r : jMe} (H : c_X2_seat F m x0 x1 x2 = some r) : jH X l d jm_X2_seat [.inr (.inr x0), .inl x1, .inl x2] m none r := by
  refine jH.of jpl_RX2 rfl (Nat.le_of_ble_eq_true rfl) ?_
  show jS X l d jm_X2_seat m _ _ (0, [(0, .inr (.inr x0)), (1, .inl x1), (2, .inl x2)], [], m)
  unfold c_X2_seat at H
  obtain ⟨w1, H⟩ := jgd_ok H
  obtain ⟨w2, H⟩ := jgd_ok H
  obtain ⟨w3, H⟩ := jgd_ok H
  obtain ⟨w4, H⟩ := jgd_ok H
  obtain ⟨w5, H⟩ := jgd_ok H
  obtain ⟨w6, H⟩ := jgd_ok H
  obtain ⟨w7, H⟩ := jgd_ok H
  obtain ⟨w8, H⟩ := jgd_ok H
  obtain ⟨m9, em9, H⟩ := jlet_ok H
  refine jS.adv O [(.aload_n 0, 0, 0, 0, 0, 0, 0), (.getfield 54, 0, 2, 10, 441, 0, 0), (.iload_n 1, 0, 0, 0, 0, 0, 0), (.iload_n 2, 0, 0, 0, 0, 0, 0), (.iastore, 0, 0, 0, 0, 0, 0), (.aload_n 0, 0, 0, 0, 0, 0, 0), (.dup, 0, 0, 0, 0, 0, 0), (.getfield 73, 0, 2, 16, 447, 0, 0), (.aload_n 0, 0, 0, 0, 0, 0, 0), (.getfield 60, 0, 2, 12, 443, 0, 0), (.iload_n 1, 0, 0, 0, 0, 0, 0), (.aaload, 0, 5, 0, 0, 0, 0), (.getfield 130, 0, 4, 0, 494, 0, 0), (.iload_n 2, 0, 0, 0, 0, 0, 0), (.iaload, 0, 1, 0, 0, 0, 0), (.ior, 0, 0, 0, 0, 0, 0), (.putfield 73, 0, 2, 16, 447, 0, 0)] (pc' := 27) (ls' := [(0, .inr (.inr x0)), (1, .inl x1), (2, .inl x2)]) (st' := []) (m2 := (jsI (jsI m (jP m x0 10) x1.toNatClampNeg x2) x0 16 ((jI (jsI m (jP m x0 10) x1.toNatClampNeg x2) x0 16) ||| (jI (jsI m (jP m x0 10) x1.toNatClampNeg x2) (jP (jsI m (jP m x0 10) x1.toNatClampNeg x2) (jP (jsI m (jP m x0 10) x1.toNatClampNeg x2) (jP (jsI m (jP m x0 10) x1.toNatClampNeg x2) x0 12) x1.toNatClampNeg) 0) x2.toNatClampNeg)))) (by decide +kernel) rfl ⟨w1, ⟨w2, jib_ok w3⟩, w1, w1, ⟨w4, jib_ok w5⟩, w6, ⟨w7, jib_ok w8⟩, w1, trivial⟩ ?_
  refine jS.cast (c' := (27, [(0, .inr (.inr x0)), (1, .inl x1), (2, .inl x2)], [], m9)) (by rw [em9]) ?_
  obtain ⟨w10, H⟩ := jgd_ok H
  obtain ⟨w11, H⟩ := jgd_ok H
  obtain ⟨w12, H⟩ := jgd_ok H
  obtain ⟨w13, H⟩ := jgd_ok H
  refine jS.adv O [(.aload_n 0, 0, 0, 0, 0, 0, 0), (.dup, 0, 0, 0, 0, 0, 0), (.getfield 76, 0, 2, 17, 448, 0, 0), (.aload_n 0, 0, 0, 0, 0, 0, 0), (.getfield 60, 0, 2, 12, 443, 0, 0), (.iload_n 1, 0, 0, 0, 0, 0, 0), (.aaload, 0, 5, 0, 0, 0, 0), (.getfield 133, 0, 4, 4, 506, 0, 0), (.ior, 0, 0, 0, 0, 0, 0), (.putfield 76, 0, 2, 17, 448, 0, 0)] (pc' := 45) (ls' := [(0, .inr (.inr x0)), (1, .inl x1), (2, .inl x2)]) (st' := []) (m2 := (jsI m9 x0 17 ((jI m9 x0 17) ||| (jI m9 (jP m9 (jP m9 x0 12) x1.toNatClampNeg) 4)))) (by decide +kernel) rfl ⟨w10, w10, ⟨w11, jib_ok w12⟩, w13, w10, trivial⟩ ?_
  replace H := Option.some.inj H
  subst H
  exact jS.vret rfl (by decide +kernel)
def c_X2_leadInto_l10_b (F : Nat) (B : jMe → Nat → Int32 → Int64 → Int32 → Option ((Int32 × jMe) ⊕ jMe)) (m : jMe) (y0 : Nat) (y1 : Int32) (y2 : Int64) (y4 : Int32) : Option ((Int32 × jMe) ⊕ jMe) :=
  jgd (jK m y0 = 34) <| jgd (jK m (jP m y0 12) = 5) <| jgd (jin y1 (jZ m (jP m y0 12)) = true) <| jgd (jK m (jP m (jP m y0 12) y1.toNatClampNeg) = 36) <| (if (jI m (jP m (jP m y0 12) y1.toNatClampNeg) 5) ≤ y4 then some (.inr (m)) else jgd (jin y1 (jZ m (jP m y0 12)) = true) <| jb (c_X4_matches F m (jP m (jP m y0 12) y1.toNatClampNeg) y4 (jI m y0 16) (jI m y0 17)) fun t11 => (if t11 = 0 then B m y0 y1 y2 (y4 + (1 : Int32)) else jgd (jK m (jP m y0 1) = 2) <| jgd (jin ((y1 * (8 : Int32)) + y4) (jZ m (jP m y0 1)) = true) <| (if 0 ≤ (lg_cmp y2 (jL m (jP m y0 1) ((y1 * (8 : Int32)) + y4).toNatClampNeg)) then B m y0 y1 (y2 - (jL m (jP m y0 1) ((y1 * (8 : Int32)) + y4).toNatClampNeg)) (y4 + (1 : Int32)) else jgd (jK m (jP m y0 11) = 2) <| jgd (jin y1 (jZ m (jP m y0 11)) = true) <| jb (c_X2_seat F (jsL m (jP m y0 11) y1.toNatClampNeg y2) y0 y1 y4) fun t19 => some (.inl ((1 : Int32), t19)))))
theorem ec_X2_leadInto_l10_b {X : jX} {l : Launch} {d : Nat} (O : jOk X) (hd : 3 ≤ d) {F : Nat} {m0 m' : jMe} {v : Option jAV} {B : jMe → Nat → Int32 → Int64 → Int32 → Option ((Int32 × jMe) ⊕ jMe)} (hB : ∀ (m : jMe) (y0 : Nat) (y1 : Int32) (y2 : Int64) (y4 : Int32) (r : (Int32 × jMe) ⊕ jMe), B m y0 y1 y2 y4 = some r → (∀ q, r = .inl q → v = (some (.inl q.1)) ∧ m' = q.2) → (∀ e, r = .inr e → jS X l d jm_X2_leadInto m0 v m' (94, [], [], e)) → jS X l d jm_X2_leadInto m0 v m' (10, [(0, .inr (.inr y0)), (1, .inl y1), (2, .inr (.inl y2)), (4, .inl y4)], [], m)) {m : jMe} {y0 : Nat} {y1 : Int32} {y2 : Int64} {y4 : Int32} {r : (Int32 × jMe) ⊕ jMe} (H : c_X2_leadInto_l10_b F B m y0 y1 y2 y4 = some r) (h1 : ∀ q, r = .inl q → v = (some (.inl q.1)) ∧ m' = q.2) (h2 : ∀ e, r = .inr e → jS X l d jm_X2_leadInto m0 v m' (94, [], [], e)) : jS X l d jm_X2_leadInto m0 v m' (10, [(0, .inr (.inr y0)), (1, .inl y1), (2, .inr (.inl y2)), (4, .inl y4)], [], m) := by
  unfold c_X2_leadInto_l10_b at H
  obtain ⟨w4, H⟩ := jgd_ok H
  obtain ⟨w5, H⟩ := jgd_ok H
  obtain ⟨w6, H⟩ := jgd_ok H
  obtain ⟨w7, H⟩ := jgd_ok H
  refine jS.adv O [(.iload 4, 0, 0, 0, 0, 0, 0), (.aload_n 0, 0, 0, 0, 0, 0, 0), (.getfield 60, 0, 2, 12, 443, 0, 0), (.iload_n 1, 0, 0, 0, 0, 0, 0), (.aaload, 0, 5, 0, 0, 0, 0), (.getfield 120, 0, 4, 5, 509, 0, 0)] (pc' := 21) (ls' := [(0, .inr (.inr y0)), (1, .inl y1), (2, .inr (.inl y2)), (4, .inl y4)]) (st' := [.inl (jI m (jP m (jP m y0 12) y1.toNatClampNeg) 5), .inl y4]) (m2 := m) (by decide +kernel) rfl ⟨w4, ⟨w5, jib_ok w6⟩, w7, trivial⟩ ?_
  refine jS.br (i := .if_icmp .ge 73) (P := (jI m (jP m (jP m y0 12) y1.toNatClampNeg) 5) ≤ y4) (rest := []) rfl (by decide +kernel) (tgt := 94) (by decide) (fun c8 => ?_) (fun c8 => ?_)
  · replace H := jif_t c8 H
    replace H := Option.some.inj H
    subst H
    refine jS.loc' [] (ls' := []) rfl ?_
    exact h2 _ rfl
  · replace H := jif_f c8 H
    obtain ⟨w9, H⟩ := jgd_ok H
    refine jS.adv O [(.aload_n 0, 0, 0, 0, 0, 0, 0), (.getfield 60, 0, 2, 12, 443, 0, 0), (.iload_n 1, 0, 0, 0, 0, 0, 0), (.aaload, 0, 5, 0, 0, 0, 0), (.iload 4, 0, 0, 0, 0, 0, 0), (.aload_n 0, 0, 0, 0, 0, 0, 0), (.getfield 73, 0, 2, 16, 447, 0, 0), (.aload_n 0, 0, 0, 0, 0, 0, 0), (.getfield 76, 0, 2, 17, 448, 0, 0)] (pc' := 40) (ls' := [(0, .inr (.inr y0)), (1, .inl y1), (2, .inr (.inl y2)), (4, .inl y4)]) (st' := [.inl (jI m y0 17), .inl (jI m y0 16), .inl y4, .inr (.inr (jP m (jP m y0 12) y1.toNatClampNeg))]) (m2 := m) (by decide +kernel) rfl ⟨w4, ⟨w5, jib_ok w9⟩, w4, w4, trivial⟩ ?_
    obtain ⟨t11, w10, H⟩ := jb_ok H
    refine jS.step (c' := (43, [(0, .inr (.inr y0)), (1, .inl y1), (2, .inr (.inl y2)), (4, .inl y4)], [.inl t11], m)) (jSt.callV (c := 4) (As := [.inl y4, .inl (jI m y0 16), .inl (jI m y0 17)]) (rest := []) O (ec_X4_matches (d := 2) O (Nat.le_refl _) w10) w7 (by decide) rfl (by omega) jmw_X4_matches jmv_X4_matches jmn_X4_matches (idx := 138) (jW_of 809 (by decide +kernel) rfl) (Nat.le_of_ble_eq_true rfl) (by decide +kernel)) ?_
    refine jS.br (i := .ifCond .eq 45) (P := t11 = 0) (rest := []) rfl (by decide +kernel) (tgt := 88) (by decide) (fun c12 => ?_) (fun c12 => ?_)
    · replace H := jif_t c12 H
      refine jS.adv O [(.iinc 4 1, 0, 0, 0, 0, (1 : Int32), 0), (.goto (-81), 0, 10, 0, 0, 0, 0)] (pc' := 10) (ls' := [(4, .inl (y4 + (1 : Int32))), (0, .inr (.inr y0)), (1, .inl y1), (2, .inr (.inl y2))]) (st' := []) (m2 := m) (by decide +kernel) rfl trivial ?_
      refine jS.loc' [1, 2, 3, 0] (ls' := [(0, .inr (.inr y0)), (1, .inl y1), (2, .inr (.inl y2)), (4, .inl (y4 + (1 : Int32)))]) rfl ?_
      exact hB _ _ _ _ _ _ H h1 h2
    · replace H := jif_f c12 H
      obtain ⟨w13, H⟩ := jgd_ok H
      obtain ⟨w14, H⟩ := jgd_ok H
      refine jS.adv O [(.aload_n 0, 0, 0, 0, 0, 0, 0), (.getfield 18, 0, 2, 1, 426, 0, 0), (.iload_n 1, 0, 0, 0, 0, 0, 0), (.bipush 8, 0, 0, 0, 0, (8 : Int32), 0), (.imul, 0, 0, 0, 0, 0, 0), (.iload 4, 0, 0, 0, 0, 0, 0), (.iadd, 0, 0, 0, 0, 0, 0), (.laload, 0, 0, 0, 0, 0, 0), (.lstore 5, 0, 0, 0, 0, 0, 0), (.lload_n 2, 0, 0, 0, 0, 0, 0), (.lload 5, 0, 0, 0, 0, 0, 0), (.lcmp, 0, 0, 0, 0, 0, 0)] (pc' := 64) (ls' := [(5, .inr (.inl (jL m (jP m y0 1) ((y1 * (8 : Int32)) + y4).toNatClampNeg))), (0, .inr (.inr y0)), (1, .inl y1), (2, .inr (.inl y2)), (4, .inl y4)]) (st' := [.inl (lg_cmp y2 (jL m (jP m y0 1) ((y1 * (8 : Int32)) + y4).toNatClampNeg))]) (m2 := m) (by decide +kernel) rfl ⟨w4, ⟨w13, jib_ok w14⟩, trivial⟩ ?_
      refine jS.br (i := .ifCond .ge 19) (P := 0 ≤ (lg_cmp y2 (jL m (jP m y0 1) ((y1 * (8 : Int32)) + y4).toNatClampNeg))) (rest := []) rfl (by decide +kernel) (tgt := 83) (by decide) (fun c15 => ?_) (fun c15 => ?_)
      · replace H := jif_t c15 H
        refine jS.adv O [(.lload_n 2, 0, 0, 0, 0, 0, 0), (.lload 5, 0, 0, 0, 0, 0, 0), (.lsub, 0, 0, 0, 0, 0, 0), (.lstore_n 2, 0, 0, 0, 0, 0, 0), (.iinc 4 1, 0, 0, 0, 0, (1 : Int32), 0), (.goto (-81), 0, 10, 0, 0, 0, 0)] (pc' := 10) (ls' := [(4, .inl (y4 + (1 : Int32))), (2, .inr (.inl (y2 - (jL m (jP m y0 1) ((y1 * (8 : Int32)) + y4).toNatClampNeg)))), (5, .inr (.inl (jL m (jP m y0 1) ((y1 * (8 : Int32)) + y4).toNatClampNeg))), (0, .inr (.inr y0)), (1, .inl y1)]) (st' := []) (m2 := m) (by decide +kernel) rfl trivial ?_
        refine jS.loc' [3, 4, 1, 0] (ls' := [(0, .inr (.inr y0)), (1, .inl y1), (2, .inr (.inl (y2 - (jL m (jP m y0 1) ((y1 * (8 : Int32)) + y4).toNatClampNeg)))), (4, .inl (y4 + (1 : Int32)))]) rfl ?_
        exact hB _ _ _ _ _ _ H h1 h2
      · replace H := jif_f c15 H
        obtain ⟨w16, H⟩ := jgd_ok H
        obtain ⟨w17, H⟩ := jgd_ok H
        refine jS.adv O [(.aload_n 0, 0, 0, 0, 0, 0, 0), (.getfield 57, 0, 2, 11, 442, 0, 0), (.iload_n 1, 0, 0, 0, 0, 0, 0), (.lload_n 2, 0, 0, 0, 0, 0, 0), (.lastore, 0, 0, 0, 0, 0, 0), (.aload_n 0, 0, 0, 0, 0, 0, 0), (.iload_n 1, 0, 0, 0, 0, 0, 0), (.iload 4, 0, 0, 0, 0, 0, 0)] (pc' := 78) (ls' := [(5, .inr (.inl (jL m (jP m y0 1) ((y1 * (8 : Int32)) + y4).toNatClampNeg))), (0, .inr (.inr y0)), (1, .inl y1), (2, .inr (.inl y2)), (4, .inl y4)]) (st' := [.inl y4, .inl y1, .inr (.inr y0)]) (m2 := (jsL m (jP m y0 11) y1.toNatClampNeg y2)) (by decide +kernel) rfl ⟨w4, ⟨w16, jib_ok w17⟩, trivial⟩ ?_
        obtain ⟨t19, w18, H⟩ := jb_ok H
        refine jS.step (c' := (81, [(5, .inr (.inl (jL m (jP m y0 1) ((y1 * (8 : Int32)) + y4).toNatClampNeg))), (0, .inr (.inr y0)), (1, .inl y1), (2, .inr (.inl y2)), (4, .inl y4)], [], t19)) (jSt.callV (c := 2) (As := [.inl y1, .inl y4]) (rest := []) O (ec_X2_seat (d := 2) O (Nat.le_refl _) w18) w4 (by decide) rfl (by omega) jmw_X2_seat jmv_X2_seat jmn_X2_seat (idx := 174) (jW_of 1116 (by decide +kernel) rfl) (Nat.le_of_ble_eq_true rfl) (by decide +kernel)) ?_
        refine jS.adv O [(.iconst 1, 0, 0, 0, 0, (1 : Int32), 0)] (pc' := 82) (ls' := [(5, .inr (.inl (jL m (jP m y0 1) ((y1 * (8 : Int32)) + y4).toNatClampNeg))), (0, .inr (.inr y0)), (1, .inl y1), (2, .inr (.inl y2)), (4, .inl y4)]) (st' := [.inl (1 : Int32)]) (m2 := t19) (by decide +kernel) rfl trivial ?_
        replace H := Option.some.inj H
        subst H
        obtain ⟨q1, q2⟩ := h1 _ rfl
        subst q1; subst q2
        exact jS.zret rfl (Or.inr rfl) (by decide +kernel)
def c_X2_leadInto_l10 (F : Nat) : Nat → jMe → Nat → Int32 → Int64 → Int32 → Option ((Int32 × jMe) ⊕ jMe)
  | 0, _, _, _, _, _ => none
  | n + 1, m, y0, y1, y2, y4 => c_X2_leadInto_l10_b F (fun m y0 y1 y2 y4 => c_X2_leadInto_l10 F n m y0 y1 y2 y4) m y0 y1 y2 y4
theorem ec_X2_leadInto_l10 {X : jX} {l : Launch} {d : Nat} (O : jOk X) (hd : 3 ≤ d) {F : Nat} {m0 m' : jMe} {v : Option jAV} : ∀ (n : Nat) {m : jMe} {y0 : Nat} {y1 : Int32} {y2 : Int64} {y4 : Int32} {r : (Int32 × jMe) ⊕ jMe} (H : c_X2_leadInto_l10 F n m y0 y1 y2 y4 = some r) (h1 : ∀ q, r = .inl q → v = (some (.inl q.1)) ∧ m' = q.2) (h2 : ∀ e, r = .inr e → jS X l d jm_X2_leadInto m0 v m' (94, [], [], e)), jS X l d jm_X2_leadInto m0 v m' (10, [(0, .inr (.inr y0)), (1, .inl y1), (2, .inr (.inl y2)), (4, .inl y4)], [], m) := by
  intro n
  induction n with
  | zero =>
    intro m y0 y1 y2 y4 r H h1 h2
    cases (show none = some r from H)
  | succ n ih =>
    intro m y0 y1 y2 y4 r H h1 h2
    exact ec_X2_leadInto_l10_b O hd (B := (fun m y0 y1 y2 y4 => c_X2_leadInto_l10 F n m y0 y1 y2 y4)) (fun m y0 y1 y2 y4 r H h1 h2 => ih H h1 h2) H h1 h2
def c_X2_leadInto (F : Nat) (m : jMe) (x0 : Nat) (x1 : Int32) : Option (Int32 × jMe) :=
  jgd (jK m x0 = 34) <| jgd (jK m (jP m x0 11) = 2) <| jgd (jin x1 (jZ m (jP m x0 11)) = true) <| jb2 (c_X2_leadInto_l10 F F m x0 x1 (jL m (jP m x0 11) x1.toNatClampNeg) (0 : Int32)) (fun q => some q) fun e21 => some ((0 : Int32), e21)
theorem ec_X2_leadInto {X : jX} {l : Launch} {d : Nat} (O : jOk X) (hd : 3 ≤ d) {F : Nat} {m : jMe} {x0 : Nat} {x1 : Int32} {r : Int32 × jMe} (H : c_X2_leadInto F m x0 x1 = some r) : jH X l d jm_X2_leadInto [.inr (.inr x0), .inl x1] m (some (.inl r.1)) r.2 := by
  refine jH.of jpl_RX2 rfl (Nat.le_of_ble_eq_true rfl) ?_
  show jS X l d jm_X2_leadInto m _ _ (0, [(0, .inr (.inr x0)), (1, .inl x1)], [], m)
  unfold c_X2_leadInto at H
  obtain ⟨w1, H⟩ := jgd_ok H
  obtain ⟨w2, H⟩ := jgd_ok H
  obtain ⟨w3, H⟩ := jgd_ok H
  refine jS.adv O [(.aload_n 0, 0, 0, 0, 0, 0, 0), (.getfield 57, 0, 2, 11, 442, 0, 0), (.iload_n 1, 0, 0, 0, 0, 0, 0), (.laload, 0, 0, 0, 0, 0, 0), (.lstore_n 2, 0, 0, 0, 0, 0, 0), (.iconst 0, 0, 0, 0, 0, (0 : Int32), 0), (.istore 4, 0, 0, 0, 0, 0, 0)] (pc' := 10) (ls' := [(4, .inl (0 : Int32)), (2, .inr (.inl (jL m (jP m x0 11) x1.toNatClampNeg))), (0, .inr (.inr x0)), (1, .inl x1)]) (st' := []) (m2 := m) (by decide +kernel) rfl ⟨w1, ⟨w2, jib_ok w3⟩, trivial⟩ ?_
  refine jS.loc' [2, 3, 1, 0] (ls' := [(0, .inr (.inr x0)), (1, .inl x1), (2, .inr (.inl (jL m (jP m x0 11) x1.toNatClampNeg))), (4, .inl (0 : Int32))]) rfl ?_
  rcases jb2_ok H with ⟨q20, w22, H⟩ | ⟨e21, w22, H⟩
  · refine ec_X2_leadInto_l10 O hd F w22 (fun q2 hq2 => ?_) (fun e2 he2 => by cases he2)
    cases hq2
    cases H
    exact ⟨rfl, rfl⟩
  · refine ec_X2_leadInto_l10 O hd F w22 (fun q2 hq2 => by cases hq2) (fun e2 he2 => ?_)
    cases he2
    refine jS.adv O [(.iconst 0, 0, 0, 0, 0, (0 : Int32), 0)] (pc' := 95) (ls' := []) (st' := [.inl (0 : Int32)]) (m2 := e21) (by decide +kernel) rfl trivial ?_
    replace H := Option.some.inj H
    subst H
    exact jS.zret rfl (Or.inl rfl) (by decide +kernel)
def c_X2_leadChildren_j59_l17 (F : Nat) (B : jMe → Nat → Int32 → Int32 → Int64 → Int32 → Option (jMe)) (m : jMe) (y0 : Nat) (y1 : Int32) (y2 : Int32) (y3 : Int64) (y5 : Int32) (s0 : Int64) : Option (jMe) :=
  (if (lg_cmp s0 (0 : Int64)) ≤ 0 then B m y0 y1 y2 y3 (y5 + (-1 : Int32)) else jgd (jK m y0 = 34) <| jgd (¬ s0 = 0) <| jgd (jK m (jP m y0 11) = 2) <| jgd (jin y5 (jZ m (jP m y0 11)) = true) <| jgd (¬ s0 = 0) <| B (jsL m (jP m y0 11) y5.toNatClampNeg (jlrem y3 s0)) y0 y1 y2 (y3 / s0) (y5 + (-1 : Int32)))
theorem ec_X2_leadChildren_j59_l17 {X : jX} {l : Launch} {d : Nat} (O : jOk X) (hd : 3 ≤ d) {F : Nat} {m0 m' : jMe} {v : Option jAV} {B : jMe → Nat → Int32 → Int32 → Int64 → Int32 → Option (jMe)} (hB : ∀ (m : jMe) (y0 : Nat) (y1 : Int32) (y2 : Int32) (y3 : Int64) (y5 : Int32) (r : jMe), B m y0 y1 y2 y3 y5 = some r → (jS X l d jm_X2_leadChildren m0 v m' (90, [], [], r)) → jS X l d jm_X2_leadChildren m0 v m' (17, [(0, .inr (.inr y0)), (1, .inl y1), (2, .inl y2), (3, .inr (.inl y3)), (5, .inl y5)], [], m)) {m : jMe} {y0 : Nat} {y1 : Int32} {y2 : Int32} {y3 : Int64} {y5 : Int32} {s0 : Int64} {r : jMe} (H : c_X2_leadChildren_j59_l17 F B m y0 y1 y2 y3 y5 s0 = some r) (h2 : jS X l d jm_X2_leadChildren m0 v m' (90, [], [], r)) : jS X l d jm_X2_leadChildren m0 v m' (59, [(0, .inr (.inr y0)), (1, .inl y1), (2, .inl y2), (3, .inr (.inl y3)), (5, .inl y5)], [.inr (.inl s0)], m) := by
  unfold c_X2_leadChildren_j59_l17 at H
  refine jS.adv O [(.lstore 6, 0, 0, 0, 0, 0, 0), (.lload 6, 0, 0, 0, 0, 0, 0), (.lconst 0, 0, 0, 0, 0, 0, (0 : Int64)), (.lcmp, 0, 0, 0, 0, 0, 0)] (pc' := 65) (ls' := [(6, .inr (.inl s0)), (0, .inr (.inr y0)), (1, .inl y1), (2, .inl y2), (3, .inr (.inl y3)), (5, .inl y5)]) (st' := [.inl (lg_cmp s0 (0 : Int64))]) (m2 := m) (by decide +kernel) rfl trivial ?_
  refine jS.br (i := .ifCond .le 19) (P := (lg_cmp s0 (0 : Int64)) ≤ 0) (rest := []) rfl (by decide +kernel) (tgt := 84) (by decide) (fun c14 => ?_) (fun c14 => ?_)
  · replace H := jif_t c14 H
    refine jS.adv O [(.iinc 5 (-1), 0, 0, 0, 0, (-1 : Int32), 0), (.goto (-70), 0, 17, 0, 0, 0, 0)] (pc' := 17) (ls' := [(5, .inl (y5 + (-1 : Int32))), (6, .inr (.inl s0)), (0, .inr (.inr y0)), (1, .inl y1), (2, .inl y2), (3, .inr (.inl y3))]) (st' := []) (m2 := m) (by decide +kernel) rfl trivial ?_
    refine jS.loc' [2, 3, 4, 5, 0] (ls' := [(0, .inr (.inr y0)), (1, .inl y1), (2, .inl y2), (3, .inr (.inl y3)), (5, .inl (y5 + (-1 : Int32)))]) rfl ?_
    exact hB _ _ _ _ _ _ _ H h2
  · replace H := jif_f c14 H
    obtain ⟨w15, H⟩ := jgd_ok H
    obtain ⟨w16, H⟩ := jgd_ok H
    obtain ⟨w17, H⟩ := jgd_ok H
    obtain ⟨w18, H⟩ := jgd_ok H
    obtain ⟨w19, H⟩ := jgd_ok H
    refine jS.adv O [(.aload_n 0, 0, 0, 0, 0, 0, 0), (.getfield 57, 0, 2, 11, 442, 0, 0), (.iload 5, 0, 0, 0, 0, 0, 0), (.lload_n 3, 0, 0, 0, 0, 0, 0), (.lload 6, 0, 0, 0, 0, 0, 0), (.lrem, 0, 0, 0, 0, 0, 0), (.lastore, 0, 0, 0, 0, 0, 0), (.lload_n 3, 0, 0, 0, 0, 0, 0), (.lload 6, 0, 0, 0, 0, 0, 0), (.ldiv, 0, 0, 0, 0, 0, 0), (.lstore_n 3, 0, 0, 0, 0, 0, 0), (.iinc 5 (-1), 0, 0, 0, 0, (-1 : Int32), 0), (.goto (-70), 0, 17, 0, 0, 0, 0)] (pc' := 17) (ls' := [(5, .inl (y5 + (-1 : Int32))), (3, .inr (.inl (y3 / s0))), (6, .inr (.inl s0)), (0, .inr (.inr y0)), (1, .inl y1), (2, .inl y2)]) (st' := []) (m2 := (jsL m (jP m y0 11) y5.toNatClampNeg (jlrem y3 s0))) (by decide +kernel) rfl ⟨w15, w16, ⟨w17, jib_ok w18⟩, w19, trivial⟩ ?_
    refine jS.loc' [3, 4, 5, 1, 0] (ls' := [(0, .inr (.inr y0)), (1, .inl y1), (2, .inl y2), (3, .inr (.inl (y3 / s0))), (5, .inl (y5 + (-1 : Int32)))]) rfl ?_
    exact hB _ _ _ _ _ _ _ H h2
def c_X2_leadChildren_l17_b (F : Nat) (B : jMe → Nat → Int32 → Int32 → Int64 → Int32 → Option (jMe)) (m : jMe) (y0 : Nat) (y1 : Int32) (y2 : Int32) (y3 : Int64) (y5 : Int32) : Option (jMe) :=
  (if y5 < 0 then some (m) else jgd (jK m y0 = 34) <| jgd (jK m (jP m y0 0) = 40) <| jgd (jK m (jP m (jP m y0 0) 1) = 1) <| jgd (jin y1 (jZ m (jP m (jP m y0 0) 1)) = true) <| jb (c_X9_isIn F m (jI m (jP m (jP m y0 0) 1) y1.toNatClampNeg) y5) fun t12 => (if t12 = 0 then c_X2_leadChildren_j59_l17 F B m y0 y1 y2 y3 y5 (0 : Int64) else jgd (jK m (jP m y0 3) = 2) <| jgd (jin ((((y1 * (8 : Int32)) + y2) * (4 : Int32)) + y5) (jZ m (jP m y0 3)) = true) <| c_X2_leadChildren_j59_l17 F B m y0 y1 y2 y3 y5 (jL m (jP m y0 3) ((((y1 * (8 : Int32)) + y2) * (4 : Int32)) + y5).toNatClampNeg)))
theorem ec_X2_leadChildren_l17_b {X : jX} {l : Launch} {d : Nat} (O : jOk X) (hd : 3 ≤ d) {F : Nat} {m0 m' : jMe} {v : Option jAV} {B : jMe → Nat → Int32 → Int32 → Int64 → Int32 → Option (jMe)} (hB : ∀ (m : jMe) (y0 : Nat) (y1 : Int32) (y2 : Int32) (y3 : Int64) (y5 : Int32) (r : jMe), B m y0 y1 y2 y3 y5 = some r → (jS X l d jm_X2_leadChildren m0 v m' (90, [], [], r)) → jS X l d jm_X2_leadChildren m0 v m' (17, [(0, .inr (.inr y0)), (1, .inl y1), (2, .inl y2), (3, .inr (.inl y3)), (5, .inl y5)], [], m)) {m : jMe} {y0 : Nat} {y1 : Int32} {y2 : Int32} {y3 : Int64} {y5 : Int32} {r : jMe} (H : c_X2_leadChildren_l17_b F B m y0 y1 y2 y3 y5 = some r) (h2 : jS X l d jm_X2_leadChildren m0 v m' (90, [], [], r)) : jS X l d jm_X2_leadChildren m0 v m' (17, [(0, .inr (.inr y0)), (1, .inl y1), (2, .inl y2), (3, .inr (.inl y3)), (5, .inl y5)], [], m) := by
  unfold c_X2_leadChildren_l17_b at H
  refine jS.adv O [(.iload 5, 0, 0, 0, 0, 0, 0)] (pc' := 19) (ls' := [(0, .inr (.inr y0)), (1, .inl y1), (2, .inl y2), (3, .inr (.inl y3)), (5, .inl y5)]) (st' := [.inl y5]) (m2 := m) (by decide +kernel) rfl trivial ?_
  refine jS.br (i := .ifCond .lt 71) (P := y5 < 0) (rest := []) rfl (by decide +kernel) (tgt := 90) (by decide) (fun c6 => ?_) (fun c6 => ?_)
  · replace H := jif_t c6 H
    replace H := Option.some.inj H
    subst H
    refine jS.loc' [] (ls' := []) rfl ?_
    exact h2
  · replace H := jif_f c6 H
    obtain ⟨w7, H⟩ := jgd_ok H
    obtain ⟨w8, H⟩ := jgd_ok H
    obtain ⟨w9, H⟩ := jgd_ok H
    obtain ⟨w10, H⟩ := jgd_ok H
    refine jS.adv O [(.aload_n 0, 0, 0, 0, 0, 0, 0), (.getfield 12, 0, 2, 0, 424, 0, 0), (.getfield 127, 0, 8, 1, 389, 0, 0), (.iload_n 1, 0, 0, 0, 0, 0, 0), (.iaload, 0, 1, 0, 0, 0, 0), (.iload 5, 0, 0, 0, 0, 0, 0)] (pc' := 33) (ls' := [(0, .inr (.inr y0)), (1, .inl y1), (2, .inl y2), (3, .inr (.inl y3)), (5, .inl y5)]) (st' := [.inl y5, .inl (jI m (jP m (jP m y0 0) 1) y1.toNatClampNeg)]) (m2 := m) (by decide +kernel) rfl ⟨w7, w8, ⟨w9, jib_ok w10⟩, trivial⟩ ?_
    obtain ⟨t12, w11, H⟩ := jb_ok H
    refine jS.step (c' := (36, [(0, .inr (.inr y0)), (1, .inl y1), (2, .inl y2), (3, .inr (.inl y3)), (5, .inl y5)], [.inl t12], m)) (jSt.callSN (As := [.inl (jI m (jP m (jP m y0 0) 1) y1.toNatClampNeg), .inl y5]) (rest := []) O (ec_X9_isIn (d := 2) O (Nat.le_refl _) w11) (by omega) jmw_X9_isIn jmv_X9_isIn jmn_X9_isIn (host := "JoinDraws") (idx := 83) jln_JoinDraws_Join_83 (Nat.le_of_ble_eq_true rfl) (by decide +kernel)) ?_
    refine jS.br (i := .ifCond .eq 22) (P := t12 = 0) (rest := []) rfl (by decide +kernel) (tgt := 58) (by decide) (fun c13 => ?_) (fun c13 => ?_)
    · replace H := jif_t c13 H
      refine jS.adv O [(.lconst 0, 0, 0, 0, 0, 0, (0 : Int64))] (pc' := 59) (ls' := [(0, .inr (.inr y0)), (1, .inl y1), (2, .inl y2), (3, .inr (.inl y3)), (5, .inl y5)]) (st' := [.inr (.inl (0 : Int64))]) (m2 := m) (by decide +kernel) rfl trivial ?_
      refine jS.loc' [0, 1, 2, 3, 4] (ls' := [(0, .inr (.inr y0)), (1, .inl y1), (2, .inl y2), (3, .inr (.inl y3)), (5, .inl y5)]) rfl ?_
      exact ec_X2_leadChildren_j59_l17 O hd hB H h2
    · replace H := jif_f c13 H
      obtain ⟨w20, H⟩ := jgd_ok H
      obtain ⟨w21, H⟩ := jgd_ok H
      refine jS.adv O [(.aload_n 0, 0, 0, 0, 0, 0, 0), (.getfield 25, 0, 2, 3, 430, 0, 0), (.iload_n 1, 0, 0, 0, 0, 0, 0), (.bipush 8, 0, 0, 0, 0, (8 : Int32), 0), (.imul, 0, 0, 0, 0, 0, 0), (.iload_n 2, 0, 0, 0, 0, 0, 0), (.iadd, 0, 0, 0, 0, 0, 0), (.iconst 4, 0, 0, 0, 0, (4 : Int32), 0), (.imul, 0, 0, 0, 0, 0, 0), (.iload 5, 0, 0, 0, 0, 0, 0), (.iadd, 0, 0, 0, 0, 0, 0), (.laload, 0, 0, 0, 0, 0, 0), (.goto 4, 0, 59, 0, 0, 0, 0)] (pc' := 59) (ls' := [(0, .inr (.inr y0)), (1, .inl y1), (2, .inl y2), (3, .inr (.inl y3)), (5, .inl y5)]) (st' := [.inr (.inl (jL m (jP m y0 3) ((((y1 * (8 : Int32)) + y2) * (4 : Int32)) + y5).toNatClampNeg))]) (m2 := m) (by decide +kernel) rfl ⟨w7, ⟨w20, jib_ok w21⟩, trivial⟩ ?_
      refine jS.loc' [0, 1, 2, 3, 4] (ls' := [(0, .inr (.inr y0)), (1, .inl y1), (2, .inl y2), (3, .inr (.inl y3)), (5, .inl y5)]) rfl ?_
      exact ec_X2_leadChildren_j59_l17 O hd hB H h2
def c_X2_leadChildren_l17 (F : Nat) : Nat → jMe → Nat → Int32 → Int32 → Int64 → Int32 → Option (jMe)
  | 0, _, _, _, _, _, _ => none
  | n + 1, m, y0, y1, y2, y3, y5 => c_X2_leadChildren_l17_b F (fun m y0 y1 y2 y3 y5 => c_X2_leadChildren_l17 F n m y0 y1 y2 y3 y5) m y0 y1 y2 y3 y5
theorem ec_X2_leadChildren_l17 {X : jX} {l : Launch} {d : Nat} (O : jOk X) (hd : 3 ≤ d) {F : Nat} {m0 m' : jMe} {v : Option jAV} : ∀ (n : Nat) {m : jMe} {y0 : Nat} {y1 : Int32} {y2 : Int32} {y3 : Int64} {y5 : Int32} {r : jMe} (H : c_X2_leadChildren_l17 F n m y0 y1 y2 y3 y5 = some r) (h2 : jS X l d jm_X2_leadChildren m0 v m' (90, [], [], r)), jS X l d jm_X2_leadChildren m0 v m' (17, [(0, .inr (.inr y0)), (1, .inl y1), (2, .inl y2), (3, .inr (.inl y3)), (5, .inl y5)], [], m) := by
  intro n
  induction n with
  | zero =>
    intro m y0 y1 y2 y3 y5 r H h2
    cases (show none = some r from H)
  | succ n ih =>
    intro m y0 y1 y2 y3 y5 r H h2
    exact ec_X2_leadChildren_l17_b O hd (B := (fun m y0 y1 y2 y3 y5 => c_X2_leadChildren_l17 F n m y0 y1 y2 y3 y5)) (fun m y0 y1 y2 y3 y5 r H h2 => ih H h2) H h2
def c_X2_leadChildren (F : Nat) (m : jMe) (x0 : Nat) (x1 : Int32) : Option (jMe) :=
  jgd (jK m x0 = 34) <| jgd (jK m (jP m x0 10) = 1) <| jgd (jin x1 (jZ m (jP m x0 10)) = true) <| jgd (jK m (jP m x0 11) = 2) <| jgd (jin x1 (jZ m (jP m x0 11)) = true) <| jb (c_X2_leadChildren_l17 F F m x0 x1 (jI m (jP m x0 10) x1.toNatClampNeg) (jL m (jP m x0 11) x1.toNatClampNeg) (3 : Int32)) fun e23 => some e23
theorem ec_X2_leadChildren {X : jX} {l : Launch} {d : Nat} (O : jOk X) (hd : 3 ≤ d) {F : Nat} {m : jMe} {x0 : Nat} {x1 : Int32} {r : jMe} (H : c_X2_leadChildren F m x0 x1 = some r) : jH X l d jm_X2_leadChildren [.inr (.inr x0), .inl x1] m none r := by
  refine jH.of jpl_RX2 rfl (Nat.le_of_ble_eq_true rfl) ?_
  show jS X l d jm_X2_leadChildren m _ _ (0, [(0, .inr (.inr x0)), (1, .inl x1)], [], m)
  unfold c_X2_leadChildren at H
  obtain ⟨w1, H⟩ := jgd_ok H
  obtain ⟨w2, H⟩ := jgd_ok H
  obtain ⟨w3, H⟩ := jgd_ok H
  obtain ⟨w4, H⟩ := jgd_ok H
  obtain ⟨w5, H⟩ := jgd_ok H
  refine jS.adv O [(.aload_n 0, 0, 0, 0, 0, 0, 0), (.getfield 54, 0, 2, 10, 441, 0, 0), (.iload_n 1, 0, 0, 0, 0, 0, 0), (.iaload, 0, 1, 0, 0, 0, 0), (.istore_n 2, 0, 0, 0, 0, 0, 0), (.aload_n 0, 0, 0, 0, 0, 0, 0), (.getfield 57, 0, 2, 11, 442, 0, 0), (.iload_n 1, 0, 0, 0, 0, 0, 0), (.laload, 0, 0, 0, 0, 0, 0), (.lstore_n 3, 0, 0, 0, 0, 0, 0), (.iconst 3, 0, 0, 0, 0, (3 : Int32), 0), (.istore 5, 0, 0, 0, 0, 0, 0)] (pc' := 17) (ls' := [(5, .inl (3 : Int32)), (3, .inr (.inl (jL m (jP m x0 11) x1.toNatClampNeg))), (2, .inl (jI m (jP m x0 10) x1.toNatClampNeg)), (0, .inr (.inr x0)), (1, .inl x1)]) (st' := []) (m2 := m) (by decide +kernel) rfl ⟨w1, ⟨w2, jib_ok w3⟩, w1, ⟨w4, jib_ok w5⟩, trivial⟩ ?_
  refine jS.loc' [3, 4, 2, 1, 0] (ls' := [(0, .inr (.inr x0)), (1, .inl x1), (2, .inl (jI m (jP m x0 10) x1.toNatClampNeg)), (3, .inr (.inl (jL m (jP m x0 11) x1.toNatClampNeg))), (5, .inl (3 : Int32))]) rfl ?_
  obtain ⟨e23, w24, H⟩ := jb_ok H
  refine ec_X2_leadChildren_l17 O hd F w24 ?_
  replace H := Option.some.inj H
  subst H
  exact jS.vret rfl (by decide +kernel)
def c_X2_check_l10_b (F : Nat) (B : jMe → Nat → Int32 → Int64 → Int32 → Option ((Int32 × jMe) ⊕ jMe)) (m : jMe) (y0 : Nat) (y1 : Int32) (y2 : Int64) (y4 : Int32) : Option ((Int32 × jMe) ⊕ jMe) :=
  jgd (jK m y0 = 34) <| jgd (jK m (jP m y0 12) = 5) <| jgd (jin y1 (jZ m (jP m y0 12)) = true) <| jgd (jK m (jP m (jP m y0 12) y1.toNatClampNeg) = 36) <| (if (jI m (jP m (jP m y0 12) y1.toNatClampNeg) 5) ≤ y4 then some (.inr (m)) else jgd (jK m (jP m y0 9) = 1) <| jgd (jin y1 (jZ m (jP m y0 9)) = true) <| jb (c_X9_isIn F m (jI m (jP m y0 9) y1.toNatClampNeg) y4) fun t12 => (if t12 = 0 then B m y0 y1 y2 (y4 + (1 : Int32)) else jgd (jin y1 (jZ m (jP m y0 12)) = true) <| jb (c_X4_matches F m (jP m (jP m y0 12) y1.toNatClampNeg) y4 (jI m y0 16) (jI m y0 17)) fun t16 => (if t16 = 0 then B m y0 y1 y2 (y4 + (1 : Int32)) else jgd (jin y1 (jZ m (jP m y0 12)) = true) <| jb (c_X4_worthOf F m (jP m (jP m y0 12) y1.toNatClampNeg) y4) fun t20 => (if 0 ≤ (lg_cmp y2 t20) then B m y0 y1 (y2 - t20) (y4 + (1 : Int32)) else jb (c_X2_seat F m y0 y1 y4) fun t23 => some (.inl ((1 : Int32), t23))))))
theorem ec_X2_check_l10_b {X : jX} {l : Launch} {d : Nat} (O : jOk X) (hd : 3 ≤ d) {F : Nat} {m0 m' : jMe} {v : Option jAV} {B : jMe → Nat → Int32 → Int64 → Int32 → Option ((Int32 × jMe) ⊕ jMe)} (hB : ∀ (m : jMe) (y0 : Nat) (y1 : Int32) (y2 : Int64) (y4 : Int32) (r : (Int32 × jMe) ⊕ jMe), B m y0 y1 y2 y4 = some r → (∀ q, r = .inl q → v = (some (.inl q.1)) ∧ m' = q.2) → (∀ e, r = .inr e → jS X l d jm_X2_check m0 v m' (100, [], [], e)) → jS X l d jm_X2_check m0 v m' (10, [(0, .inr (.inr y0)), (1, .inl y1), (2, .inr (.inl y2)), (4, .inl y4)], [], m)) {m : jMe} {y0 : Nat} {y1 : Int32} {y2 : Int64} {y4 : Int32} {r : (Int32 × jMe) ⊕ jMe} (H : c_X2_check_l10_b F B m y0 y1 y2 y4 = some r) (h1 : ∀ q, r = .inl q → v = (some (.inl q.1)) ∧ m' = q.2) (h2 : ∀ e, r = .inr e → jS X l d jm_X2_check m0 v m' (100, [], [], e)) : jS X l d jm_X2_check m0 v m' (10, [(0, .inr (.inr y0)), (1, .inl y1), (2, .inr (.inl y2)), (4, .inl y4)], [], m) := by
  unfold c_X2_check_l10_b at H
  obtain ⟨w4, H⟩ := jgd_ok H
  obtain ⟨w5, H⟩ := jgd_ok H
  obtain ⟨w6, H⟩ := jgd_ok H
  obtain ⟨w7, H⟩ := jgd_ok H
  refine jS.adv O [(.iload 4, 0, 0, 0, 0, 0, 0), (.aload_n 0, 0, 0, 0, 0, 0, 0), (.getfield 60, 0, 2, 12, 443, 0, 0), (.iload_n 1, 0, 0, 0, 0, 0, 0), (.aaload, 0, 5, 0, 0, 0, 0), (.getfield 120, 0, 4, 5, 509, 0, 0)] (pc' := 21) (ls' := [(0, .inr (.inr y0)), (1, .inl y1), (2, .inr (.inl y2)), (4, .inl y4)]) (st' := [.inl (jI m (jP m (jP m y0 12) y1.toNatClampNeg) 5), .inl y4]) (m2 := m) (by decide +kernel) rfl ⟨w4, ⟨w5, jib_ok w6⟩, w7, trivial⟩ ?_
  refine jS.br (i := .if_icmp .ge 79) (P := (jI m (jP m (jP m y0 12) y1.toNatClampNeg) 5) ≤ y4) (rest := []) rfl (by decide +kernel) (tgt := 100) (by decide) (fun c8 => ?_) (fun c8 => ?_)
  · replace H := jif_t c8 H
    replace H := Option.some.inj H
    subst H
    refine jS.loc' [] (ls' := []) rfl ?_
    exact h2 _ rfl
  · replace H := jif_f c8 H
    obtain ⟨w9, H⟩ := jgd_ok H
    obtain ⟨w10, H⟩ := jgd_ok H
    refine jS.adv O [(.aload_n 0, 0, 0, 0, 0, 0, 0), (.getfield 50, 0, 2, 9, 440, 0, 0), (.iload_n 1, 0, 0, 0, 0, 0, 0), (.iaload, 0, 1, 0, 0, 0, 0), (.iload 4, 0, 0, 0, 0, 0, 0)] (pc' := 32) (ls' := [(0, .inr (.inr y0)), (1, .inl y1), (2, .inr (.inl y2)), (4, .inl y4)]) (st' := [.inl y4, .inl (jI m (jP m y0 9) y1.toNatClampNeg)]) (m2 := m) (by decide +kernel) rfl ⟨w4, ⟨w9, jib_ok w10⟩, trivial⟩ ?_
    obtain ⟨t12, w11, H⟩ := jb_ok H
    refine jS.step (c' := (35, [(0, .inr (.inr y0)), (1, .inl y1), (2, .inr (.inl y2)), (4, .inl y4)], [.inl t12], m)) (jSt.callSN (As := [.inl (jI m (jP m y0 9) y1.toNatClampNeg), .inl y4]) (rest := []) O (ec_X9_isIn (d := 2) O (Nat.le_refl _) w11) (by omega) jmw_X9_isIn jmv_X9_isIn jmn_X9_isIn (host := "JoinDraws") (idx := 83) jln_JoinDraws_Join_83 (Nat.le_of_ble_eq_true rfl) (by decide +kernel)) ?_
    refine jS.br (i := .ifCond .eq 59) (P := t12 = 0) (rest := []) rfl (by decide +kernel) (tgt := 94) (by decide) (fun c13 => ?_) (fun c13 => ?_)
    · replace H := jif_t c13 H
      refine jS.adv O [(.iinc 4 1, 0, 0, 0, 0, (1 : Int32), 0), (.goto (-87), 0, 10, 0, 0, 0, 0)] (pc' := 10) (ls' := [(4, .inl (y4 + (1 : Int32))), (0, .inr (.inr y0)), (1, .inl y1), (2, .inr (.inl y2))]) (st' := []) (m2 := m) (by decide +kernel) rfl trivial ?_
      refine jS.loc' [1, 2, 3, 0] (ls' := [(0, .inr (.inr y0)), (1, .inl y1), (2, .inr (.inl y2)), (4, .inl (y4 + (1 : Int32)))]) rfl ?_
      exact hB _ _ _ _ _ _ H h1 h2
    · replace H := jif_f c13 H
      obtain ⟨w14, H⟩ := jgd_ok H
      refine jS.adv O [(.aload_n 0, 0, 0, 0, 0, 0, 0), (.getfield 60, 0, 2, 12, 443, 0, 0), (.iload_n 1, 0, 0, 0, 0, 0, 0), (.aaload, 0, 5, 0, 0, 0, 0), (.iload 4, 0, 0, 0, 0, 0, 0), (.aload_n 0, 0, 0, 0, 0, 0, 0), (.getfield 73, 0, 2, 16, 447, 0, 0), (.aload_n 0, 0, 0, 0, 0, 0, 0), (.getfield 76, 0, 2, 17, 448, 0, 0)] (pc' := 54) (ls' := [(0, .inr (.inr y0)), (1, .inl y1), (2, .inr (.inl y2)), (4, .inl y4)]) (st' := [.inl (jI m y0 17), .inl (jI m y0 16), .inl y4, .inr (.inr (jP m (jP m y0 12) y1.toNatClampNeg))]) (m2 := m) (by decide +kernel) rfl ⟨w4, ⟨w5, jib_ok w14⟩, w4, w4, trivial⟩ ?_
      obtain ⟨t16, w15, H⟩ := jb_ok H
      refine jS.step (c' := (57, [(0, .inr (.inr y0)), (1, .inl y1), (2, .inr (.inl y2)), (4, .inl y4)], [.inl t16], m)) (jSt.callV (c := 4) (As := [.inl y4, .inl (jI m y0 16), .inl (jI m y0 17)]) (rest := []) O (ec_X4_matches (d := 2) O (Nat.le_refl _) w15) w7 (by decide) rfl (by omega) jmw_X4_matches jmv_X4_matches jmn_X4_matches (idx := 138) (jW_of 809 (by decide +kernel) rfl) (Nat.le_of_ble_eq_true rfl) (by decide +kernel)) ?_
      refine jS.br (i := .ifCond .eq 37) (P := t16 = 0) (rest := []) rfl (by decide +kernel) (tgt := 94) (by decide) (fun c17 => ?_) (fun c17 => ?_)
      · replace H := jif_t c17 H
        refine jS.adv O [(.iinc 4 1, 0, 0, 0, 0, (1 : Int32), 0), (.goto (-87), 0, 10, 0, 0, 0, 0)] (pc' := 10) (ls' := [(4, .inl (y4 + (1 : Int32))), (0, .inr (.inr y0)), (1, .inl y1), (2, .inr (.inl y2))]) (st' := []) (m2 := m) (by decide +kernel) rfl trivial ?_
        refine jS.loc' [1, 2, 3, 0] (ls' := [(0, .inr (.inr y0)), (1, .inl y1), (2, .inr (.inl y2)), (4, .inl (y4 + (1 : Int32)))]) rfl ?_
        exact hB _ _ _ _ _ _ H h1 h2
      · replace H := jif_f c17 H
        obtain ⟨w18, H⟩ := jgd_ok H
        refine jS.adv O [(.aload_n 0, 0, 0, 0, 0, 0, 0), (.getfield 60, 0, 2, 12, 443, 0, 0), (.iload_n 1, 0, 0, 0, 0, 0, 0), (.aaload, 0, 5, 0, 0, 0, 0), (.iload 4, 0, 0, 0, 0, 0, 0)] (pc' := 68) (ls' := [(0, .inr (.inr y0)), (1, .inl y1), (2, .inr (.inl y2)), (4, .inl y4)]) (st' := [.inl y4, .inr (.inr (jP m (jP m y0 12) y1.toNatClampNeg))]) (m2 := m) (by decide +kernel) rfl ⟨w4, ⟨w5, jib_ok w18⟩, trivial⟩ ?_
        obtain ⟨t20, w19, H⟩ := jb_ok H
        refine jS.step (c' := (71, [(0, .inr (.inr y0)), (1, .inl y1), (2, .inr (.inl y2)), (4, .inl y4)], [.inr (.inl t20)], m)) (jSt.callV (c := 4) (As := [.inl y4]) (rest := []) O (ec_X4_worthOf (d := 2) O (Nat.le_refl _) w19) w7 (by decide) rfl (by omega) jmw_X4_worthOf jmv_X4_worthOf jmn_X4_worthOf (idx := 123) (jW_of 804 (by decide +kernel) rfl) (Nat.le_of_ble_eq_true rfl) (by decide +kernel)) ?_
        refine jS.adv O [(.lstore 5, 0, 0, 0, 0, 0, 0), (.lload_n 2, 0, 0, 0, 0, 0, 0), (.lload 5, 0, 0, 0, 0, 0, 0), (.lcmp, 0, 0, 0, 0, 0, 0)] (pc' := 77) (ls' := [(5, .inr (.inl t20)), (0, .inr (.inr y0)), (1, .inl y1), (2, .inr (.inl y2)), (4, .inl y4)]) (st' := [.inl (lg_cmp y2 t20)]) (m2 := m) (by decide +kernel) rfl trivial ?_
        refine jS.br (i := .ifCond .ge 12) (P := 0 ≤ (lg_cmp y2 t20)) (rest := []) rfl (by decide +kernel) (tgt := 89) (by decide) (fun c21 => ?_) (fun c21 => ?_)
        · replace H := jif_t c21 H
          refine jS.adv O [(.lload_n 2, 0, 0, 0, 0, 0, 0), (.lload 5, 0, 0, 0, 0, 0, 0), (.lsub, 0, 0, 0, 0, 0, 0), (.lstore_n 2, 0, 0, 0, 0, 0, 0), (.iinc 4 1, 0, 0, 0, 0, (1 : Int32), 0), (.goto (-87), 0, 10, 0, 0, 0, 0)] (pc' := 10) (ls' := [(4, .inl (y4 + (1 : Int32))), (2, .inr (.inl (y2 - t20))), (5, .inr (.inl t20)), (0, .inr (.inr y0)), (1, .inl y1)]) (st' := []) (m2 := m) (by decide +kernel) rfl trivial ?_
          refine jS.loc' [3, 4, 1, 0] (ls' := [(0, .inr (.inr y0)), (1, .inl y1), (2, .inr (.inl (y2 - t20))), (4, .inl (y4 + (1 : Int32)))]) rfl ?_
          exact hB _ _ _ _ _ _ H h1 h2
        · replace H := jif_f c21 H
          refine jS.adv O [(.aload_n 0, 0, 0, 0, 0, 0, 0), (.iload_n 1, 0, 0, 0, 0, 0, 0), (.iload 4, 0, 0, 0, 0, 0, 0)] (pc' := 84) (ls' := [(5, .inr (.inl t20)), (0, .inr (.inr y0)), (1, .inl y1), (2, .inr (.inl y2)), (4, .inl y4)]) (st' := [.inl y4, .inl y1, .inr (.inr y0)]) (m2 := m) (by decide +kernel) rfl trivial ?_
          obtain ⟨t23, w22, H⟩ := jb_ok H
          refine jS.step (c' := (87, [(5, .inr (.inl t20)), (0, .inr (.inr y0)), (1, .inl y1), (2, .inr (.inl y2)), (4, .inl y4)], [], t23)) (jSt.callV (c := 2) (As := [.inl y1, .inl y4]) (rest := []) O (ec_X2_seat (d := 2) O (Nat.le_refl _) w22) w4 (by decide) rfl (by omega) jmw_X2_seat jmv_X2_seat jmn_X2_seat (idx := 174) (jW_of 1116 (by decide +kernel) rfl) (Nat.le_of_ble_eq_true rfl) (by decide +kernel)) ?_
          refine jS.adv O [(.iconst 1, 0, 0, 0, 0, (1 : Int32), 0)] (pc' := 88) (ls' := [(5, .inr (.inl t20)), (0, .inr (.inr y0)), (1, .inl y1), (2, .inr (.inl y2)), (4, .inl y4)]) (st' := [.inl (1 : Int32)]) (m2 := t23) (by decide +kernel) rfl trivial ?_
          replace H := Option.some.inj H
          subst H
          obtain ⟨q1, q2⟩ := h1 _ rfl
          subst q1; subst q2
          exact jS.zret rfl (Or.inr rfl) (by decide +kernel)
def c_X2_check_l10 (F : Nat) : Nat → jMe → Nat → Int32 → Int64 → Int32 → Option ((Int32 × jMe) ⊕ jMe)
  | 0, _, _, _, _, _ => none
  | n + 1, m, y0, y1, y2, y4 => c_X2_check_l10_b F (fun m y0 y1 y2 y4 => c_X2_check_l10 F n m y0 y1 y2 y4) m y0 y1 y2 y4
theorem ec_X2_check_l10 {X : jX} {l : Launch} {d : Nat} (O : jOk X) (hd : 3 ≤ d) {F : Nat} {m0 m' : jMe} {v : Option jAV} : ∀ (n : Nat) {m : jMe} {y0 : Nat} {y1 : Int32} {y2 : Int64} {y4 : Int32} {r : (Int32 × jMe) ⊕ jMe} (H : c_X2_check_l10 F n m y0 y1 y2 y4 = some r) (h1 : ∀ q, r = .inl q → v = (some (.inl q.1)) ∧ m' = q.2) (h2 : ∀ e, r = .inr e → jS X l d jm_X2_check m0 v m' (100, [], [], e)), jS X l d jm_X2_check m0 v m' (10, [(0, .inr (.inr y0)), (1, .inl y1), (2, .inr (.inl y2)), (4, .inl y4)], [], m) := by
  intro n
  induction n with
  | zero =>
    intro m y0 y1 y2 y4 r H h1 h2
    cases (show none = some r from H)
  | succ n ih =>
    intro m y0 y1 y2 y4 r H h1 h2
    exact ec_X2_check_l10_b O hd (B := (fun m y0 y1 y2 y4 => c_X2_check_l10 F n m y0 y1 y2 y4)) (fun m y0 y1 y2 y4 r H h1 h2 => ih H h1 h2) H h1 h2
def c_X2_check (F : Nat) (m : jMe) (x0 : Nat) (x1 : Int32) : Option (Int32 × jMe) :=
  jgd (jK m x0 = 34) <| jgd (jK m (jP m x0 11) = 2) <| jgd (jin x1 (jZ m (jP m x0 11)) = true) <| jb2 (c_X2_check_l10 F F m x0 x1 (jL m (jP m x0 11) x1.toNatClampNeg) (0 : Int32)) (fun q => some q) fun e25 => some ((0 : Int32), e25)
theorem ec_X2_check {X : jX} {l : Launch} {d : Nat} (O : jOk X) (hd : 3 ≤ d) {F : Nat} {m : jMe} {x0 : Nat} {x1 : Int32} {r : Int32 × jMe} (H : c_X2_check F m x0 x1 = some r) : jH X l d jm_X2_check [.inr (.inr x0), .inl x1] m (some (.inl r.1)) r.2 := by
  refine jH.of jpl_RX2 rfl (Nat.le_of_ble_eq_true rfl) ?_
  show jS X l d jm_X2_check m _ _ (0, [(0, .inr (.inr x0)), (1, .inl x1)], [], m)
  unfold c_X2_check at H
  obtain ⟨w1, H⟩ := jgd_ok H
  obtain ⟨w2, H⟩ := jgd_ok H
  obtain ⟨w3, H⟩ := jgd_ok H
  refine jS.adv O [(.aload_n 0, 0, 0, 0, 0, 0, 0), (.getfield 57, 0, 2, 11, 442, 0, 0), (.iload_n 1, 0, 0, 0, 0, 0, 0), (.laload, 0, 0, 0, 0, 0, 0), (.lstore_n 2, 0, 0, 0, 0, 0, 0), (.iconst 0, 0, 0, 0, 0, (0 : Int32), 0), (.istore 4, 0, 0, 0, 0, 0, 0)] (pc' := 10) (ls' := [(4, .inl (0 : Int32)), (2, .inr (.inl (jL m (jP m x0 11) x1.toNatClampNeg))), (0, .inr (.inr x0)), (1, .inl x1)]) (st' := []) (m2 := m) (by decide +kernel) rfl ⟨w1, ⟨w2, jib_ok w3⟩, trivial⟩ ?_
  refine jS.loc' [2, 3, 1, 0] (ls' := [(0, .inr (.inr x0)), (1, .inl x1), (2, .inr (.inl (jL m (jP m x0 11) x1.toNatClampNeg))), (4, .inl (0 : Int32))]) rfl ?_
  rcases jb2_ok H with ⟨q24, w26, H⟩ | ⟨e25, w26, H⟩
  · refine ec_X2_check_l10 O hd F w26 (fun q2 hq2 => ?_) (fun e2 he2 => by cases he2)
    cases hq2
    cases H
    exact ⟨rfl, rfl⟩
  · refine ec_X2_check_l10 O hd F w26 (fun q2 hq2 => by cases hq2) (fun e2 he2 => ?_)
    cases he2
    refine jS.adv O [(.iconst 0, 0, 0, 0, 0, (0 : Int32), 0)] (pc' := 101) (ls' := []) (st' := [.inl (0 : Int32)]) (m2 := e25) (by decide +kernel) rfl trivial ?_
    replace H := Option.some.inj H
    subst H
    exact jS.zret rfl (Or.inl rfl) (by decide +kernel)
def c_X2_lead_l5_b (F : Nat) (B : jMe → Nat → Int64 → Int32 → Option (jMe × Nat × Int64)) (m : jMe) (y0 : Nat) (y3 : Int64) (y5 : Int32) : Option (jMe × Nat × Int64) :=
  (if y5 < 0 then some (m, y0, y3) else jgd (jK m y0 = 34) <| jgd (jK m (jP m y0 0) = 40) <| jb (c_X9_isIn F m (jI m (jP m y0 0) 7) y5) fun t5 => (if t5 = 0 then B m y0 y3 (y5 + (-1 : Int32)) else jgd (jK m (jP m y0 2) = 2) <| jgd (jin y5 (jZ m (jP m y0 2)) = true) <| (if (lg_cmp (jL m (jP m y0 2) y5.toNatClampNeg) (0 : Int64)) ≤ 0 then B m y0 y3 (y5 + (-1 : Int32)) else jgd (jin y5 (jZ m (jP m y0 2)) = true) <| jgd (¬ (jL m (jP m y0 2) y5.toNatClampNeg) = 0) <| jgd (jK m (jP m y0 11) = 2) <| jgd (jin y5 (jZ m (jP m y0 11)) = true) <| jgd (jK m (jP (jsL m (jP m y0 11) y5.toNatClampNeg (jlrem y3 (jL m (jP m y0 2) y5.toNatClampNeg))) y0 2) = 2) <| jgd (jin y5 (jZ m (jP (jsL m (jP m y0 11) y5.toNatClampNeg (jlrem y3 (jL m (jP m y0 2) y5.toNatClampNeg))) y0 2)) = true) <| jgd (¬ (jL (jsL m (jP m y0 11) y5.toNatClampNeg (jlrem y3 (jL m (jP m y0 2) y5.toNatClampNeg))) (jP (jsL m (jP m y0 11) y5.toNatClampNeg (jlrem y3 (jL m (jP m y0 2) y5.toNatClampNeg))) y0 2) y5.toNatClampNeg) = 0) <| jlet (y3 / (jL (jsL m (jP m y0 11) y5.toNatClampNeg (jlrem y3 (jL m (jP m y0 2) y5.toNatClampNeg))) (jP (jsL m (jP m y0 11) y5.toNatClampNeg (jlrem y3 (jL m (jP m y0 2) y5.toNatClampNeg))) y0 2) y5.toNatClampNeg)) fun v17 => B (jsL m (jP m y0 11) y5.toNatClampNeg (jlrem y3 (jL m (jP m y0 2) y5.toNatClampNeg))) y0 v17 (y5 + (-1 : Int32)))))
theorem ec_X2_lead_l5_b {X : jX} {l : Launch} {d : Nat} (O : jOk X) (hd : 4 ≤ d) {F : Nat} {m0 m' : jMe} {v : Option jAV} {B : jMe → Nat → Int64 → Int32 → Option (jMe × Nat × Int64)} (hB : ∀ (m : jMe) (y0 : Nat) (y3 : Int64) (y5 : Int32) (r : jMe × Nat × Int64), B m y0 y3 y5 = some r → (jS X l d jm_X2_lead m0 v m' (69, [(0, .inr (.inr r.2.1)), (3, .inr (.inl r.2.2))], [], r.1)) → jS X l d jm_X2_lead m0 v m' (5, [(0, .inr (.inr y0)), (3, .inr (.inl y3)), (5, .inl y5)], [], m)) {m : jMe} {y0 : Nat} {y3 : Int64} {y5 : Int32} {r : jMe × Nat × Int64} (H : c_X2_lead_l5_b F B m y0 y3 y5 = some r) (h2 : jS X l d jm_X2_lead m0 v m' (69, [(0, .inr (.inr r.2.1)), (3, .inr (.inl r.2.2))], [], r.1)) : jS X l d jm_X2_lead m0 v m' (5, [(0, .inr (.inr y0)), (3, .inr (.inl y3)), (5, .inl y5)], [], m) := by
  unfold c_X2_lead_l5_b at H
  refine jS.adv O [(.iload 5, 0, 0, 0, 0, 0, 0)] (pc' := 7) (ls' := [(0, .inr (.inr y0)), (3, .inr (.inl y3)), (5, .inl y5)]) (st' := [.inl y5]) (m2 := m) (by decide +kernel) rfl trivial ?_
  refine jS.br (i := .ifCond .lt 62) (P := y5 < 0) (rest := []) rfl (by decide +kernel) (tgt := 69) (by decide) (fun c1 => ?_) (fun c1 => ?_)
  · replace H := jif_t c1 H
    replace H := Option.some.inj H
    subst H
    refine jS.loc' [0, 1] (ls' := [(0, .inr (.inr y0)), (3, .inr (.inl y3))]) rfl ?_
    exact h2
  · replace H := jif_f c1 H
    obtain ⟨w2, H⟩ := jgd_ok H
    obtain ⟨w3, H⟩ := jgd_ok H
    refine jS.adv O [(.aload_n 0, 0, 0, 0, 0, 0, 0), (.getfield 12, 0, 2, 0, 424, 0, 0), (.getfield 148, 0, 8, 7, 403, 0, 0), (.iload 5, 0, 0, 0, 0, 0, 0)] (pc' := 19) (ls' := [(0, .inr (.inr y0)), (3, .inr (.inl y3)), (5, .inl y5)]) (st' := [.inl y5, .inl (jI m (jP m y0 0) 7)]) (m2 := m) (by decide +kernel) rfl ⟨w2, w3, trivial⟩ ?_
    obtain ⟨t5, w4, H⟩ := jb_ok H
    refine jS.step (c' := (22, [(0, .inr (.inr y0)), (3, .inr (.inl y3)), (5, .inl y5)], [.inl t5], m)) (jSt.callSN (As := [.inl (jI m (jP m y0 0) 7), .inl y5]) (rest := []) O (ec_X9_isIn (d := 2) O (Nat.le_refl _) w4) (by omega) jmw_X9_isIn jmv_X9_isIn jmn_X9_isIn (host := "JoinDraws") (idx := 83) jln_JoinDraws_Join_83 (Nat.le_of_ble_eq_true rfl) (by decide +kernel)) ?_
    refine jS.br (i := .ifCond .eq 41) (P := t5 = 0) (rest := []) rfl (by decide +kernel) (tgt := 63) (by decide) (fun c6 => ?_) (fun c6 => ?_)
    · replace H := jif_t c6 H
      refine jS.adv O [(.iinc 5 (-1), 0, 0, 0, 0, (-1 : Int32), 0), (.goto (-61), 0, 5, 0, 0, 0, 0)] (pc' := 5) (ls' := [(5, .inl (y5 + (-1 : Int32))), (0, .inr (.inr y0)), (3, .inr (.inl y3))]) (st' := []) (m2 := m) (by decide +kernel) rfl trivial ?_
      refine jS.loc' [1, 2, 0] (ls' := [(0, .inr (.inr y0)), (3, .inr (.inl y3)), (5, .inl (y5 + (-1 : Int32)))]) rfl ?_
      exact hB _ _ _ _ _ H h2
    · replace H := jif_f c6 H
      obtain ⟨w7, H⟩ := jgd_ok H
      obtain ⟨w8, H⟩ := jgd_ok H
      refine jS.adv O [(.aload_n 0, 0, 0, 0, 0, 0, 0), (.getfield 22, 0, 2, 2, 428, 0, 0), (.iload 5, 0, 0, 0, 0, 0, 0), (.laload, 0, 0, 0, 0, 0, 0), (.lconst 0, 0, 0, 0, 0, 0, (0 : Int64)), (.lcmp, 0, 0, 0, 0, 0, 0)] (pc' := 34) (ls' := [(0, .inr (.inr y0)), (3, .inr (.inl y3)), (5, .inl y5)]) (st' := [.inl (lg_cmp (jL m (jP m y0 2) y5.toNatClampNeg) (0 : Int64))]) (m2 := m) (by decide +kernel) rfl ⟨w2, ⟨w7, jib_ok w8⟩, trivial⟩ ?_
      refine jS.br (i := .ifCond .le 29) (P := (lg_cmp (jL m (jP m y0 2) y5.toNatClampNeg) (0 : Int64)) ≤ 0) (rest := []) rfl (by decide +kernel) (tgt := 63) (by decide) (fun c9 => ?_) (fun c9 => ?_)
      · replace H := jif_t c9 H
        refine jS.adv O [(.iinc 5 (-1), 0, 0, 0, 0, (-1 : Int32), 0), (.goto (-61), 0, 5, 0, 0, 0, 0)] (pc' := 5) (ls' := [(5, .inl (y5 + (-1 : Int32))), (0, .inr (.inr y0)), (3, .inr (.inl y3))]) (st' := []) (m2 := m) (by decide +kernel) rfl trivial ?_
        refine jS.loc' [1, 2, 0] (ls' := [(0, .inr (.inr y0)), (3, .inr (.inl y3)), (5, .inl (y5 + (-1 : Int32)))]) rfl ?_
        exact hB _ _ _ _ _ H h2
      · replace H := jif_f c9 H
        obtain ⟨w10, H⟩ := jgd_ok H
        obtain ⟨w11, H⟩ := jgd_ok H
        obtain ⟨w12, H⟩ := jgd_ok H
        obtain ⟨w13, H⟩ := jgd_ok H
        obtain ⟨w14, H⟩ := jgd_ok H
        obtain ⟨w15, H⟩ := jgd_ok H
        obtain ⟨w16, H⟩ := jgd_ok H
        obtain ⟨v17, ev17, H⟩ := jlet_ok H
        refine jS.adv O [(.aload_n 0, 0, 0, 0, 0, 0, 0), (.getfield 57, 0, 2, 11, 442, 0, 0), (.iload 5, 0, 0, 0, 0, 0, 0), (.lload_n 3, 0, 0, 0, 0, 0, 0), (.aload_n 0, 0, 0, 0, 0, 0, 0), (.getfield 22, 0, 2, 2, 428, 0, 0), (.iload 5, 0, 0, 0, 0, 0, 0), (.laload, 0, 0, 0, 0, 0, 0), (.lrem, 0, 0, 0, 0, 0, 0), (.lastore, 0, 0, 0, 0, 0, 0), (.lload_n 3, 0, 0, 0, 0, 0, 0), (.aload_n 0, 0, 0, 0, 0, 0, 0), (.getfield 22, 0, 2, 2, 428, 0, 0), (.iload 5, 0, 0, 0, 0, 0, 0), (.laload, 0, 0, 0, 0, 0, 0), (.ldiv, 0, 0, 0, 0, 0, 0), (.lstore_n 3, 0, 0, 0, 0, 0, 0)] (pc' := 63) (ls' := [(3, .inr (.inl (y3 / (jL (jsL m (jP m y0 11) y5.toNatClampNeg (jlrem y3 (jL m (jP m y0 2) y5.toNatClampNeg))) (jP (jsL m (jP m y0 11) y5.toNatClampNeg (jlrem y3 (jL m (jP m y0 2) y5.toNatClampNeg))) y0 2) y5.toNatClampNeg)))), (0, .inr (.inr y0)), (5, .inl y5)]) (st' := []) (m2 := (jsL m (jP m y0 11) y5.toNatClampNeg (jlrem y3 (jL m (jP m y0 2) y5.toNatClampNeg)))) (by decide +kernel) rfl ⟨w2, w2, ⟨w7, jib_ok w10⟩, w11, ⟨w12, jib_ok w13⟩, w2, ⟨w14, jib_ok w15⟩, w16, trivial⟩ ?_
        refine jS.cast (c' := (63, [(3, .inr (.inl v17)), (0, .inr (.inr y0)), (5, .inl y5)], [], (jsL m (jP m y0 11) y5.toNatClampNeg (jlrem y3 (jL m (jP m y0 2) y5.toNatClampNeg))))) (by rw [ev17]) ?_
        refine jS.adv O [(.iinc 5 (-1), 0, 0, 0, 0, (-1 : Int32), 0), (.goto (-61), 0, 5, 0, 0, 0, 0)] (pc' := 5) (ls' := [(5, .inl (y5 + (-1 : Int32))), (3, .inr (.inl v17)), (0, .inr (.inr y0))]) (st' := []) (m2 := (jsL m (jP m y0 11) y5.toNatClampNeg (jlrem y3 (jL m (jP m y0 2) y5.toNatClampNeg)))) (by decide +kernel) rfl trivial ?_
        refine jS.loc' [2, 1, 0] (ls' := [(0, .inr (.inr y0)), (3, .inr (.inl v17)), (5, .inl (y5 + (-1 : Int32)))]) rfl ?_
        exact hB _ _ _ _ _ H h2
def c_X2_lead_l5 (F : Nat) : Nat → jMe → Nat → Int64 → Int32 → Option (jMe × Nat × Int64)
  | 0, _, _, _, _ => none
  | n + 1, m, y0, y3, y5 => c_X2_lead_l5_b F (fun m y0 y3 y5 => c_X2_lead_l5 F n m y0 y3 y5) m y0 y3 y5
theorem ec_X2_lead_l5 {X : jX} {l : Launch} {d : Nat} (O : jOk X) (hd : 4 ≤ d) {F : Nat} {m0 m' : jMe} {v : Option jAV} : ∀ (n : Nat) {m : jMe} {y0 : Nat} {y3 : Int64} {y5 : Int32} {r : jMe × Nat × Int64} (H : c_X2_lead_l5 F n m y0 y3 y5 = some r) (h2 : jS X l d jm_X2_lead m0 v m' (69, [(0, .inr (.inr r.2.1)), (3, .inr (.inl r.2.2))], [], r.1)), jS X l d jm_X2_lead m0 v m' (5, [(0, .inr (.inr y0)), (3, .inr (.inl y3)), (5, .inl y5)], [], m) := by
  intro n
  induction n with
  | zero =>
    intro m y0 y3 y5 r H h2
    cases (show none = some r from H)
  | succ n ih =>
    intro m y0 y3 y5 r H h2
    exact ec_X2_lead_l5_b O hd (B := (fun m y0 y3 y5 => c_X2_lead_l5 F n m y0 y3 y5)) (fun m y0 y3 y5 r H h2 => ih H h2) H h2
def c_X2_lead_l114_b (F : Nat) (B : jMe → Nat → Int32 → Option ((Int32 × jMe) ⊕ (jMe × Nat))) (m : jMe) (y0 : Nat) (y5 : Int32) : Option ((Int32 × jMe) ⊕ (jMe × Nat)) :=
  (if y5 < 0 then some (.inr (m, y0)) else jgd (jK m y0 = 34) <| jgd (jK m (jP m y0 0) = 40) <| jgd (jK m (jP m (jP m y0 0) 2) = 1) <| jgd (jin y5 (jZ m (jP m (jP m y0 0) 2)) = true) <| jb (c_X2_leadInto F m y0 (jI m (jP m (jP m y0 0) 2) y5.toNatClampNeg)) fun t32 => (if t32.1 = 0 then some (.inl ((0 : Int32), t32.2)) else jgd (jK t32.2 y0 = 34) <| jgd (jK t32.2 (jP t32.2 y0 0) = 40) <| jgd (jK t32.2 (jP t32.2 (jP t32.2 y0 0) 2) = 1) <| jgd (jin y5 (jZ t32.2 (jP t32.2 (jP t32.2 y0 0) 2)) = true) <| jb (c_X2_leadChildren F t32.2 y0 (jI t32.2 (jP t32.2 (jP t32.2 y0 0) 2) y5.toNatClampNeg)) fun t39 => B t39 y0 (y5 + (-1 : Int32))))
theorem ec_X2_lead_l114_b {X : jX} {l : Launch} {d : Nat} (O : jOk X) (hd : 4 ≤ d) {F : Nat} {m0 m' : jMe} {v : Option jAV} {B : jMe → Nat → Int32 → Option ((Int32 × jMe) ⊕ (jMe × Nat))} (hB : ∀ (m : jMe) (y0 : Nat) (y5 : Int32) (r : (Int32 × jMe) ⊕ (jMe × Nat)), B m y0 y5 = some r → (∀ q, r = .inl q → v = (some (.inl q.1)) ∧ m' = q.2) → (∀ e, r = .inr e → jS X l d jm_X2_lead m0 v m' (158, [(0, .inr (.inr e.2))], [], e.1)) → jS X l d jm_X2_lead m0 v m' (114, [(0, .inr (.inr y0)), (5, .inl y5)], [], m)) {m : jMe} {y0 : Nat} {y5 : Int32} {r : (Int32 × jMe) ⊕ (jMe × Nat)} (H : c_X2_lead_l114_b F B m y0 y5 = some r) (h1 : ∀ q, r = .inl q → v = (some (.inl q.1)) ∧ m' = q.2) (h2 : ∀ e, r = .inr e → jS X l d jm_X2_lead m0 v m' (158, [(0, .inr (.inr e.2))], [], e.1)) : jS X l d jm_X2_lead m0 v m' (114, [(0, .inr (.inr y0)), (5, .inl y5)], [], m) := by
  unfold c_X2_lead_l114_b at H
  refine jS.adv O [(.iload 5, 0, 0, 0, 0, 0, 0)] (pc' := 116) (ls' := [(0, .inr (.inr y0)), (5, .inl y5)]) (st' := [.inl y5]) (m2 := m) (by decide +kernel) rfl trivial ?_
  refine jS.br (i := .ifCond .lt 42) (P := y5 < 0) (rest := []) rfl (by decide +kernel) (tgt := 158) (by decide) (fun c26 => ?_) (fun c26 => ?_)
  · replace H := jif_t c26 H
    replace H := Option.some.inj H
    subst H
    refine jS.loc' [0] (ls' := [(0, .inr (.inr y0))]) rfl ?_
    exact h2 _ rfl
  · replace H := jif_f c26 H
    obtain ⟨w27, H⟩ := jgd_ok H
    obtain ⟨w28, H⟩ := jgd_ok H
    obtain ⟨w29, H⟩ := jgd_ok H
    obtain ⟨w30, H⟩ := jgd_ok H
    refine jS.adv O [(.aload_n 0, 0, 0, 0, 0, 0, 0), (.aload_n 0, 0, 0, 0, 0, 0, 0), (.getfield 12, 0, 2, 0, 424, 0, 0), (.getfield 101, 0, 8, 2, 392, 0, 0), (.iload 5, 0, 0, 0, 0, 0, 0), (.iaload, 0, 1, 0, 0, 0, 0)] (pc' := 130) (ls' := [(0, .inr (.inr y0)), (5, .inl y5)]) (st' := [.inl (jI m (jP m (jP m y0 0) 2) y5.toNatClampNeg), .inr (.inr y0)]) (m2 := m) (by decide +kernel) rfl ⟨w27, w28, ⟨w29, jib_ok w30⟩, trivial⟩ ?_
    obtain ⟨t32, w31, H⟩ := jb_ok H
    refine jS.step (c' := (133, [(0, .inr (.inr y0)), (5, .inl y5)], [.inl t32.1], t32.2)) (jSt.callV (c := 2) (As := [.inl (jI m (jP m (jP m y0 0) 2) y5.toNatClampNeg)]) (rest := []) O (ec_X2_leadInto (d := 3) O (Nat.le_refl _) w31) w27 (by decide) rfl (by omega) jmw_X2_leadInto jmv_X2_leadInto jmn_X2_leadInto (idx := 164) (jW_of 1112 (by decide +kernel) rfl) (Nat.le_of_ble_eq_true rfl) (by decide +kernel)) ?_
    refine jS.br (i := .ifCond .ne 5) (P := ¬ t32.1 = 0) (rest := []) rfl (by decide +kernel) (tgt := 138) (by decide) (fun c33 => ?_) (fun c33 => ?_)
    · replace H := jif_f c33 H
      obtain ⟨w34, H⟩ := jgd_ok H
      obtain ⟨w35, H⟩ := jgd_ok H
      obtain ⟨w36, H⟩ := jgd_ok H
      obtain ⟨w37, H⟩ := jgd_ok H
      refine jS.adv O [(.aload_n 0, 0, 0, 0, 0, 0, 0), (.aload_n 0, 0, 0, 0, 0, 0, 0), (.getfield 12, 0, 2, 0, 424, 0, 0), (.getfield 101, 0, 8, 2, 392, 0, 0), (.iload 5, 0, 0, 0, 0, 0, 0), (.iaload, 0, 1, 0, 0, 0, 0)] (pc' := 149) (ls' := [(0, .inr (.inr y0)), (5, .inl y5)]) (st' := [.inl (jI t32.2 (jP t32.2 (jP t32.2 y0 0) 2) y5.toNatClampNeg), .inr (.inr y0)]) (m2 := t32.2) (by decide +kernel) rfl ⟨w34, w35, ⟨w36, jib_ok w37⟩, trivial⟩ ?_
      obtain ⟨t39, w38, H⟩ := jb_ok H
      refine jS.step (c' := (152, [(0, .inr (.inr y0)), (5, .inl y5)], [], t39)) (jSt.callV (c := 2) (As := [.inl (jI t32.2 (jP t32.2 (jP t32.2 y0 0) 2) y5.toNatClampNeg)]) (rest := []) O (ec_X2_leadChildren (d := 3) O (Nat.le_refl _) w38) w34 (by decide) rfl (by omega) jmw_X2_leadChildren jmv_X2_leadChildren jmn_X2_leadChildren (idx := 168) (jW_of 1120 (by decide +kernel) rfl) (Nat.le_of_ble_eq_true rfl) (by decide +kernel)) ?_
      refine jS.adv O [(.iinc 5 (-1), 0, 0, 0, 0, (-1 : Int32), 0), (.goto (-41), 0, 114, 0, 0, 0, 0)] (pc' := 114) (ls' := [(5, .inl (y5 + (-1 : Int32))), (0, .inr (.inr y0))]) (st' := []) (m2 := t39) (by decide +kernel) rfl trivial ?_
      refine jS.loc' [1, 0] (ls' := [(0, .inr (.inr y0)), (5, .inl (y5 + (-1 : Int32)))]) rfl ?_
      exact hB _ _ _ _ H h1 h2
    · replace H := jif_t (Classical.not_not.mp c33) H
      refine jS.adv O [(.iconst 0, 0, 0, 0, 0, (0 : Int32), 0)] (pc' := 137) (ls' := [(0, .inr (.inr y0)), (5, .inl y5)]) (st' := [.inl (0 : Int32)]) (m2 := t32.2) (by decide +kernel) rfl trivial ?_
      replace H := Option.some.inj H
      subst H
      obtain ⟨q1, q2⟩ := h1 _ rfl
      subst q1; subst q2
      exact jS.zret rfl (Or.inl rfl) (by decide +kernel)
def c_X2_lead_l114 (F : Nat) : Nat → jMe → Nat → Int32 → Option ((Int32 × jMe) ⊕ (jMe × Nat))
  | 0, _, _, _ => none
  | n + 1, m, y0, y5 => c_X2_lead_l114_b F (fun m y0 y5 => c_X2_lead_l114 F n m y0 y5) m y0 y5
theorem ec_X2_lead_l114 {X : jX} {l : Launch} {d : Nat} (O : jOk X) (hd : 4 ≤ d) {F : Nat} {m0 m' : jMe} {v : Option jAV} : ∀ (n : Nat) {m : jMe} {y0 : Nat} {y5 : Int32} {r : (Int32 × jMe) ⊕ (jMe × Nat)} (H : c_X2_lead_l114 F n m y0 y5 = some r) (h1 : ∀ q, r = .inl q → v = (some (.inl q.1)) ∧ m' = q.2) (h2 : ∀ e, r = .inr e → jS X l d jm_X2_lead m0 v m' (158, [(0, .inr (.inr e.2))], [], e.1)), jS X l d jm_X2_lead m0 v m' (114, [(0, .inr (.inr y0)), (5, .inl y5)], [], m) := by
  intro n
  induction n with
  | zero =>
    intro m y0 y5 r H h1 h2
    cases (show none = some r from H)
  | succ n ih =>
    intro m y0 y5 r H h1 h2
    exact ec_X2_lead_l114_b O hd (B := (fun m y0 y5 => c_X2_lead_l114 F n m y0 y5)) (fun m y0 y5 r H h1 h2 => ih H h1 h2) H h1 h2
def c_X2_lead_l161_b (F : Nat) (B : jMe → Nat → Int32 → Option ((Int32 × jMe) ⊕ jMe)) (m : jMe) (y0 : Nat) (y5 : Int32) : Option ((Int32 × jMe) ⊕ jMe) :=
  (if (4 : Int32) ≤ y5 then some (.inr (m)) else jgd (jK m y0 = 34) <| jgd (jK m (jP m y0 0) = 40) <| jb (c_X9_isIn F m (jI m (jP m y0 0) 7) y5) fun t47 => (if t47 = 0 then B m y0 (y5 + (1 : Int32)) else jb (c_X2_check F m y0 y5) fun t50 => (if t50.1 = 0 then some (.inl ((0 : Int32), t50.2)) else B t50.2 y0 (y5 + (1 : Int32)))))
theorem ec_X2_lead_l161_b {X : jX} {l : Launch} {d : Nat} (O : jOk X) (hd : 4 ≤ d) {F : Nat} {m0 m' : jMe} {v : Option jAV} {B : jMe → Nat → Int32 → Option ((Int32 × jMe) ⊕ jMe)} (hB : ∀ (m : jMe) (y0 : Nat) (y5 : Int32) (r : (Int32 × jMe) ⊕ jMe), B m y0 y5 = some r → (∀ q, r = .inl q → v = (some (.inl q.1)) ∧ m' = q.2) → (∀ e, r = .inr e → jS X l d jm_X2_lead m0 v m' (199, [], [], e)) → jS X l d jm_X2_lead m0 v m' (161, [(0, .inr (.inr y0)), (5, .inl y5)], [], m)) {m : jMe} {y0 : Nat} {y5 : Int32} {r : (Int32 × jMe) ⊕ jMe} (H : c_X2_lead_l161_b F B m y0 y5 = some r) (h1 : ∀ q, r = .inl q → v = (some (.inl q.1)) ∧ m' = q.2) (h2 : ∀ e, r = .inr e → jS X l d jm_X2_lead m0 v m' (199, [], [], e)) : jS X l d jm_X2_lead m0 v m' (161, [(0, .inr (.inr y0)), (5, .inl y5)], [], m) := by
  unfold c_X2_lead_l161_b at H
  refine jS.adv O [(.iload 5, 0, 0, 0, 0, 0, 0), (.iconst 4, 0, 0, 0, 0, (4 : Int32), 0)] (pc' := 164) (ls' := [(0, .inr (.inr y0)), (5, .inl y5)]) (st' := [.inl (4 : Int32), .inl y5]) (m2 := m) (by decide +kernel) rfl trivial ?_
  refine jS.br (i := .if_icmp .ge 35) (P := (4 : Int32) ≤ y5) (rest := []) rfl (by decide +kernel) (tgt := 199) (by decide) (fun c43 => ?_) (fun c43 => ?_)
  · replace H := jif_t c43 H
    replace H := Option.some.inj H
    subst H
    refine jS.loc' [] (ls' := []) rfl ?_
    exact h2 _ rfl
  · replace H := jif_f c43 H
    obtain ⟨w44, H⟩ := jgd_ok H
    obtain ⟨w45, H⟩ := jgd_ok H
    refine jS.adv O [(.aload_n 0, 0, 0, 0, 0, 0, 0), (.getfield 12, 0, 2, 0, 424, 0, 0), (.getfield 148, 0, 8, 7, 403, 0, 0), (.iload 5, 0, 0, 0, 0, 0, 0)] (pc' := 176) (ls' := [(0, .inr (.inr y0)), (5, .inl y5)]) (st' := [.inl y5, .inl (jI m (jP m y0 0) 7)]) (m2 := m) (by decide +kernel) rfl ⟨w44, w45, trivial⟩ ?_
    obtain ⟨t47, w46, H⟩ := jb_ok H
    refine jS.step (c' := (179, [(0, .inr (.inr y0)), (5, .inl y5)], [.inl t47], m)) (jSt.callSN (As := [.inl (jI m (jP m y0 0) 7), .inl y5]) (rest := []) O (ec_X9_isIn (d := 2) O (Nat.le_refl _) w46) (by omega) jmw_X9_isIn jmv_X9_isIn jmn_X9_isIn (host := "JoinDraws") (idx := 83) jln_JoinDraws_Join_83 (Nat.le_of_ble_eq_true rfl) (by decide +kernel)) ?_
    refine jS.br (i := .ifCond .eq 14) (P := t47 = 0) (rest := []) rfl (by decide +kernel) (tgt := 193) (by decide) (fun c48 => ?_) (fun c48 => ?_)
    · replace H := jif_t c48 H
      refine jS.adv O [(.iinc 5 1, 0, 0, 0, 0, (1 : Int32), 0), (.goto (-35), 0, 161, 0, 0, 0, 0)] (pc' := 161) (ls' := [(5, .inl (y5 + (1 : Int32))), (0, .inr (.inr y0))]) (st' := []) (m2 := m) (by decide +kernel) rfl trivial ?_
      refine jS.loc' [1, 0] (ls' := [(0, .inr (.inr y0)), (5, .inl (y5 + (1 : Int32)))]) rfl ?_
      exact hB _ _ _ _ H h1 h2
    · replace H := jif_f c48 H
      refine jS.adv O [(.aload_n 0, 0, 0, 0, 0, 0, 0), (.iload 5, 0, 0, 0, 0, 0, 0)] (pc' := 185) (ls' := [(0, .inr (.inr y0)), (5, .inl y5)]) (st' := [.inl y5, .inr (.inr y0)]) (m2 := m) (by decide +kernel) rfl trivial ?_
      obtain ⟨t50, w49, H⟩ := jb_ok H
      refine jS.step (c' := (188, [(0, .inr (.inr y0)), (5, .inl y5)], [.inl t50.1], t50.2)) (jSt.callV (c := 2) (As := [.inl y5]) (rest := []) O (ec_X2_check (d := 3) O (Nat.le_refl _) w49) w44 (by decide) rfl (by omega) jmw_X2_check jmv_X2_check jmn_X2_check (idx := 171) (jW_of 1124 (by decide +kernel) rfl) (Nat.le_of_ble_eq_true rfl) (by decide +kernel)) ?_
      refine jS.br (i := .ifCond .ne 5) (P := ¬ t50.1 = 0) (rest := []) rfl (by decide +kernel) (tgt := 193) (by decide) (fun c51 => ?_) (fun c51 => ?_)
      · replace H := jif_f c51 H
        refine jS.adv O [(.iinc 5 1, 0, 0, 0, 0, (1 : Int32), 0), (.goto (-35), 0, 161, 0, 0, 0, 0)] (pc' := 161) (ls' := [(5, .inl (y5 + (1 : Int32))), (0, .inr (.inr y0))]) (st' := []) (m2 := t50.2) (by decide +kernel) rfl trivial ?_
        refine jS.loc' [1, 0] (ls' := [(0, .inr (.inr y0)), (5, .inl (y5 + (1 : Int32)))]) rfl ?_
        exact hB _ _ _ _ H h1 h2
      · replace H := jif_t (Classical.not_not.mp c51) H
        refine jS.adv O [(.iconst 0, 0, 0, 0, 0, (0 : Int32), 0)] (pc' := 192) (ls' := [(0, .inr (.inr y0)), (5, .inl y5)]) (st' := [.inl (0 : Int32)]) (m2 := t50.2) (by decide +kernel) rfl trivial ?_
        replace H := Option.some.inj H
        subst H
        obtain ⟨q1, q2⟩ := h1 _ rfl
        subst q1; subst q2
        exact jS.zret rfl (Or.inl rfl) (by decide +kernel)
def c_X2_lead_l161 (F : Nat) : Nat → jMe → Nat → Int32 → Option ((Int32 × jMe) ⊕ jMe)
  | 0, _, _, _ => none
  | n + 1, m, y0, y5 => c_X2_lead_l161_b F (fun m y0 y5 => c_X2_lead_l161 F n m y0 y5) m y0 y5
theorem ec_X2_lead_l161 {X : jX} {l : Launch} {d : Nat} (O : jOk X) (hd : 4 ≤ d) {F : Nat} {m0 m' : jMe} {v : Option jAV} : ∀ (n : Nat) {m : jMe} {y0 : Nat} {y5 : Int32} {r : (Int32 × jMe) ⊕ jMe} (H : c_X2_lead_l161 F n m y0 y5 = some r) (h1 : ∀ q, r = .inl q → v = (some (.inl q.1)) ∧ m' = q.2) (h2 : ∀ e, r = .inr e → jS X l d jm_X2_lead m0 v m' (199, [], [], e)), jS X l d jm_X2_lead m0 v m' (161, [(0, .inr (.inr y0)), (5, .inl y5)], [], m) := by
  intro n
  induction n with
  | zero =>
    intro m y0 y5 r H h1 h2
    cases (show none = some r from H)
  | succ n ih =>
    intro m y0 y5 r H h1 h2
    exact ec_X2_lead_l161_b O hd (B := (fun m y0 y5 => c_X2_lead_l161 F n m y0 y5)) (fun m y0 y5 r H h1 h2 => ih H h1 h2) H h1 h2
def c_X2_lead_j103 (F : Nat) (m : jMe) (y0 : Nat) : Option (Int32 × jMe) :=
  jgd (jK m y0 = 34) <| jgd (jK m (jP m y0 0) = 40) <| jb2 (c_X2_lead_l114 F F m y0 ((jI m (jP m y0 0) 4) - (1 : Int32))) (fun q => some q) fun e41 => jb2 (c_X2_lead_l161 F F e41.1 e41.2 (0 : Int32)) (fun q => some q) fun e53 => some ((1 : Int32), e53)
theorem ec_X2_lead_j103 {X : jX} {l : Launch} {d : Nat} (O : jOk X) (hd : 4 ≤ d) {F : Nat} {m0 m : jMe} {y0 : Nat} {r : Int32 × jMe} (H : c_X2_lead_j103 F m y0 = some r) : jS X l d jm_X2_lead m0 (some (.inl r.1)) r.2 (103, [(0, .inr (.inr y0))], [], m) := by
  unfold c_X2_lead_j103 at H
  obtain ⟨w24, H⟩ := jgd_ok H
  obtain ⟨w25, H⟩ := jgd_ok H
  refine jS.adv O [(.aload_n 0, 0, 0, 0, 0, 0, 0), (.getfield 12, 0, 2, 0, 424, 0, 0), (.getfield 98, 0, 8, 4, 395, 0, 0), (.iconst 1, 0, 0, 0, 0, (1 : Int32), 0), (.isub, 0, 0, 0, 0, 0, 0), (.istore 5, 0, 0, 0, 0, 0, 0)] (pc' := 114) (ls' := [(5, .inl ((jI m (jP m y0 0) 4) - (1 : Int32))), (0, .inr (.inr y0))]) (st' := []) (m2 := m) (by decide +kernel) rfl ⟨w24, w25, trivial⟩ ?_
  refine jS.loc' [1, 0] (ls' := [(0, .inr (.inr y0)), (5, .inl ((jI m (jP m y0 0) 4) - (1 : Int32)))]) rfl ?_
  rcases jb2_ok H with ⟨q40, w42, H⟩ | ⟨e41, w42, H⟩
  · refine ec_X2_lead_l114 O hd F w42 (fun q2 hq2 => ?_) (fun e2 he2 => by cases he2)
    cases hq2
    cases H
    exact ⟨rfl, rfl⟩
  · refine ec_X2_lead_l114 O hd F w42 (fun q2 hq2 => by cases hq2) (fun e2 he2 => ?_)
    cases he2
    refine jS.adv O [(.iconst 0, 0, 0, 0, 0, (0 : Int32), 0), (.istore 5, 0, 0, 0, 0, 0, 0)] (pc' := 161) (ls' := [(5, .inl (0 : Int32)), (0, .inr (.inr e41.2))]) (st' := []) (m2 := e41.1) (by decide +kernel) rfl trivial ?_
    refine jS.loc' [1, 0] (ls' := [(0, .inr (.inr e41.2)), (5, .inl (0 : Int32))]) rfl ?_
    rcases jb2_ok H with ⟨q52, w54, H⟩ | ⟨e53, w54, H⟩
    · refine ec_X2_lead_l161 O hd F w54 (fun q2 hq2 => ?_) (fun e2 he2 => by cases he2)
      cases hq2
      cases H
      exact ⟨rfl, rfl⟩
    · refine ec_X2_lead_l161 O hd F w54 (fun q2 hq2 => by cases hq2) (fun e2 he2 => ?_)
      cases he2
      refine jS.adv O [(.iconst 1, 0, 0, 0, 0, (1 : Int32), 0)] (pc' := 200) (ls' := []) (st' := [.inl (1 : Int32)]) (m2 := e53) (by decide +kernel) rfl trivial ?_
      replace H := Option.some.inj H
      subst H
      exact jS.zret rfl (Or.inr rfl) (by decide +kernel)
def c_X2_lead (F : Nat) (m : jMe) (x0 : Nat) (x1 : Int64) : Option (Int32 × jMe) :=
  jb (c_X2_lead_l5 F F m x0 x1 (3 : Int32)) fun e19 => jgd (jK e19.1 e19.2.1 = 34) <| jgd (jK e19.1 (jP (jsI (jsI e19.1 e19.2.1 16 (0 : Int32)) e19.2.1 17 (0 : Int32)) e19.2.1 0) = 40) <| (if (jI (jsI (jsI e19.1 e19.2.1 16 (0 : Int32)) e19.2.1 17 (0 : Int32)) (jP (jsI (jsI e19.1 e19.2.1 16 (0 : Int32)) e19.2.1 17 (0 : Int32)) e19.2.1 0) 5) = (-1 : Int32) then c_X2_lead_j103 F (jsI (jsI e19.1 e19.2.1 16 (0 : Int32)) e19.2.1 17 (0 : Int32)) e19.2.1 else jgd (jK e19.1 (jP (jsI (jsI e19.1 e19.2.1 16 (0 : Int32)) e19.2.1 17 (0 : Int32)) e19.2.1 11) = 2) <| jgd (jin (jI (jsI (jsI e19.1 e19.2.1 16 (0 : Int32)) e19.2.1 17 (0 : Int32)) (jP (jsI (jsI e19.1 e19.2.1 16 (0 : Int32)) e19.2.1 17 (0 : Int32)) e19.2.1 0) 5) (jZ e19.1 (jP (jsI (jsI e19.1 e19.2.1 16 (0 : Int32)) e19.2.1 17 (0 : Int32)) e19.2.1 11)) = true) <| jlet (jsL (jsI (jsI e19.1 e19.2.1 16 (0 : Int32)) e19.2.1 17 (0 : Int32)) (jP (jsI (jsI e19.1 e19.2.1 16 (0 : Int32)) e19.2.1 17 (0 : Int32)) e19.2.1 11) (jI (jsI (jsI e19.1 e19.2.1 16 (0 : Int32)) e19.2.1 17 (0 : Int32)) (jP (jsI (jsI e19.1 e19.2.1 16 (0 : Int32)) e19.2.1 17 (0 : Int32)) e19.2.1 0) 5).toNatClampNeg e19.2.2) fun m57 => c_X2_lead_j103 F m57 e19.2.1)
theorem ec_X2_lead {X : jX} {l : Launch} {d : Nat} (O : jOk X) (hd : 4 ≤ d) {F : Nat} {m : jMe} {x0 : Nat} {x1 : Int64} {r : Int32 × jMe} (H : c_X2_lead F m x0 x1 = some r) : jH X l d jm_X2_lead [.inr (.inr x0), .inr (.inl x1)] m (some (.inl r.1)) r.2 := by
  refine jH.of jpl_RX2 rfl (Nat.le_of_ble_eq_true rfl) ?_
  show jS X l d jm_X2_lead m _ _ (0, [(0, .inr (.inr x0)), (1, .inr (.inl x1))], [], m)
  unfold c_X2_lead at H
  refine jS.adv O [(.lload_n 1, 0, 0, 0, 0, 0, 0), (.lstore_n 3, 0, 0, 0, 0, 0, 0), (.iconst 3, 0, 0, 0, 0, (3 : Int32), 0), (.istore 5, 0, 0, 0, 0, 0, 0)] (pc' := 5) (ls' := [(5, .inl (3 : Int32)), (3, .inr (.inl x1)), (0, .inr (.inr x0)), (1, .inr (.inl x1))]) (st' := []) (m2 := m) (by decide +kernel) rfl trivial ?_
  refine jS.loc' [2, 1, 0] (ls' := [(0, .inr (.inr x0)), (3, .inr (.inl x1)), (5, .inl (3 : Int32))]) rfl ?_
  obtain ⟨e19, w20, H⟩ := jb_ok H
  refine ec_X2_lead_l5 O hd F w20 ?_
  obtain ⟨w21, H⟩ := jgd_ok H
  obtain ⟨w22, H⟩ := jgd_ok H
  refine jS.adv O [(.aload_n 0, 0, 0, 0, 0, 0, 0), (.iconst 0, 0, 0, 0, 0, (0 : Int32), 0), (.putfield 73, 0, 2, 16, 447, 0, 0), (.aload_n 0, 0, 0, 0, 0, 0, 0), (.iconst 0, 0, 0, 0, 0, (0 : Int32), 0), (.putfield 76, 0, 2, 17, 448, 0, 0), (.aload_n 0, 0, 0, 0, 0, 0, 0), (.getfield 12, 0, 2, 0, 424, 0, 0), (.getfield 108, 0, 8, 5, 397, 0, 0), (.iconst (-1), 0, 0, 0, 0, (-1 : Int32), 0)] (pc' := 87) (ls' := [(0, .inr (.inr e19.2.1)), (3, .inr (.inl e19.2.2))]) (st' := [.inl (-1 : Int32), .inl (jI (jsI (jsI e19.1 e19.2.1 16 (0 : Int32)) e19.2.1 17 (0 : Int32)) (jP (jsI (jsI e19.1 e19.2.1 16 (0 : Int32)) e19.2.1 17 (0 : Int32)) e19.2.1 0) 5)]) (m2 := (jsI (jsI e19.1 e19.2.1 16 (0 : Int32)) e19.2.1 17 (0 : Int32))) (by decide +kernel) rfl ⟨w21, w21, w21, w22, trivial⟩ ?_
  refine jS.br (i := .if_icmp .eq 16) (P := (jI (jsI (jsI e19.1 e19.2.1 16 (0 : Int32)) e19.2.1 17 (0 : Int32)) (jP (jsI (jsI e19.1 e19.2.1 16 (0 : Int32)) e19.2.1 17 (0 : Int32)) e19.2.1 0) 5) = (-1 : Int32)) (rest := []) rfl (by decide +kernel) (tgt := 103) (by decide) (fun c23 => ?_) (fun c23 => ?_)
  · replace H := jif_t c23 H
    refine jS.loc' [0] (ls' := [(0, .inr (.inr e19.2.1))]) rfl ?_
    exact ec_X2_lead_j103 O hd H
  · replace H := jif_f c23 H
    obtain ⟨w55, H⟩ := jgd_ok H
    obtain ⟨w56, H⟩ := jgd_ok H
    obtain ⟨m57, em57, H⟩ := jlet_ok H
    refine jS.adv O [(.aload_n 0, 0, 0, 0, 0, 0, 0), (.getfield 57, 0, 2, 11, 442, 0, 0), (.aload_n 0, 0, 0, 0, 0, 0, 0), (.getfield 12, 0, 2, 0, 424, 0, 0), (.getfield 108, 0, 8, 5, 397, 0, 0), (.lload_n 3, 0, 0, 0, 0, 0, 0), (.lastore, 0, 0, 0, 0, 0, 0)] (pc' := 103) (ls' := [(0, .inr (.inr e19.2.1)), (3, .inr (.inl e19.2.2))]) (st' := []) (m2 := (jsL (jsI (jsI e19.1 e19.2.1 16 (0 : Int32)) e19.2.1 17 (0 : Int32)) (jP (jsI (jsI e19.1 e19.2.1 16 (0 : Int32)) e19.2.1 17 (0 : Int32)) e19.2.1 11) (jI (jsI (jsI e19.1 e19.2.1 16 (0 : Int32)) e19.2.1 17 (0 : Int32)) (jP (jsI (jsI e19.1 e19.2.1 16 (0 : Int32)) e19.2.1 17 (0 : Int32)) e19.2.1 0) 5).toNatClampNeg e19.2.2)) (by decide +kernel) rfl ⟨w21, w21, w22, ⟨w55, jib_ok w56⟩, trivial⟩ ?_
    refine jS.cast (c' := (103, [(0, .inr (.inr e19.2.1)), (3, .inr (.inl e19.2.2))], [], m57)) (by rw [em57]) ?_
    refine jS.loc' [0] (ls' := [(0, .inr (.inr e19.2.1))]) rfl ?_
    exact ec_X2_lead_j103 O hd H
def c_X2_digits_l4_b (F : Nat) (B : Nat → Int32 → Int32 → Option (Int32)) (m : jMe) (y0 : Nat) (y1 : Int32) (y2 : Int32) : Option (Int32) :=
  (if (4 : Int32) ≤ y2 then some (y1) else jgd (jK m y0 = 34) <| jb (c_X9_isIn F m (jI m y0 13) y2) fun t4 => (if t4 = 0 then B y0 y1 (y2 + (1 : Int32)) else jgd (jK m (jP m y0 10) = 1) <| jgd (jin y2 (jZ m (jP m y0 10)) = true) <| jlet (((y1 * (10 : Int32)) + (jI m (jP m y0 10) y2.toNatClampNeg)) + (1 : Int32)) fun v8 => B y0 v8 (y2 + (1 : Int32))))
theorem ec_X2_digits_l4_b {X : jX} {l : Launch} {d : Nat} (O : jOk X) (hd : 3 ≤ d) {F : Nat} {m0 m' : jMe} {v : Option jAV} {m : jMe} {B : Nat → Int32 → Int32 → Option (Int32)} (hB : ∀ (y0 : Nat) (y1 : Int32) (y2 : Int32) (r : Int32), B y0 y1 y2 = some r → (jS X l d jm_X2_digits m0 v m' (44, [(1, .inl r)], [], m)) → jS X l d jm_X2_digits m0 v m' (4, [(0, .inr (.inr y0)), (1, .inl y1), (2, .inl y2)], [], m)) {y0 : Nat} {y1 : Int32} {y2 : Int32} {r : Int32} (H : c_X2_digits_l4_b F B m y0 y1 y2 = some r) (h2 : jS X l d jm_X2_digits m0 v m' (44, [(1, .inl r)], [], m)) : jS X l d jm_X2_digits m0 v m' (4, [(0, .inr (.inr y0)), (1, .inl y1), (2, .inl y2)], [], m) := by
  unfold c_X2_digits_l4_b at H
  refine jS.adv O [(.iload_n 2, 0, 0, 0, 0, 0, 0), (.iconst 4, 0, 0, 0, 0, (4 : Int32), 0)] (pc' := 6) (ls' := [(0, .inr (.inr y0)), (1, .inl y1), (2, .inl y2)]) (st' := [.inl (4 : Int32), .inl y2]) (m2 := m) (by decide +kernel) rfl trivial ?_
  refine jS.br (i := .if_icmp .ge 38) (P := (4 : Int32) ≤ y2) (rest := []) rfl (by decide +kernel) (tgt := 44) (by decide) (fun c1 => ?_) (fun c1 => ?_)
  · replace H := jif_t c1 H
    replace H := Option.some.inj H
    subst H
    refine jS.loc' [1] (ls' := [(1, .inl y1)]) rfl ?_
    exact h2
  · replace H := jif_f c1 H
    obtain ⟨w2, H⟩ := jgd_ok H
    refine jS.adv O [(.aload_n 0, 0, 0, 0, 0, 0, 0), (.getfield 64, 0, 2, 13, 444, 0, 0), (.iload_n 2, 0, 0, 0, 0, 0, 0)] (pc' := 14) (ls' := [(0, .inr (.inr y0)), (1, .inl y1), (2, .inl y2)]) (st' := [.inl y2, .inl (jI m y0 13)]) (m2 := m) (by decide +kernel) rfl ⟨w2, trivial⟩ ?_
    obtain ⟨t4, w3, H⟩ := jb_ok H
    refine jS.step (c' := (17, [(0, .inr (.inr y0)), (1, .inl y1), (2, .inl y2)], [.inl t4], m)) (jSt.callSN (As := [.inl (jI m y0 13), .inl y2]) (rest := []) O (ec_X9_isIn (d := 2) O (Nat.le_refl _) w3) (by omega) jmw_X9_isIn jmv_X9_isIn jmn_X9_isIn (host := "JoinDraws") (idx := 83) jln_JoinDraws_Join_83 (Nat.le_of_ble_eq_true rfl) (by decide +kernel)) ?_
    refine jS.br (i := .ifCond .eq 19) (P := t4 = 0) (rest := []) rfl (by decide +kernel) (tgt := 36) (by decide) (fun c5 => ?_) (fun c5 => ?_)
    · replace H := jif_t c5 H
      refine jS.adv O [(.iload_n 1, 0, 0, 0, 0, 0, 0), (.istore_n 1, 0, 0, 0, 0, 0, 0), (.iinc 2 1, 0, 0, 0, 0, (1 : Int32), 0), (.goto (-37), 0, 4, 0, 0, 0, 0)] (pc' := 4) (ls' := [(2, .inl (y2 + (1 : Int32))), (1, .inl y1), (0, .inr (.inr y0))]) (st' := []) (m2 := m) (by decide +kernel) rfl trivial ?_
      refine jS.loc' [2, 1, 0] (ls' := [(0, .inr (.inr y0)), (1, .inl y1), (2, .inl (y2 + (1 : Int32)))]) rfl ?_
      exact hB _ _ _ _ H h2
    · replace H := jif_f c5 H
      obtain ⟨w6, H⟩ := jgd_ok H
      obtain ⟨w7, H⟩ := jgd_ok H
      obtain ⟨v8, ev8, H⟩ := jlet_ok H
      refine jS.adv O [(.iload_n 1, 0, 0, 0, 0, 0, 0), (.bipush 10, 0, 0, 0, 0, (10 : Int32), 0), (.imul, 0, 0, 0, 0, 0, 0), (.aload_n 0, 0, 0, 0, 0, 0, 0), (.getfield 54, 0, 2, 10, 441, 0, 0), (.iload_n 2, 0, 0, 0, 0, 0, 0), (.iaload, 0, 1, 0, 0, 0, 0), (.iadd, 0, 0, 0, 0, 0, 0), (.iconst 1, 0, 0, 0, 0, (1 : Int32), 0), (.iadd, 0, 0, 0, 0, 0, 0), (.goto 4, 0, 37, 0, 0, 0, 0), (.istore_n 1, 0, 0, 0, 0, 0, 0)] (pc' := 38) (ls' := [(1, .inl (((y1 * (10 : Int32)) + (jI m (jP m y0 10) y2.toNatClampNeg)) + (1 : Int32))), (0, .inr (.inr y0)), (2, .inl y2)]) (st' := []) (m2 := m) (by decide +kernel) rfl ⟨w2, ⟨w6, jib_ok w7⟩, trivial⟩ ?_
      refine jS.cast (c' := (38, [(1, .inl v8), (0, .inr (.inr y0)), (2, .inl y2)], [], m)) (by rw [ev8]) ?_
      refine jS.adv O [(.iinc 2 1, 0, 0, 0, 0, (1 : Int32), 0), (.goto (-37), 0, 4, 0, 0, 0, 0)] (pc' := 4) (ls' := [(2, .inl (y2 + (1 : Int32))), (1, .inl v8), (0, .inr (.inr y0))]) (st' := []) (m2 := m) (by decide +kernel) rfl trivial ?_
      refine jS.loc' [2, 1, 0] (ls' := [(0, .inr (.inr y0)), (1, .inl v8), (2, .inl (y2 + (1 : Int32)))]) rfl ?_
      exact hB _ _ _ _ H h2
def c_X2_digits_l4 (F : Nat) (m : jMe) : Nat → Nat → Int32 → Int32 → Option (Int32)
  | 0, _, _, _ => none
  | n + 1, y0, y1, y2 => c_X2_digits_l4_b F (fun y0 y1 y2 => c_X2_digits_l4 F m n y0 y1 y2) m y0 y1 y2
theorem ec_X2_digits_l4 {X : jX} {l : Launch} {d : Nat} (O : jOk X) (hd : 3 ≤ d) {F : Nat} {m0 m' : jMe} {v : Option jAV} {m : jMe} : ∀ (n : Nat) {y0 : Nat} {y1 : Int32} {y2 : Int32} {r : Int32} (H : c_X2_digits_l4 F m n y0 y1 y2 = some r) (h2 : jS X l d jm_X2_digits m0 v m' (44, [(1, .inl r)], [], m)), jS X l d jm_X2_digits m0 v m' (4, [(0, .inr (.inr y0)), (1, .inl y1), (2, .inl y2)], [], m) := by
  intro n
  induction n with
  | zero =>
    intro y0 y1 y2 r H h2
    cases (show none = some r from H)
  | succ n ih =>
    intro y0 y1 y2 r H h2
    exact ec_X2_digits_l4_b O hd (B := (fun y0 y1 y2 => c_X2_digits_l4 F m n y0 y1 y2)) (fun y0 y1 y2 r H h2 => ih H h2) H h2
def c_X2_digits (F : Nat) (m : jMe) (x0 : Nat) : Option (Int32) :=
  jb (c_X2_digits_l4 F m F x0 (0 : Int32) (0 : Int32)) fun e10 => some e10
theorem ec_X2_digits {X : jX} {l : Launch} {d : Nat} (O : jOk X) (hd : 3 ≤ d) {F : Nat} {m : jMe} {x0 : Nat} {r : Int32} (H : c_X2_digits F m x0 = some r) : jH X l d jm_X2_digits [.inr (.inr x0)] m (some (.inl r)) m := by
  refine jH.of jpl_RX2 rfl (Nat.le_of_ble_eq_true rfl) ?_
  show jS X l d jm_X2_digits m _ _ (0, [(0, .inr (.inr x0))], [], m)
  unfold c_X2_digits at H
  refine jS.adv O [(.iconst 0, 0, 0, 0, 0, (0 : Int32), 0), (.istore_n 1, 0, 0, 0, 0, 0, 0), (.iconst 0, 0, 0, 0, 0, (0 : Int32), 0), (.istore_n 2, 0, 0, 0, 0, 0, 0)] (pc' := 4) (ls' := [(2, .inl (0 : Int32)), (1, .inl (0 : Int32)), (0, .inr (.inr x0))]) (st' := []) (m2 := m) (by decide +kernel) rfl trivial ?_
  refine jS.loc' [2, 1, 0] (ls' := [(0, .inr (.inr x0)), (1, .inl (0 : Int32)), (2, .inl (0 : Int32))]) rfl ?_
  obtain ⟨e10, w11, H⟩ := jb_ok H
  refine ec_X2_digits_l4 O hd F w11 ?_
  refine jS.adv O [(.iload_n 1, 0, 0, 0, 0, 0, 0)] (pc' := 45) (ls' := [(1, .inl e10)]) (st' := [.inl e10]) (m2 := m) (by decide +kernel) rfl trivial ?_
  replace H := Option.some.inj H
  subst H
  exact jS.iret rfl (by decide +kernel)
def c_X2_answerValue_j29 (F : Nat) (m : jMe) (y0 : Nat) (y1 : Int32) (s0 : Int32) : Option (Int32) :=
  (if s0 = 0 then some (-1 : Int32) else jgd (jK m y0 = 34) <| some ((jushr (jI m y0 16) ((4 : Int32) * y1)) &&& (15 : Int32)))
theorem ec_X2_answerValue_j29 {X : jX} {l : Launch} {d : Nat} (O : jOk X) (hd : 2 ≤ d) {F : Nat} {m0 m : jMe} {y0 : Nat} {y1 : Int32} {s0 : Int32} {r : Int32} (H : c_X2_answerValue_j29 F m y0 y1 s0 = some r) : jS X l d jm_X2_answerValue m0 (some (.inl r)) m (29, [(0, .inr (.inr y0)), (1, .inl y1)], [.inl s0], m) := by
  unfold c_X2_answerValue_j29 at H
  refine jS.adv O [(.istore_n 2, 0, 0, 0, 0, 0, 0), (.iload_n 2, 0, 0, 0, 0, 0, 0)] (pc' := 31) (ls' := [(2, .inl s0), (0, .inr (.inr y0)), (1, .inl y1)]) (st' := [.inl s0]) (m2 := m) (by decide +kernel) rfl trivial ?_
  refine jS.br (i := .ifCond .eq 17) (P := s0 = 0) (rest := []) rfl (by decide +kernel) (tgt := 48) (by decide) (fun c2 => ?_) (fun c2 => ?_)
  · replace H := jif_t c2 H
    refine jS.adv O [(.iconst (-1), 0, 0, 0, 0, (-1 : Int32), 0)] (pc' := 49) (ls' := [(2, .inl s0), (0, .inr (.inr y0)), (1, .inl y1)]) (st' := [.inl (-1 : Int32)]) (m2 := m) (by decide +kernel) rfl trivial ?_
    replace H := Option.some.inj H
    subst H
    exact jS.iret rfl (by decide +kernel)
  · replace H := jif_f c2 H
    obtain ⟨w3, H⟩ := jgd_ok H
    refine jS.adv O [(.aload_n 0, 0, 0, 0, 0, 0, 0), (.getfield 73, 0, 2, 16, 447, 0, 0), (.iconst 4, 0, 0, 0, 0, (4 : Int32), 0), (.iload_n 1, 0, 0, 0, 0, 0, 0), (.imul, 0, 0, 0, 0, 0, 0), (.iushr, 0, 0, 0, 0, 0, 0), (.bipush 15, 0, 0, 0, 0, (15 : Int32), 0), (.iand, 0, 0, 0, 0, 0, 0), (.goto 4, 0, 49, 0, 0, 0, 0)] (pc' := 49) (ls' := [(2, .inl s0), (0, .inr (.inr y0)), (1, .inl y1)]) (st' := [.inl ((jushr (jI m y0 16) ((4 : Int32) * y1)) &&& (15 : Int32))]) (m2 := m) (by decide +kernel) rfl ⟨w3, trivial⟩ ?_
    replace H := Option.some.inj H
    subst H
    exact jS.iret rfl (by decide +kernel)
def c_X2_answerValue (F : Nat) (m : jMe) (x0 : Nat) (x1 : Int32) : Option (Int32) :=
  (if x1 < 0 then c_X2_answerValue_j29 F m x0 x1 (0 : Int32) else (if (6 : Int32) ≤ x1 then c_X2_answerValue_j29 F m x0 x1 (0 : Int32) else jgd (jK m x0 = 34) <| (if ((jushr (jI m x0 17) ((4 : Int32) * x1)) &&& (15 : Int32)) = 0 then c_X2_answerValue_j29 F m x0 x1 (0 : Int32) else c_X2_answerValue_j29 F m x0 x1 (1 : Int32))))
theorem ec_X2_answerValue {X : jX} {l : Launch} {d : Nat} (O : jOk X) (hd : 2 ≤ d) {F : Nat} {m : jMe} {x0 : Nat} {x1 : Int32} {r : Int32} (H : c_X2_answerValue F m x0 x1 = some r) : jH X l d jm_X2_answerValue [.inr (.inr x0), .inl x1] m (some (.inl r)) m := by
  refine jH.of jpl_RX2 rfl (Nat.le_of_ble_eq_true rfl) ?_
  show jS X l d jm_X2_answerValue m _ _ (0, [(0, .inr (.inr x0)), (1, .inl x1)], [], m)
  unfold c_X2_answerValue at H
  refine jS.adv O [(.iload_n 1, 0, 0, 0, 0, 0, 0)] (pc' := 1) (ls' := [(0, .inr (.inr x0)), (1, .inl x1)]) (st' := [.inl x1]) (m2 := m) (by decide +kernel) rfl trivial ?_
  refine jS.br (i := .ifCond .lt 27) (P := x1 < 0) (rest := []) rfl (by decide +kernel) (tgt := 28) (by decide) (fun c1 => ?_) (fun c1 => ?_)
  · replace H := jif_t c1 H
    refine jS.adv O [(.iconst 0, 0, 0, 0, 0, (0 : Int32), 0)] (pc' := 29) (ls' := [(0, .inr (.inr x0)), (1, .inl x1)]) (st' := [.inl (0 : Int32)]) (m2 := m) (by decide +kernel) rfl trivial ?_
    refine jS.loc' [0, 1] (ls' := [(0, .inr (.inr x0)), (1, .inl x1)]) rfl ?_
    exact ec_X2_answerValue_j29 O hd H
  · replace H := jif_f c1 H
    refine jS.adv O [(.iload_n 1, 0, 0, 0, 0, 0, 0), (.bipush 6, 0, 0, 0, 0, (6 : Int32), 0)] (pc' := 7) (ls' := [(0, .inr (.inr x0)), (1, .inl x1)]) (st' := [.inl (6 : Int32), .inl x1]) (m2 := m) (by decide +kernel) rfl trivial ?_
    refine jS.br (i := .if_icmp .ge 21) (P := (6 : Int32) ≤ x1) (rest := []) rfl (by decide +kernel) (tgt := 28) (by decide) (fun c4 => ?_) (fun c4 => ?_)
    · replace H := jif_t c4 H
      refine jS.adv O [(.iconst 0, 0, 0, 0, 0, (0 : Int32), 0)] (pc' := 29) (ls' := [(0, .inr (.inr x0)), (1, .inl x1)]) (st' := [.inl (0 : Int32)]) (m2 := m) (by decide +kernel) rfl trivial ?_
      refine jS.loc' [0, 1] (ls' := [(0, .inr (.inr x0)), (1, .inl x1)]) rfl ?_
      exact ec_X2_answerValue_j29 O hd H
    · replace H := jif_f c4 H
      obtain ⟨w5, H⟩ := jgd_ok H
      refine jS.adv O [(.aload_n 0, 0, 0, 0, 0, 0, 0), (.getfield 76, 0, 2, 17, 448, 0, 0), (.iconst 4, 0, 0, 0, 0, (4 : Int32), 0), (.iload_n 1, 0, 0, 0, 0, 0, 0), (.imul, 0, 0, 0, 0, 0, 0), (.iushr, 0, 0, 0, 0, 0, 0), (.bipush 15, 0, 0, 0, 0, (15 : Int32), 0), (.iand, 0, 0, 0, 0, 0, 0)] (pc' := 21) (ls' := [(0, .inr (.inr x0)), (1, .inl x1)]) (st' := [.inl ((jushr (jI m x0 17) ((4 : Int32) * x1)) &&& (15 : Int32))]) (m2 := m) (by decide +kernel) rfl ⟨w5, trivial⟩ ?_
      refine jS.br (i := .ifCond .eq 7) (P := ((jushr (jI m x0 17) ((4 : Int32) * x1)) &&& (15 : Int32)) = 0) (rest := []) rfl (by decide +kernel) (tgt := 28) (by decide) (fun c6 => ?_) (fun c6 => ?_)
      · replace H := jif_t c6 H
        refine jS.adv O [(.iconst 0, 0, 0, 0, 0, (0 : Int32), 0)] (pc' := 29) (ls' := [(0, .inr (.inr x0)), (1, .inl x1)]) (st' := [.inl (0 : Int32)]) (m2 := m) (by decide +kernel) rfl trivial ?_
        refine jS.loc' [0, 1] (ls' := [(0, .inr (.inr x0)), (1, .inl x1)]) rfl ?_
        exact ec_X2_answerValue_j29 O hd H
      · replace H := jif_f c6 H
        refine jS.adv O [(.iconst 1, 0, 0, 0, 0, (1 : Int32), 0), (.goto 4, 0, 29, 0, 0, 0, 0)] (pc' := 29) (ls' := [(0, .inr (.inr x0)), (1, .inl x1)]) (st' := [.inl (1 : Int32)]) (m2 := m) (by decide +kernel) rfl trivial ?_
        refine jS.loc' [0, 1] (ls' := [(0, .inr (.inr x0)), (1, .inl x1)]) rfl ?_
        exact ec_X2_answerValue_j29 O hd H
def c_X2_isAnswer_l14_b (F : Nat) (B : jMe → Nat → Int32 → Int32 → Option ((Int32 × jMe) ⊕ (jMe × Int32))) (m : jMe) (y0 : Nat) (y2 : Int32) (y3 : Int32) : Option ((Int32 × jMe) ⊕ (jMe × Int32)) :=
  (if y3 < 0 then some (.inr (m, y2)) else jgd (jK m y0 = 34) <| jb (c_X9_isIn F m (jI m y0 13) y3) fun t5 => (if t5 = 0 then B m y0 y2 (y3 + (-1 : Int32)) else jgd (jK m (jP m y0 9) = 1) <| jgd (jin y3 (jZ m (jP m y0 9)) = true) <| jb (c_X9_isIn F m (jI m (jP m y0 9) y3.toNatClampNeg) ((jrem y2 (10 : Int32)) - (1 : Int32))) fun t10 => (if t10 = 0 then some (.inl ((0 : Int32), m)) else jgd (jK m (jP m y0 12) = 5) <| jgd (jin y3 (jZ m (jP m y0 12)) = true) <| jgd (jK m (jP m (jP m y0 12) y3.toNatClampNeg) = 36) <| jb (c_X4_matches F m (jP m (jP m y0 12) y3.toNatClampNeg) ((jrem y2 (10 : Int32)) - (1 : Int32)) (jI m y0 16) (jI m y0 17)) fun t16 => (if t16 = 0 then some (.inl ((0 : Int32), m)) else jb (c_X2_seat F m y0 y3 ((jrem y2 (10 : Int32)) - (1 : Int32))) fun t19 => B t19 y0 (y2 / (10 : Int32)) (y3 + (-1 : Int32))))))
theorem ec_X2_isAnswer_l14_b {X : jX} {l : Launch} {d : Nat} (O : jOk X) (hd : 3 ≤ d) {F : Nat} {m0 m' : jMe} {v : Option jAV} {B : jMe → Nat → Int32 → Int32 → Option ((Int32 × jMe) ⊕ (jMe × Int32))} (hB : ∀ (m : jMe) (y0 : Nat) (y2 : Int32) (y3 : Int32) (r : (Int32 × jMe) ⊕ (jMe × Int32)), B m y0 y2 y3 = some r → (∀ q, r = .inl q → v = (some (.inl q.1)) ∧ m' = q.2) → (∀ e, r = .inr e → jS X l d jm_X2_isAnswer m0 v m' (93, [(2, .inl e.2)], [], e.1)) → jS X l d jm_X2_isAnswer m0 v m' (14, [(0, .inr (.inr y0)), (2, .inl y2), (3, .inl y3)], [], m)) {m : jMe} {y0 : Nat} {y2 : Int32} {y3 : Int32} {r : (Int32 × jMe) ⊕ (jMe × Int32)} (H : c_X2_isAnswer_l14_b F B m y0 y2 y3 = some r) (h1 : ∀ q, r = .inl q → v = (some (.inl q.1)) ∧ m' = q.2) (h2 : ∀ e, r = .inr e → jS X l d jm_X2_isAnswer m0 v m' (93, [(2, .inl e.2)], [], e.1)) : jS X l d jm_X2_isAnswer m0 v m' (14, [(0, .inr (.inr y0)), (2, .inl y2), (3, .inl y3)], [], m) := by
  unfold c_X2_isAnswer_l14_b at H
  refine jS.adv O [(.iload_n 3, 0, 0, 0, 0, 0, 0)] (pc' := 15) (ls' := [(0, .inr (.inr y0)), (2, .inl y2), (3, .inl y3)]) (st' := [.inl y3]) (m2 := m) (by decide +kernel) rfl trivial ?_
  refine jS.br (i := .ifCond .lt 78) (P := y3 < 0) (rest := []) rfl (by decide +kernel) (tgt := 93) (by decide) (fun c2 => ?_) (fun c2 => ?_)
  · replace H := jif_t c2 H
    replace H := Option.some.inj H
    subst H
    refine jS.loc' [1] (ls' := [(2, .inl y2)]) rfl ?_
    exact h2 _ rfl
  · replace H := jif_f c2 H
    obtain ⟨w3, H⟩ := jgd_ok H
    refine jS.adv O [(.aload_n 0, 0, 0, 0, 0, 0, 0), (.getfield 64, 0, 2, 13, 444, 0, 0), (.iload_n 3, 0, 0, 0, 0, 0, 0)] (pc' := 23) (ls' := [(0, .inr (.inr y0)), (2, .inl y2), (3, .inl y3)]) (st' := [.inl y3, .inl (jI m y0 13)]) (m2 := m) (by decide +kernel) rfl ⟨w3, trivial⟩ ?_
    obtain ⟨t5, w4, H⟩ := jb_ok H
    refine jS.step (c' := (26, [(0, .inr (.inr y0)), (2, .inl y2), (3, .inl y3)], [.inl t5], m)) (jSt.callSN (As := [.inl (jI m y0 13), .inl y3]) (rest := []) O (ec_X9_isIn (d := 2) O (Nat.le_refl _) w4) (by omega) jmw_X9_isIn jmv_X9_isIn jmn_X9_isIn (host := "JoinDraws") (idx := 83) jln_JoinDraws_Join_83 (Nat.le_of_ble_eq_true rfl) (by decide +kernel)) ?_
    refine jS.br (i := .ifCond .eq 61) (P := t5 = 0) (rest := []) rfl (by decide +kernel) (tgt := 87) (by decide) (fun c6 => ?_) (fun c6 => ?_)
    · replace H := jif_t c6 H
      refine jS.adv O [(.iinc 3 (-1), 0, 0, 0, 0, (-1 : Int32), 0), (.goto (-76), 0, 14, 0, 0, 0, 0)] (pc' := 14) (ls' := [(3, .inl (y3 + (-1 : Int32))), (0, .inr (.inr y0)), (2, .inl y2)]) (st' := []) (m2 := m) (by decide +kernel) rfl trivial ?_
      refine jS.loc' [1, 2, 0] (ls' := [(0, .inr (.inr y0)), (2, .inl y2), (3, .inl (y3 + (-1 : Int32)))]) rfl ?_
      exact hB _ _ _ _ _ H h1 h2
    · replace H := jif_f c6 H
      obtain ⟨w7, H⟩ := jgd_ok H
      obtain ⟨w8, H⟩ := jgd_ok H
      refine jS.adv O [(.iload_n 2, 0, 0, 0, 0, 0, 0), (.bipush 10, 0, 0, 0, 0, (10 : Int32), 0), (.irem, 0, 0, 0, 0, 0, 0), (.iconst 1, 0, 0, 0, 0, (1 : Int32), 0), (.isub, 0, 0, 0, 0, 0, 0), (.istore 4, 0, 0, 0, 0, 0, 0), (.iload_n 2, 0, 0, 0, 0, 0, 0), (.bipush 10, 0, 0, 0, 0, (10 : Int32), 0), (.idiv, 0, 0, 0, 0, 0, 0), (.istore_n 2, 0, 0, 0, 0, 0, 0), (.aload_n 0, 0, 0, 0, 0, 0, 0), (.getfield 50, 0, 2, 9, 440, 0, 0), (.iload_n 3, 0, 0, 0, 0, 0, 0), (.iaload, 0, 1, 0, 0, 0, 0), (.iload 4, 0, 0, 0, 0, 0, 0)] (pc' := 50) (ls' := [(2, .inl (y2 / (10 : Int32))), (4, .inl ((jrem y2 (10 : Int32)) - (1 : Int32))), (0, .inr (.inr y0)), (3, .inl y3)]) (st' := [.inl ((jrem y2 (10 : Int32)) - (1 : Int32)), .inl (jI m (jP m y0 9) y3.toNatClampNeg)]) (m2 := m) (by decide +kernel) rfl ⟨(by decide), (by decide), w3, ⟨w7, jib_ok w8⟩, trivial⟩ ?_
      obtain ⟨t10, w9, H⟩ := jb_ok H
      refine jS.step (c' := (53, [(2, .inl (y2 / (10 : Int32))), (4, .inl ((jrem y2 (10 : Int32)) - (1 : Int32))), (0, .inr (.inr y0)), (3, .inl y3)], [.inl t10], m)) (jSt.callSN (As := [.inl (jI m (jP m y0 9) y3.toNatClampNeg), .inl ((jrem y2 (10 : Int32)) - (1 : Int32))]) (rest := []) O (ec_X9_isIn (d := 2) O (Nat.le_refl _) w9) (by omega) jmw_X9_isIn jmv_X9_isIn jmn_X9_isIn (host := "JoinDraws") (idx := 83) jln_JoinDraws_Join_83 (Nat.le_of_ble_eq_true rfl) (by decide +kernel)) ?_
      refine jS.br (i := .ifCond .eq 25) (P := t10 = 0) (rest := []) rfl (by decide +kernel) (tgt := 78) (by decide) (fun c11 => ?_) (fun c11 => ?_)
      · replace H := jif_t c11 H
        refine jS.adv O [(.iconst 0, 0, 0, 0, 0, (0 : Int32), 0)] (pc' := 79) (ls' := [(2, .inl (y2 / (10 : Int32))), (4, .inl ((jrem y2 (10 : Int32)) - (1 : Int32))), (0, .inr (.inr y0)), (3, .inl y3)]) (st' := [.inl (0 : Int32)]) (m2 := m) (by decide +kernel) rfl trivial ?_
        replace H := Option.some.inj H
        subst H
        obtain ⟨q1, q2⟩ := h1 _ rfl
        subst q1; subst q2
        exact jS.zret rfl (Or.inl rfl) (by decide +kernel)
      · replace H := jif_f c11 H
        obtain ⟨w12, H⟩ := jgd_ok H
        obtain ⟨w13, H⟩ := jgd_ok H
        obtain ⟨w14, H⟩ := jgd_ok H
        refine jS.adv O [(.aload_n 0, 0, 0, 0, 0, 0, 0), (.getfield 60, 0, 2, 12, 443, 0, 0), (.iload_n 3, 0, 0, 0, 0, 0, 0), (.aaload, 0, 5, 0, 0, 0, 0), (.iload 4, 0, 0, 0, 0, 0, 0), (.aload_n 0, 0, 0, 0, 0, 0, 0), (.getfield 73, 0, 2, 16, 447, 0, 0), (.aload_n 0, 0, 0, 0, 0, 0, 0), (.getfield 76, 0, 2, 17, 448, 0, 0)] (pc' := 72) (ls' := [(2, .inl (y2 / (10 : Int32))), (4, .inl ((jrem y2 (10 : Int32)) - (1 : Int32))), (0, .inr (.inr y0)), (3, .inl y3)]) (st' := [.inl (jI m y0 17), .inl (jI m y0 16), .inl ((jrem y2 (10 : Int32)) - (1 : Int32)), .inr (.inr (jP m (jP m y0 12) y3.toNatClampNeg))]) (m2 := m) (by decide +kernel) rfl ⟨w3, ⟨w12, jib_ok w13⟩, w3, w3, trivial⟩ ?_
        obtain ⟨t16, w15, H⟩ := jb_ok H
        refine jS.step (c' := (75, [(2, .inl (y2 / (10 : Int32))), (4, .inl ((jrem y2 (10 : Int32)) - (1 : Int32))), (0, .inr (.inr y0)), (3, .inl y3)], [.inl t16], m)) (jSt.callV (c := 4) (As := [.inl ((jrem y2 (10 : Int32)) - (1 : Int32)), .inl (jI m y0 16), .inl (jI m y0 17)]) (rest := []) O (ec_X4_matches (d := 2) O (Nat.le_refl _) w15) w14 (by decide) rfl (by omega) jmw_X4_matches jmv_X4_matches jmn_X4_matches (idx := 138) (jW_of 809 (by decide +kernel) rfl) (Nat.le_of_ble_eq_true rfl) (by decide +kernel)) ?_
        refine jS.br (i := .ifCond .ne 5) (P := ¬ t16 = 0) (rest := []) rfl (by decide +kernel) (tgt := 80) (by decide) (fun c17 => ?_) (fun c17 => ?_)
        · replace H := jif_f c17 H
          refine jS.adv O [(.aload_n 0, 0, 0, 0, 0, 0, 0), (.iload_n 3, 0, 0, 0, 0, 0, 0), (.iload 4, 0, 0, 0, 0, 0, 0)] (pc' := 84) (ls' := [(2, .inl (y2 / (10 : Int32))), (4, .inl ((jrem y2 (10 : Int32)) - (1 : Int32))), (0, .inr (.inr y0)), (3, .inl y3)]) (st' := [.inl ((jrem y2 (10 : Int32)) - (1 : Int32)), .inl y3, .inr (.inr y0)]) (m2 := m) (by decide +kernel) rfl trivial ?_
          obtain ⟨t19, w18, H⟩ := jb_ok H
          refine jS.step (c' := (87, [(2, .inl (y2 / (10 : Int32))), (4, .inl ((jrem y2 (10 : Int32)) - (1 : Int32))), (0, .inr (.inr y0)), (3, .inl y3)], [], t19)) (jSt.callV (c := 2) (As := [.inl y3, .inl ((jrem y2 (10 : Int32)) - (1 : Int32))]) (rest := []) O (ec_X2_seat (d := 2) O (Nat.le_refl _) w18) w3 (by decide) rfl (by omega) jmw_X2_seat jmv_X2_seat jmn_X2_seat (idx := 174) (jW_of 1116 (by decide +kernel) rfl) (Nat.le_of_ble_eq_true rfl) (by decide +kernel)) ?_
          refine jS.adv O [(.iinc 3 (-1), 0, 0, 0, 0, (-1 : Int32), 0), (.goto (-76), 0, 14, 0, 0, 0, 0)] (pc' := 14) (ls' := [(3, .inl (y3 + (-1 : Int32))), (2, .inl (y2 / (10 : Int32))), (4, .inl ((jrem y2 (10 : Int32)) - (1 : Int32))), (0, .inr (.inr y0))]) (st' := []) (m2 := t19) (by decide +kernel) rfl trivial ?_
          refine jS.loc' [3, 1, 0] (ls' := [(0, .inr (.inr y0)), (2, .inl (y2 / (10 : Int32))), (3, .inl (y3 + (-1 : Int32)))]) rfl ?_
          exact hB _ _ _ _ _ H h1 h2
        · replace H := jif_t (Classical.not_not.mp c17) H
          refine jS.adv O [(.iconst 0, 0, 0, 0, 0, (0 : Int32), 0)] (pc' := 79) (ls' := [(2, .inl (y2 / (10 : Int32))), (4, .inl ((jrem y2 (10 : Int32)) - (1 : Int32))), (0, .inr (.inr y0)), (3, .inl y3)]) (st' := [.inl (0 : Int32)]) (m2 := m) (by decide +kernel) rfl trivial ?_
          replace H := Option.some.inj H
          subst H
          obtain ⟨q1, q2⟩ := h1 _ rfl
          subst q1; subst q2
          exact jS.zret rfl (Or.inl rfl) (by decide +kernel)
def c_X2_isAnswer_l14 (F : Nat) : Nat → jMe → Nat → Int32 → Int32 → Option ((Int32 × jMe) ⊕ (jMe × Int32))
  | 0, _, _, _, _ => none
  | n + 1, m, y0, y2, y3 => c_X2_isAnswer_l14_b F (fun m y0 y2 y3 => c_X2_isAnswer_l14 F n m y0 y2 y3) m y0 y2 y3
theorem ec_X2_isAnswer_l14 {X : jX} {l : Launch} {d : Nat} (O : jOk X) (hd : 3 ≤ d) {F : Nat} {m0 m' : jMe} {v : Option jAV} : ∀ (n : Nat) {m : jMe} {y0 : Nat} {y2 : Int32} {y3 : Int32} {r : (Int32 × jMe) ⊕ (jMe × Int32)} (H : c_X2_isAnswer_l14 F n m y0 y2 y3 = some r) (h1 : ∀ q, r = .inl q → v = (some (.inl q.1)) ∧ m' = q.2) (h2 : ∀ e, r = .inr e → jS X l d jm_X2_isAnswer m0 v m' (93, [(2, .inl e.2)], [], e.1)), jS X l d jm_X2_isAnswer m0 v m' (14, [(0, .inr (.inr y0)), (2, .inl y2), (3, .inl y3)], [], m) := by
  intro n
  induction n with
  | zero =>
    intro m y0 y2 y3 r H h1 h2
    cases (show none = some r from H)
  | succ n ih =>
    intro m y0 y2 y3 r H h1 h2
    exact ec_X2_isAnswer_l14_b O hd (B := (fun m y0 y2 y3 => c_X2_isAnswer_l14 F n m y0 y2 y3)) (fun m y0 y2 y3 r H h1 h2 => ih H h1 h2) H h1 h2
def c_X2_isAnswer (F : Nat) (m : jMe) (x0 : Nat) (x1 : Int32) : Option (Int32 × jMe) :=
  jgd (jK m x0 = 34) <| jb2 (c_X2_isAnswer_l14 F F (jsI (jsI m x0 16 (0 : Int32)) x0 17 (0 : Int32)) x0 x1 (3 : Int32)) (fun q => some q) fun e21 => (if e21.2 = 0 then some ((1 : Int32), e21.1) else some ((0 : Int32), e21.1))
theorem ec_X2_isAnswer {X : jX} {l : Launch} {d : Nat} (O : jOk X) (hd : 3 ≤ d) {F : Nat} {m : jMe} {x0 : Nat} {x1 : Int32} {r : Int32 × jMe} (H : c_X2_isAnswer F m x0 x1 = some r) : jH X l d jm_X2_isAnswer [.inr (.inr x0), .inl x1] m (some (.inl r.1)) r.2 := by
  refine jH.of jpl_RX2 rfl (Nat.le_of_ble_eq_true rfl) ?_
  show jS X l d jm_X2_isAnswer m _ _ (0, [(0, .inr (.inr x0)), (1, .inl x1)], [], m)
  unfold c_X2_isAnswer at H
  obtain ⟨w1, H⟩ := jgd_ok H
  refine jS.adv O [(.iload_n 1, 0, 0, 0, 0, 0, 0), (.istore_n 2, 0, 0, 0, 0, 0, 0), (.aload_n 0, 0, 0, 0, 0, 0, 0), (.iconst 0, 0, 0, 0, 0, (0 : Int32), 0), (.putfield 73, 0, 2, 16, 447, 0, 0), (.aload_n 0, 0, 0, 0, 0, 0, 0), (.iconst 0, 0, 0, 0, 0, (0 : Int32), 0), (.putfield 76, 0, 2, 17, 448, 0, 0), (.iconst 3, 0, 0, 0, 0, (3 : Int32), 0), (.istore_n 3, 0, 0, 0, 0, 0, 0)] (pc' := 14) (ls' := [(3, .inl (3 : Int32)), (2, .inl x1), (0, .inr (.inr x0)), (1, .inl x1)]) (st' := []) (m2 := (jsI (jsI m x0 16 (0 : Int32)) x0 17 (0 : Int32))) (by decide +kernel) rfl ⟨w1, w1, trivial⟩ ?_
  refine jS.loc' [2, 1, 0] (ls' := [(0, .inr (.inr x0)), (2, .inl x1), (3, .inl (3 : Int32))]) rfl ?_
  rcases jb2_ok H with ⟨q20, w22, H⟩ | ⟨e21, w22, H⟩
  · refine ec_X2_isAnswer_l14 O hd F w22 (fun q2 hq2 => ?_) (fun e2 he2 => by cases he2)
    cases hq2
    cases H
    exact ⟨rfl, rfl⟩
  · refine ec_X2_isAnswer_l14 O hd F w22 (fun q2 hq2 => by cases hq2) (fun e2 he2 => ?_)
    cases he2
    refine jS.adv O [(.iload_n 2, 0, 0, 0, 0, 0, 0)] (pc' := 94) (ls' := [(2, .inl e21.2)]) (st' := [.inl e21.2]) (m2 := e21.1) (by decide +kernel) rfl trivial ?_
    refine jS.br (i := .ifCond .ne 7) (P := ¬ e21.2 = 0) (rest := []) rfl (by decide +kernel) (tgt := 101) (by decide) (fun c23 => ?_) (fun c23 => ?_)
    · replace H := jif_f c23 H
      refine jS.adv O [(.iconst 0, 0, 0, 0, 0, (0 : Int32), 0)] (pc' := 102) (ls' := [(2, .inl e21.2)]) (st' := [.inl (0 : Int32)]) (m2 := e21.1) (by decide +kernel) rfl trivial ?_
      replace H := Option.some.inj H
      subst H
      exact jS.zret rfl (Or.inl rfl) (by decide +kernel)
    · replace H := jif_t (Classical.not_not.mp c23) H
      refine jS.adv O [(.iconst 1, 0, 0, 0, 0, (1 : Int32), 0), (.goto 4, 0, 102, 0, 0, 0, 0)] (pc' := 102) (ls' := [(2, .inl e21.2)]) (st' := [.inl (1 : Int32)]) (m2 := e21.1) (by decide +kernel) rfl trivial ?_
      replace H := Option.some.inj H
      subst H
      exact jS.zret rfl (Or.inr rfl) (by decide +kernel)
def c_X2_weightsAhead_l62_b (F : Nat) (B : Nat → Int32 → Int32 → Int32 → Int64 → Int32 → Option (Int64)) (m : jMe) (y0 : Nat) (y1 : Int32) (y3 : Int32) (y4 : Int32) (y5 : Int64) (y7 : Int32) : Option (Int64) :=
  jgd (jK m y0 = 34) <| jgd (jK m (jP m y0 10) = 1) <| jgd (jin y1 (jZ m (jP m y0 10)) = true) <| (if (jI m (jP m y0 10) y1.toNatClampNeg) ≤ y7 then some (y5) else jgd (jK m (jP m y0 12) = 5) <| jgd (jin y1 (jZ m (jP m y0 12)) = true) <| jgd (jK m (jP m (jP m y0 12) y1.toNatClampNeg) = 36) <| jb (c_X4_matches F m (jP m (jP m y0 12) y1.toNatClampNeg) y7 y3 y4) fun t26 => (if t26 = 0 then B y0 y1 y3 y4 (y5 + (0 : Int64)) (y7 + (1 : Int32)) else jgd (jK m (jP m y0 1) = 2) <| jgd (jin ((y1 * (8 : Int32)) + y7) (jZ m (jP m y0 1)) = true) <| B y0 y1 y3 y4 (y5 + (jL m (jP m y0 1) ((y1 * (8 : Int32)) + y7).toNatClampNeg)) (y7 + (1 : Int32))))
theorem ec_X2_weightsAhead_l62_b {X : jX} {l : Launch} {d : Nat} (O : jOk X) (hd : 3 ≤ d) {F : Nat} {m0 m' : jMe} {v : Option jAV} {m : jMe} {B : Nat → Int32 → Int32 → Int32 → Int64 → Int32 → Option (Int64)} (hB : ∀ (y0 : Nat) (y1 : Int32) (y3 : Int32) (y4 : Int32) (y5 : Int64) (y7 : Int32) (r : Int64), B y0 y1 y3 y4 y5 y7 = some r → (jS X l d jm_X2_weightsAhead m0 v m' (117, [(5, .inr (.inl r))], [], m)) → jS X l d jm_X2_weightsAhead m0 v m' (62, [(0, .inr (.inr y0)), (1, .inl y1), (3, .inl y3), (4, .inl y4), (5, .inr (.inl y5)), (7, .inl y7)], [], m)) {y0 : Nat} {y1 : Int32} {y3 : Int32} {y4 : Int32} {y5 : Int64} {y7 : Int32} {r : Int64} (H : c_X2_weightsAhead_l62_b F B m y0 y1 y3 y4 y5 y7 = some r) (h2 : jS X l d jm_X2_weightsAhead m0 v m' (117, [(5, .inr (.inl r))], [], m)) : jS X l d jm_X2_weightsAhead m0 v m' (62, [(0, .inr (.inr y0)), (1, .inl y1), (3, .inl y3), (4, .inl y4), (5, .inr (.inl y5)), (7, .inl y7)], [], m) := by
  unfold c_X2_weightsAhead_l62_b at H
  obtain ⟨w18, H⟩ := jgd_ok H
  obtain ⟨w19, H⟩ := jgd_ok H
  obtain ⟨w20, H⟩ := jgd_ok H
  refine jS.adv O [(.iload 7, 0, 0, 0, 0, 0, 0), (.aload_n 0, 0, 0, 0, 0, 0, 0), (.getfield 54, 0, 2, 10, 441, 0, 0), (.iload_n 1, 0, 0, 0, 0, 0, 0), (.iaload, 0, 1, 0, 0, 0, 0)] (pc' := 70) (ls' := [(0, .inr (.inr y0)), (1, .inl y1), (3, .inl y3), (4, .inl y4), (5, .inr (.inl y5)), (7, .inl y7)]) (st' := [.inl (jI m (jP m y0 10) y1.toNatClampNeg), .inl y7]) (m2 := m) (by decide +kernel) rfl ⟨w18, ⟨w19, jib_ok w20⟩, trivial⟩ ?_
  refine jS.br (i := .if_icmp .ge 47) (P := (jI m (jP m y0 10) y1.toNatClampNeg) ≤ y7) (rest := []) rfl (by decide +kernel) (tgt := 117) (by decide) (fun c21 => ?_) (fun c21 => ?_)
  · replace H := jif_t c21 H
    replace H := Option.some.inj H
    subst H
    refine jS.loc' [4] (ls' := [(5, .inr (.inl y5))]) rfl ?_
    exact h2
  · replace H := jif_f c21 H
    obtain ⟨w22, H⟩ := jgd_ok H
    obtain ⟨w23, H⟩ := jgd_ok H
    obtain ⟨w24, H⟩ := jgd_ok H
    refine jS.adv O [(.lload 5, 0, 0, 0, 0, 0, 0), (.aload_n 0, 0, 0, 0, 0, 0, 0), (.getfield 60, 0, 2, 12, 443, 0, 0), (.iload_n 1, 0, 0, 0, 0, 0, 0), (.aaload, 0, 5, 0, 0, 0, 0), (.iload 7, 0, 0, 0, 0, 0, 0), (.iload_n 3, 0, 0, 0, 0, 0, 0), (.iload 4, 0, 0, 0, 0, 0, 0)] (pc' := 86) (ls' := [(0, .inr (.inr y0)), (1, .inl y1), (3, .inl y3), (4, .inl y4), (5, .inr (.inl y5)), (7, .inl y7)]) (st' := [.inl y4, .inl y3, .inl y7, .inr (.inr (jP m (jP m y0 12) y1.toNatClampNeg)), .inr (.inl y5)]) (m2 := m) (by decide +kernel) rfl ⟨w18, ⟨w22, jib_ok w23⟩, trivial⟩ ?_
    obtain ⟨t26, w25, H⟩ := jb_ok H
    refine jS.step (c' := (89, [(0, .inr (.inr y0)), (1, .inl y1), (3, .inl y3), (4, .inl y4), (5, .inr (.inl y5)), (7, .inl y7)], [.inl t26, .inr (.inl y5)], m)) (jSt.callV (c := 4) (As := [.inl y7, .inl y3, .inl y4]) (rest := [.inr (.inl y5)]) O (ec_X4_matches (d := 2) O (Nat.le_refl _) w25) w24 (by decide) rfl (by omega) jmw_X4_matches jmv_X4_matches jmn_X4_matches (idx := 138) (jW_of 809 (by decide +kernel) rfl) (Nat.le_of_ble_eq_true rfl) (by decide +kernel)) ?_
    refine jS.br (i := .ifCond .eq 18) (P := t26 = 0) (rest := [.inr (.inl y5)]) rfl (by decide +kernel) (tgt := 107) (by decide) (fun c27 => ?_) (fun c27 => ?_)
    · replace H := jif_t c27 H
      refine jS.adv O [(.lconst 0, 0, 0, 0, 0, 0, (0 : Int64)), (.ladd, 0, 0, 0, 0, 0, 0), (.lstore 5, 0, 0, 0, 0, 0, 0), (.iinc 7 1, 0, 0, 0, 0, (1 : Int32), 0), (.goto (-52), 0, 62, 0, 0, 0, 0)] (pc' := 62) (ls' := [(7, .inl (y7 + (1 : Int32))), (5, .inr (.inl (y5 + (0 : Int64)))), (0, .inr (.inr y0)), (1, .inl y1), (3, .inl y3), (4, .inl y4)]) (st' := []) (m2 := m) (by decide +kernel) rfl trivial ?_
      refine jS.loc' [2, 3, 4, 5, 1, 0] (ls' := [(0, .inr (.inr y0)), (1, .inl y1), (3, .inl y3), (4, .inl y4), (5, .inr (.inl (y5 + (0 : Int64)))), (7, .inl (y7 + (1 : Int32)))]) rfl ?_
      exact hB _ _ _ _ _ _ _ H h2
    · replace H := jif_f c27 H
      obtain ⟨w28, H⟩ := jgd_ok H
      obtain ⟨w29, H⟩ := jgd_ok H
      refine jS.adv O [(.aload_n 0, 0, 0, 0, 0, 0, 0), (.getfield 18, 0, 2, 1, 426, 0, 0), (.iload_n 1, 0, 0, 0, 0, 0, 0), (.bipush 8, 0, 0, 0, 0, (8 : Int32), 0), (.imul, 0, 0, 0, 0, 0, 0), (.iload 7, 0, 0, 0, 0, 0, 0), (.iadd, 0, 0, 0, 0, 0, 0), (.laload, 0, 0, 0, 0, 0, 0), (.goto 4, 0, 108, 0, 0, 0, 0), (.ladd, 0, 0, 0, 0, 0, 0), (.lstore 5, 0, 0, 0, 0, 0, 0), (.iinc 7 1, 0, 0, 0, 0, (1 : Int32), 0), (.goto (-52), 0, 62, 0, 0, 0, 0)] (pc' := 62) (ls' := [(7, .inl (y7 + (1 : Int32))), (5, .inr (.inl (y5 + (jL m (jP m y0 1) ((y1 * (8 : Int32)) + y7).toNatClampNeg)))), (0, .inr (.inr y0)), (1, .inl y1), (3, .inl y3), (4, .inl y4)]) (st' := []) (m2 := m) (by decide +kernel) rfl ⟨w18, ⟨w28, jib_ok w29⟩, trivial⟩ ?_
      refine jS.loc' [2, 3, 4, 5, 1, 0] (ls' := [(0, .inr (.inr y0)), (1, .inl y1), (3, .inl y3), (4, .inl y4), (5, .inr (.inl (y5 + (jL m (jP m y0 1) ((y1 * (8 : Int32)) + y7).toNatClampNeg)))), (7, .inl (y7 + (1 : Int32)))]) rfl ?_
      exact hB _ _ _ _ _ _ _ H h2
def c_X2_weightsAhead_l62 (F : Nat) (m : jMe) : Nat → Nat → Int32 → Int32 → Int32 → Int64 → Int32 → Option (Int64)
  | 0, _, _, _, _, _, _ => none
  | n + 1, y0, y1, y3, y4, y5, y7 => c_X2_weightsAhead_l62_b F (fun y0 y1 y3 y4 y5 y7 => c_X2_weightsAhead_l62 F m n y0 y1 y3 y4 y5 y7) m y0 y1 y3 y4 y5 y7
theorem ec_X2_weightsAhead_l62 {X : jX} {l : Launch} {d : Nat} (O : jOk X) (hd : 3 ≤ d) {F : Nat} {m0 m' : jMe} {v : Option jAV} {m : jMe} : ∀ (n : Nat) {y0 : Nat} {y1 : Int32} {y3 : Int32} {y4 : Int32} {y5 : Int64} {y7 : Int32} {r : Int64} (H : c_X2_weightsAhead_l62 F m n y0 y1 y3 y4 y5 y7 = some r) (h2 : jS X l d jm_X2_weightsAhead m0 v m' (117, [(5, .inr (.inl r))], [], m)), jS X l d jm_X2_weightsAhead m0 v m' (62, [(0, .inr (.inr y0)), (1, .inl y1), (3, .inl y3), (4, .inl y4), (5, .inr (.inl y5)), (7, .inl y7)], [], m) := by
  intro n
  induction n with
  | zero =>
    intro y0 y1 y3 y4 y5 y7 r H h2
    cases (show none = some r from H)
  | succ n ih =>
    intro y0 y1 y3 y4 y5 y7 r H h2
    exact ec_X2_weightsAhead_l62_b O hd (B := (fun y0 y1 y3 y4 y5 y7 => c_X2_weightsAhead_l62 F m n y0 y1 y3 y4 y5 y7)) (fun y0 y1 y3 y4 y5 y7 r H h2 => ih H h2) H h2
def c_X2_weightsAhead_j35 (F : Nat) (m : jMe) (y0 : Nat) (y1 : Int32) (y2 : Int32) (s0 : Int32) : Option (Int64) :=
  (if y2 = (-1 : Int32) then jb (c_X2_weightsAhead_l62 F m F y0 y1 s0 (0 : Int32) (0 : Int64) (0 : Int32)) fun e34 => some e34 else jgd (jK m y0 = 34) <| jgd (jK m (jP m y0 12) = 5) <| jgd (jin y2 (jZ m (jP m y0 12)) = true) <| jgd (jK m (jP m (jP m y0 12) y2.toNatClampNeg) = 36) <| jb (c_X2_weightsAhead_l62 F m F y0 y1 s0 (jI m (jP m (jP m y0 12) y2.toNatClampNeg) 4) (0 : Int64) (0 : Int32)) fun e31 => some e31)
theorem ec_X2_weightsAhead_j35 {X : jX} {l : Launch} {d : Nat} (O : jOk X) (hd : 3 ≤ d) {F : Nat} {m0 m : jMe} {y0 : Nat} {y1 : Int32} {y2 : Int32} {s0 : Int32} {r : Int64} (H : c_X2_weightsAhead_j35 F m y0 y1 y2 s0 = some r) : jS X l d jm_X2_weightsAhead m0 (some (.inr (.inl r))) m (35, [(0, .inr (.inr y0)), (1, .inl y1), (2, .inl y2)], [.inl s0], m) := by
  unfold c_X2_weightsAhead_j35 at H
  refine jS.adv O [(.istore_n 3, 0, 0, 0, 0, 0, 0), (.iload_n 2, 0, 0, 0, 0, 0, 0), (.iconst (-1), 0, 0, 0, 0, (-1 : Int32), 0)] (pc' := 38) (ls' := [(3, .inl s0), (0, .inr (.inr y0)), (1, .inl y1), (2, .inl y2)]) (st' := [.inl (-1 : Int32), .inl y2]) (m2 := m) (by decide +kernel) rfl trivial ?_
  refine jS.br (i := .if_icmp .ne 7) (P := ¬ y2 = (-1 : Int32)) (rest := []) rfl (by decide +kernel) (tgt := 45) (by decide) (fun c13 => ?_) (fun c13 => ?_)
  · replace H := jif_f c13 H
    obtain ⟨w14, H⟩ := jgd_ok H
    obtain ⟨w15, H⟩ := jgd_ok H
    obtain ⟨w16, H⟩ := jgd_ok H
    obtain ⟨w17, H⟩ := jgd_ok H
    refine jS.adv O [(.aload_n 0, 0, 0, 0, 0, 0, 0), (.getfield 60, 0, 2, 12, 443, 0, 0), (.iload_n 2, 0, 0, 0, 0, 0, 0), (.aaload, 0, 5, 0, 0, 0, 0), (.getfield 133, 0, 4, 4, 506, 0, 0), (.istore 4, 0, 0, 0, 0, 0, 0), (.lconst 0, 0, 0, 0, 0, 0, (0 : Int64)), (.lstore 5, 0, 0, 0, 0, 0, 0), (.iconst 0, 0, 0, 0, 0, (0 : Int32), 0), (.istore 7, 0, 0, 0, 0, 0, 0)] (pc' := 62) (ls' := [(7, .inl (0 : Int32)), (5, .inr (.inl (0 : Int64))), (4, .inl (jI m (jP m (jP m y0 12) y2.toNatClampNeg) 4)), (3, .inl s0), (0, .inr (.inr y0)), (1, .inl y1), (2, .inl y2)]) (st' := []) (m2 := m) (by decide +kernel) rfl ⟨w14, ⟨w15, jib_ok w16⟩, w17, trivial⟩ ?_
    refine jS.loc' [4, 5, 3, 2, 1, 0] (ls' := [(0, .inr (.inr y0)), (1, .inl y1), (3, .inl s0), (4, .inl (jI m (jP m (jP m y0 12) y2.toNatClampNeg) 4)), (5, .inr (.inl (0 : Int64))), (7, .inl (0 : Int32))]) rfl ?_
    obtain ⟨e31, w32, H⟩ := jb_ok H
    refine ec_X2_weightsAhead_l62 O hd F w32 ?_
    refine jS.adv O [(.lload 5, 0, 0, 0, 0, 0, 0)] (pc' := 119) (ls' := [(5, .inr (.inl e31))]) (st' := [.inr (.inl e31)]) (m2 := m) (by decide +kernel) rfl trivial ?_
    replace H := Option.some.inj H
    subst H
    exact jS.lret rfl (by decide +kernel)
  · replace H := jif_t (Classical.not_not.mp c13) H
    refine jS.adv O [(.iconst 0, 0, 0, 0, 0, (0 : Int32), 0), (.goto 12, 0, 54, 0, 0, 0, 0), (.istore 4, 0, 0, 0, 0, 0, 0), (.lconst 0, 0, 0, 0, 0, 0, (0 : Int64)), (.lstore 5, 0, 0, 0, 0, 0, 0), (.iconst 0, 0, 0, 0, 0, (0 : Int32), 0), (.istore 7, 0, 0, 0, 0, 0, 0)] (pc' := 62) (ls' := [(7, .inl (0 : Int32)), (5, .inr (.inl (0 : Int64))), (4, .inl (0 : Int32)), (3, .inl s0), (0, .inr (.inr y0)), (1, .inl y1), (2, .inl y2)]) (st' := []) (m2 := m) (by decide +kernel) rfl trivial ?_
    refine jS.loc' [4, 5, 3, 2, 1, 0] (ls' := [(0, .inr (.inr y0)), (1, .inl y1), (3, .inl s0), (4, .inl (0 : Int32)), (5, .inr (.inl (0 : Int64))), (7, .inl (0 : Int32))]) rfl ?_
    obtain ⟨e34, w35, H⟩ := jb_ok H
    refine ec_X2_weightsAhead_l62 O hd F w35 ?_
    refine jS.adv O [(.lload 5, 0, 0, 0, 0, 0, 0)] (pc' := 119) (ls' := [(5, .inr (.inl e34))]) (st' := [.inr (.inl e34)]) (m2 := m) (by decide +kernel) rfl trivial ?_
    replace H := Option.some.inj H
    subst H
    exact jS.lret rfl (by decide +kernel)
def c_X2_weightsAhead (F : Nat) (m : jMe) (x0 : Nat) (x1 : Int32) : Option (Int64) :=
  jgd (jK m x0 = 34) <| jgd (jK m (jP m x0 0) = 40) <| jgd (jK m (jP m (jP m x0 0) 0) = 1) <| jgd (jin x1 (jZ m (jP m (jP m x0 0) 0)) = true) <| (if (jI m (jP m (jP m x0 0) 0) x1.toNatClampNeg) = (-1 : Int32) then c_X2_weightsAhead_j35 F m x0 x1 (jI m (jP m (jP m x0 0) 0) x1.toNatClampNeg) (0 : Int32) else jgd (jK m (jP m x0 12) = 5) <| jgd (jin (jI m (jP m (jP m x0 0) 0) x1.toNatClampNeg) (jZ m (jP m x0 12)) = true) <| jgd (jK m (jP m (jP m x0 12) (jI m (jP m (jP m x0 0) 0) x1.toNatClampNeg).toNatClampNeg) = 36) <| jgd (jK m (jP m x0 10) = 1) <| jgd (jin (jI m (jP m (jP m x0 0) 0) x1.toNatClampNeg) (jZ m (jP m x0 10)) = true) <| jgd (jK m (jP m (jP m (jP m x0 12) (jI m (jP m (jP m x0 0) 0) x1.toNatClampNeg).toNatClampNeg) 0) = 1) <| jgd (jin (jI m (jP m x0 10) (jI m (jP m (jP m x0 0) 0) x1.toNatClampNeg).toNatClampNeg) (jZ m (jP m (jP m (jP m x0 12) (jI m (jP m (jP m x0 0) 0) x1.toNatClampNeg).toNatClampNeg) 0)) = true) <| c_X2_weightsAhead_j35 F m x0 x1 (jI m (jP m (jP m x0 0) 0) x1.toNatClampNeg) (jI m (jP m (jP m (jP m x0 12) (jI m (jP m (jP m x0 0) 0) x1.toNatClampNeg).toNatClampNeg) 0) (jI m (jP m x0 10) (jI m (jP m (jP m x0 0) 0) x1.toNatClampNeg).toNatClampNeg).toNatClampNeg))
theorem ec_X2_weightsAhead {X : jX} {l : Launch} {d : Nat} (O : jOk X) (hd : 3 ≤ d) {F : Nat} {m : jMe} {x0 : Nat} {x1 : Int32} {r : Int64} (H : c_X2_weightsAhead F m x0 x1 = some r) : jH X l d jm_X2_weightsAhead [.inr (.inr x0), .inl x1] m (some (.inr (.inl r))) m := by
  refine jH.of jpl_RX2 rfl (Nat.le_of_ble_eq_true rfl) ?_
  show jS X l d jm_X2_weightsAhead m _ _ (0, [(0, .inr (.inr x0)), (1, .inl x1)], [], m)
  unfold c_X2_weightsAhead at H
  obtain ⟨w1, H⟩ := jgd_ok H
  obtain ⟨w2, H⟩ := jgd_ok H
  obtain ⟨w3, H⟩ := jgd_ok H
  obtain ⟨w4, H⟩ := jgd_ok H
  refine jS.adv O [(.aload_n 0, 0, 0, 0, 0, 0, 0), (.getfield 12, 0, 2, 0, 424, 0, 0), (.getfield 189, 0, 8, 0, 386, 0, 0), (.iload_n 1, 0, 0, 0, 0, 0, 0), (.iaload, 0, 1, 0, 0, 0, 0), (.istore_n 2, 0, 0, 0, 0, 0, 0), (.iload_n 2, 0, 0, 0, 0, 0, 0), (.iconst (-1), 0, 0, 0, 0, (-1 : Int32), 0)] (pc' := 12) (ls' := [(2, .inl (jI m (jP m (jP m x0 0) 0) x1.toNatClampNeg)), (0, .inr (.inr x0)), (1, .inl x1)]) (st' := [.inl (-1 : Int32), .inl (jI m (jP m (jP m x0 0) 0) x1.toNatClampNeg)]) (m2 := m) (by decide +kernel) rfl ⟨w1, w2, ⟨w3, jib_ok w4⟩, trivial⟩ ?_
  refine jS.br (i := .if_icmp .ne 7) (P := ¬ (jI m (jP m (jP m x0 0) 0) x1.toNatClampNeg) = (-1 : Int32)) (rest := []) rfl (by decide +kernel) (tgt := 19) (by decide) (fun c5 => ?_) (fun c5 => ?_)
  · replace H := jif_f c5 H
    obtain ⟨w6, H⟩ := jgd_ok H
    obtain ⟨w7, H⟩ := jgd_ok H
    obtain ⟨w8, H⟩ := jgd_ok H
    obtain ⟨w9, H⟩ := jgd_ok H
    obtain ⟨w10, H⟩ := jgd_ok H
    obtain ⟨w11, H⟩ := jgd_ok H
    obtain ⟨w12, H⟩ := jgd_ok H
    refine jS.adv O [(.aload_n 0, 0, 0, 0, 0, 0, 0), (.getfield 60, 0, 2, 12, 443, 0, 0), (.iload_n 2, 0, 0, 0, 0, 0, 0), (.aaload, 0, 5, 0, 0, 0, 0), (.getfield 130, 0, 4, 0, 494, 0, 0), (.aload_n 0, 0, 0, 0, 0, 0, 0), (.getfield 54, 0, 2, 10, 441, 0, 0), (.iload_n 2, 0, 0, 0, 0, 0, 0), (.iaload, 0, 1, 0, 0, 0, 0), (.iaload, 0, 1, 0, 0, 0, 0)] (pc' := 35) (ls' := [(2, .inl (jI m (jP m (jP m x0 0) 0) x1.toNatClampNeg)), (0, .inr (.inr x0)), (1, .inl x1)]) (st' := [.inl (jI m (jP m (jP m (jP m x0 12) (jI m (jP m (jP m x0 0) 0) x1.toNatClampNeg).toNatClampNeg) 0) (jI m (jP m x0 10) (jI m (jP m (jP m x0 0) 0) x1.toNatClampNeg).toNatClampNeg).toNatClampNeg)]) (m2 := m) (by decide +kernel) rfl ⟨w1, ⟨w6, jib_ok w7⟩, w8, w1, ⟨w9, jib_ok w10⟩, ⟨w11, jib_ok w12⟩, trivial⟩ ?_
    refine jS.loc' [1, 2, 0] (ls' := [(0, .inr (.inr x0)), (1, .inl x1), (2, .inl (jI m (jP m (jP m x0 0) 0) x1.toNatClampNeg))]) rfl ?_
    exact ec_X2_weightsAhead_j35 O hd H
  · replace H := jif_t (Classical.not_not.mp c5) H
    refine jS.adv O [(.iconst 0, 0, 0, 0, 0, (0 : Int32), 0), (.goto 19, 0, 35, 0, 0, 0, 0)] (pc' := 35) (ls' := [(2, .inl (jI m (jP m (jP m x0 0) 0) x1.toNatClampNeg)), (0, .inr (.inr x0)), (1, .inl x1)]) (st' := [.inl (0 : Int32)]) (m2 := m) (by decide +kernel) rfl trivial ?_
    refine jS.loc' [1, 2, 0] (ls' := [(0, .inr (.inr x0)), (1, .inl x1), (2, .inl (jI m (jP m (jP m x0 0) 0) x1.toNatClampNeg))]) rfl ?_
    exact ec_X2_weightsAhead_j35 O hd H
def c_X2_leastUnder_l5_b (F : Nat) (B : Nat → Int32 → Int64 → Int32 → Option (Int64)) (m : jMe) (y0 : Nat) (y1 : Int32) (y2 : Int64) (y4 : Int32) : Option (Int64) :=
  (if (4 : Int32) ≤ y4 then some (y2) else jgd (jK m y0 = 34) <| jgd (jK m (jP m y0 0) = 40) <| jgd (jK m (jP m (jP m y0 0) 1) = 1) <| jgd (jin y1 (jZ m (jP m (jP m y0 0) 1)) = true) <| jb (c_X9_isIn F m (jI m (jP m (jP m y0 0) 1) y1.toNatClampNeg) y4) fun t7 => (if t7 = 0 then B y0 y1 y2 (y4 + (1 : Int32)) else jgd (jK m (jP m y0 10) = 1) <| jgd (jin y1 (jZ m (jP m y0 10)) = true) <| jgd (jK m (jP m y0 3) = 2) <| jgd (jin ((((y1 * (8 : Int32)) + (jI m (jP m y0 10) y1.toNatClampNeg)) * (4 : Int32)) + y4) (jZ m (jP m y0 3)) = true) <| jgd (jK m (jP m y0 11) = 2) <| jgd (jin y4 (jZ m (jP m y0 11)) = true) <| jlet ((y2 * (jL m (jP m y0 3) ((((y1 * (8 : Int32)) + (jI m (jP m y0 10) y1.toNatClampNeg)) * (4 : Int32)) + y4).toNatClampNeg)) + (jL m (jP m y0 11) y4.toNatClampNeg)) fun v15 => B y0 y1 v15 (y4 + (1 : Int32))))
theorem ec_X2_leastUnder_l5_b {X : jX} {l : Launch} {d : Nat} (O : jOk X) (hd : 3 ≤ d) {F : Nat} {m0 m' : jMe} {v : Option jAV} {m : jMe} {B : Nat → Int32 → Int64 → Int32 → Option (Int64)} (hB : ∀ (y0 : Nat) (y1 : Int32) (y2 : Int64) (y4 : Int32) (r : Int64), B y0 y1 y2 y4 = some r → (jS X l d jm_X2_leastUnder m0 v m' (66, [(2, .inr (.inl r))], [], m)) → jS X l d jm_X2_leastUnder m0 v m' (5, [(0, .inr (.inr y0)), (1, .inl y1), (2, .inr (.inl y2)), (4, .inl y4)], [], m)) {y0 : Nat} {y1 : Int32} {y2 : Int64} {y4 : Int32} {r : Int64} (H : c_X2_leastUnder_l5_b F B m y0 y1 y2 y4 = some r) (h2 : jS X l d jm_X2_leastUnder m0 v m' (66, [(2, .inr (.inl r))], [], m)) : jS X l d jm_X2_leastUnder m0 v m' (5, [(0, .inr (.inr y0)), (1, .inl y1), (2, .inr (.inl y2)), (4, .inl y4)], [], m) := by
  unfold c_X2_leastUnder_l5_b at H
  refine jS.adv O [(.iload 4, 0, 0, 0, 0, 0, 0), (.iconst 4, 0, 0, 0, 0, (4 : Int32), 0)] (pc' := 8) (ls' := [(0, .inr (.inr y0)), (1, .inl y1), (2, .inr (.inl y2)), (4, .inl y4)]) (st' := [.inl (4 : Int32), .inl y4]) (m2 := m) (by decide +kernel) rfl trivial ?_
  refine jS.br (i := .if_icmp .ge 58) (P := (4 : Int32) ≤ y4) (rest := []) rfl (by decide +kernel) (tgt := 66) (by decide) (fun c1 => ?_) (fun c1 => ?_)
  · replace H := jif_t c1 H
    replace H := Option.some.inj H
    subst H
    refine jS.loc' [2] (ls' := [(2, .inr (.inl y2))]) rfl ?_
    exact h2
  · replace H := jif_f c1 H
    obtain ⟨w2, H⟩ := jgd_ok H
    obtain ⟨w3, H⟩ := jgd_ok H
    obtain ⟨w4, H⟩ := jgd_ok H
    obtain ⟨w5, H⟩ := jgd_ok H
    refine jS.adv O [(.aload_n 0, 0, 0, 0, 0, 0, 0), (.getfield 12, 0, 2, 0, 424, 0, 0), (.getfield 127, 0, 8, 1, 389, 0, 0), (.iload_n 1, 0, 0, 0, 0, 0, 0), (.iaload, 0, 1, 0, 0, 0, 0), (.iload 4, 0, 0, 0, 0, 0, 0)] (pc' := 22) (ls' := [(0, .inr (.inr y0)), (1, .inl y1), (2, .inr (.inl y2)), (4, .inl y4)]) (st' := [.inl y4, .inl (jI m (jP m (jP m y0 0) 1) y1.toNatClampNeg)]) (m2 := m) (by decide +kernel) rfl ⟨w2, w3, ⟨w4, jib_ok w5⟩, trivial⟩ ?_
    obtain ⟨t7, w6, H⟩ := jb_ok H
    refine jS.step (c' := (25, [(0, .inr (.inr y0)), (1, .inl y1), (2, .inr (.inl y2)), (4, .inl y4)], [.inl t7], m)) (jSt.callSN (As := [.inl (jI m (jP m (jP m y0 0) 1) y1.toNatClampNeg), .inl y4]) (rest := []) O (ec_X9_isIn (d := 2) O (Nat.le_refl _) w6) (by omega) jmw_X9_isIn jmv_X9_isIn jmn_X9_isIn (host := "JoinDraws") (idx := 83) jln_JoinDraws_Join_83 (Nat.le_of_ble_eq_true rfl) (by decide +kernel)) ?_
    refine jS.br (i := .ifCond .eq 35) (P := t7 = 0) (rest := []) rfl (by decide +kernel) (tgt := 60) (by decide) (fun c8 => ?_) (fun c8 => ?_)
    · replace H := jif_t c8 H
      refine jS.adv O [(.iinc 4 1, 0, 0, 0, 0, (1 : Int32), 0), (.goto (-58), 0, 5, 0, 0, 0, 0)] (pc' := 5) (ls' := [(4, .inl (y4 + (1 : Int32))), (0, .inr (.inr y0)), (1, .inl y1), (2, .inr (.inl y2))]) (st' := []) (m2 := m) (by decide +kernel) rfl trivial ?_
      refine jS.loc' [1, 2, 3, 0] (ls' := [(0, .inr (.inr y0)), (1, .inl y1), (2, .inr (.inl y2)), (4, .inl (y4 + (1 : Int32)))]) rfl ?_
      exact hB _ _ _ _ _ H h2
    · replace H := jif_f c8 H
      obtain ⟨w9, H⟩ := jgd_ok H
      obtain ⟨w10, H⟩ := jgd_ok H
      obtain ⟨w11, H⟩ := jgd_ok H
      obtain ⟨w12, H⟩ := jgd_ok H
      obtain ⟨w13, H⟩ := jgd_ok H
      obtain ⟨w14, H⟩ := jgd_ok H
      obtain ⟨v15, ev15, H⟩ := jlet_ok H
      refine jS.adv O [(.lload_n 2, 0, 0, 0, 0, 0, 0), (.aload_n 0, 0, 0, 0, 0, 0, 0), (.getfield 25, 0, 2, 3, 430, 0, 0), (.iload_n 1, 0, 0, 0, 0, 0, 0), (.bipush 8, 0, 0, 0, 0, (8 : Int32), 0), (.imul, 0, 0, 0, 0, 0, 0), (.aload_n 0, 0, 0, 0, 0, 0, 0), (.getfield 54, 0, 2, 10, 441, 0, 0), (.iload_n 1, 0, 0, 0, 0, 0, 0), (.iaload, 0, 1, 0, 0, 0, 0), (.iadd, 0, 0, 0, 0, 0, 0), (.iconst 4, 0, 0, 0, 0, (4 : Int32), 0), (.imul, 0, 0, 0, 0, 0, 0), (.iload 4, 0, 0, 0, 0, 0, 0), (.iadd, 0, 0, 0, 0, 0, 0), (.laload, 0, 0, 0, 0, 0, 0), (.lmul, 0, 0, 0, 0, 0, 0), (.aload_n 0, 0, 0, 0, 0, 0, 0), (.getfield 57, 0, 2, 11, 442, 0, 0), (.iload 4, 0, 0, 0, 0, 0, 0), (.laload, 0, 0, 0, 0, 0, 0), (.ladd, 0, 0, 0, 0, 0, 0), (.lstore_n 2, 0, 0, 0, 0, 0, 0)] (pc' := 60) (ls' := [(2, .inr (.inl ((y2 * (jL m (jP m y0 3) ((((y1 * (8 : Int32)) + (jI m (jP m y0 10) y1.toNatClampNeg)) * (4 : Int32)) + y4).toNatClampNeg)) + (jL m (jP m y0 11) y4.toNatClampNeg)))), (0, .inr (.inr y0)), (1, .inl y1), (4, .inl y4)]) (st' := []) (m2 := m) (by decide +kernel) rfl ⟨w2, w2, ⟨w9, jib_ok w10⟩, ⟨w11, jib_ok w12⟩, w2, ⟨w13, jib_ok w14⟩, trivial⟩ ?_
      refine jS.cast (c' := (60, [(2, .inr (.inl v15)), (0, .inr (.inr y0)), (1, .inl y1), (4, .inl y4)], [], m)) (by rw [ev15]) ?_
      refine jS.adv O [(.iinc 4 1, 0, 0, 0, 0, (1 : Int32), 0), (.goto (-58), 0, 5, 0, 0, 0, 0)] (pc' := 5) (ls' := [(4, .inl (y4 + (1 : Int32))), (2, .inr (.inl v15)), (0, .inr (.inr y0)), (1, .inl y1)]) (st' := []) (m2 := m) (by decide +kernel) rfl trivial ?_
      refine jS.loc' [2, 3, 1, 0] (ls' := [(0, .inr (.inr y0)), (1, .inl y1), (2, .inr (.inl v15)), (4, .inl (y4 + (1 : Int32)))]) rfl ?_
      exact hB _ _ _ _ _ H h2
def c_X2_leastUnder_l5 (F : Nat) (m : jMe) : Nat → Nat → Int32 → Int64 → Int32 → Option (Int64)
  | 0, _, _, _, _ => none
  | n + 1, y0, y1, y2, y4 => c_X2_leastUnder_l5_b F (fun y0 y1 y2 y4 => c_X2_leastUnder_l5 F m n y0 y1 y2 y4) m y0 y1 y2 y4
theorem ec_X2_leastUnder_l5 {X : jX} {l : Launch} {d : Nat} (O : jOk X) (hd : 3 ≤ d) {F : Nat} {m0 m' : jMe} {v : Option jAV} {m : jMe} : ∀ (n : Nat) {y0 : Nat} {y1 : Int32} {y2 : Int64} {y4 : Int32} {r : Int64} (H : c_X2_leastUnder_l5 F m n y0 y1 y2 y4 = some r) (h2 : jS X l d jm_X2_leastUnder m0 v m' (66, [(2, .inr (.inl r))], [], m)), jS X l d jm_X2_leastUnder m0 v m' (5, [(0, .inr (.inr y0)), (1, .inl y1), (2, .inr (.inl y2)), (4, .inl y4)], [], m) := by
  intro n
  induction n with
  | zero =>
    intro y0 y1 y2 y4 r H h2
    cases (show none = some r from H)
  | succ n ih =>
    intro y0 y1 y2 y4 r H h2
    exact ec_X2_leastUnder_l5_b O hd (B := (fun y0 y1 y2 y4 => c_X2_leastUnder_l5 F m n y0 y1 y2 y4)) (fun y0 y1 y2 y4 r H h2 => ih H h2) H h2
def c_X2_leastUnder (F : Nat) (m : jMe) (x0 : Nat) (x1 : Int32) : Option (Int64) :=
  jb (c_X2_leastUnder_l5 F m F x0 x1 (0 : Int64) (0 : Int32)) fun e17 => some e17
theorem ec_X2_leastUnder {X : jX} {l : Launch} {d : Nat} (O : jOk X) (hd : 3 ≤ d) {F : Nat} {m : jMe} {x0 : Nat} {x1 : Int32} {r : Int64} (H : c_X2_leastUnder F m x0 x1 = some r) : jH X l d jm_X2_leastUnder [.inr (.inr x0), .inl x1] m (some (.inr (.inl r))) m := by
  refine jH.of jpl_RX2 rfl (Nat.le_of_ble_eq_true rfl) ?_
  show jS X l d jm_X2_leastUnder m _ _ (0, [(0, .inr (.inr x0)), (1, .inl x1)], [], m)
  unfold c_X2_leastUnder at H
  refine jS.adv O [(.lconst 0, 0, 0, 0, 0, 0, (0 : Int64)), (.lstore_n 2, 0, 0, 0, 0, 0, 0), (.iconst 0, 0, 0, 0, 0, (0 : Int32), 0), (.istore 4, 0, 0, 0, 0, 0, 0)] (pc' := 5) (ls' := [(4, .inl (0 : Int32)), (2, .inr (.inl (0 : Int64))), (0, .inr (.inr x0)), (1, .inl x1)]) (st' := []) (m2 := m) (by decide +kernel) rfl trivial ?_
  refine jS.loc' [2, 3, 1, 0] (ls' := [(0, .inr (.inr x0)), (1, .inl x1), (2, .inr (.inl (0 : Int64))), (4, .inl (0 : Int32))]) rfl ?_
  obtain ⟨e17, w18, H⟩ := jb_ok H
  refine ec_X2_leastUnder_l5 O hd F w18 ?_
  refine jS.adv O [(.lload_n 2, 0, 0, 0, 0, 0, 0)] (pc' := 67) (ls' := [(2, .inr (.inl e17))]) (st' := [.inr (.inl e17)]) (m2 := m) (by decide +kernel) rfl trivial ?_
  replace H := Option.some.inj H
  subst H
  exact jS.lret rfl (by decide +kernel)
def c_X2_placeOf_l14_b (F : Nat) (B : jMe → Nat → Int32 → Option (jMe × Nat)) (m : jMe) (y0 : Nat) (y2 : Int32) : Option (jMe × Nat) :=
  jgd (jK m y0 = 34) <| jgd (jK m (jP m y0 0) = 40) <| (if (jI m (jP m y0 0) 4) ≤ y2 then some (m, y0) else jgd (jK m (jP m (jP m y0 0) 2) = 1) <| jgd (jin y2 (jZ m (jP m (jP m y0 0) 2)) = true) <| jb (c_X2_weightsAhead F m y0 (jI m (jP m (jP m y0 0) 2) y2.toNatClampNeg)) fun t11 => jb (c_X2_leastUnder F m y0 (jI m (jP m (jP m y0 0) 2) y2.toNatClampNeg)) fun t13 => jgd (jK m (jP m y0 11) = 2) <| jgd (jin (jI m (jP m (jP m y0 0) 2) y2.toNatClampNeg) (jZ m (jP m y0 11)) = true) <| B (jsL m (jP m y0 11) (jI m (jP m (jP m y0 0) 2) y2.toNatClampNeg).toNatClampNeg (t11 + t13)) y0 (y2 + (1 : Int32)))
theorem ec_X2_placeOf_l14_b {X : jX} {l : Launch} {d : Nat} (O : jOk X) (hd : 4 ≤ d) {F : Nat} {m0 m' : jMe} {v : Option jAV} {B : jMe → Nat → Int32 → Option (jMe × Nat)} (hB : ∀ (m : jMe) (y0 : Nat) (y2 : Int32) (r : jMe × Nat), B m y0 y2 = some r → (jS X l d jm_X2_placeOf m0 v m' (58, [(0, .inr (.inr r.2))], [], r.1)) → jS X l d jm_X2_placeOf m0 v m' (14, [(0, .inr (.inr y0)), (2, .inl y2)], [], m)) {m : jMe} {y0 : Nat} {y2 : Int32} {r : jMe × Nat} (H : c_X2_placeOf_l14_b F B m y0 y2 = some r) (h2 : jS X l d jm_X2_placeOf m0 v m' (58, [(0, .inr (.inr r.2))], [], r.1)) : jS X l d jm_X2_placeOf m0 v m' (14, [(0, .inr (.inr y0)), (2, .inl y2)], [], m) := by
  unfold c_X2_placeOf_l14_b at H
  obtain ⟨w5, H⟩ := jgd_ok H
  obtain ⟨w6, H⟩ := jgd_ok H
  refine jS.adv O [(.iload_n 2, 0, 0, 0, 0, 0, 0), (.aload_n 0, 0, 0, 0, 0, 0, 0), (.getfield 12, 0, 2, 0, 424, 0, 0), (.getfield 98, 0, 8, 4, 395, 0, 0)] (pc' := 22) (ls' := [(0, .inr (.inr y0)), (2, .inl y2)]) (st' := [.inl (jI m (jP m y0 0) 4), .inl y2]) (m2 := m) (by decide +kernel) rfl ⟨w5, w6, trivial⟩ ?_
  refine jS.br (i := .if_icmp .ge 36) (P := (jI m (jP m y0 0) 4) ≤ y2) (rest := []) rfl (by decide +kernel) (tgt := 58) (by decide) (fun c7 => ?_) (fun c7 => ?_)
  · replace H := jif_t c7 H
    replace H := Option.some.inj H
    subst H
    refine jS.loc' [0] (ls' := [(0, .inr (.inr y0))]) rfl ?_
    exact h2
  · replace H := jif_f c7 H
    obtain ⟨w8, H⟩ := jgd_ok H
    obtain ⟨w9, H⟩ := jgd_ok H
    refine jS.adv O [(.aload_n 0, 0, 0, 0, 0, 0, 0), (.getfield 12, 0, 2, 0, 424, 0, 0), (.getfield 101, 0, 8, 2, 392, 0, 0), (.iload_n 2, 0, 0, 0, 0, 0, 0), (.iaload, 0, 1, 0, 0, 0, 0), (.istore_n 3, 0, 0, 0, 0, 0, 0), (.aload_n 0, 0, 0, 0, 0, 0, 0), (.getfield 57, 0, 2, 11, 442, 0, 0), (.iload_n 3, 0, 0, 0, 0, 0, 0), (.aload_n 0, 0, 0, 0, 0, 0, 0), (.iload_n 3, 0, 0, 0, 0, 0, 0)] (pc' := 42) (ls' := [(3, .inl (jI m (jP m (jP m y0 0) 2) y2.toNatClampNeg)), (0, .inr (.inr y0)), (2, .inl y2)]) (st' := [.inl (jI m (jP m (jP m y0 0) 2) y2.toNatClampNeg), .inr (.inr y0), .inl (jI m (jP m (jP m y0 0) 2) y2.toNatClampNeg), .inr (.inr (jP m y0 11))]) (m2 := m) (by decide +kernel) rfl ⟨w5, w6, ⟨w8, jib_ok w9⟩, w5, trivial⟩ ?_
    obtain ⟨t11, w10, H⟩ := jb_ok H
    refine jS.step (c' := (45, [(3, .inl (jI m (jP m (jP m y0 0) 2) y2.toNatClampNeg)), (0, .inr (.inr y0)), (2, .inl y2)], [.inr (.inl t11), .inl (jI m (jP m (jP m y0 0) 2) y2.toNatClampNeg), .inr (.inr (jP m y0 11))], m)) (jSt.callV (c := 2) (As := [.inl (jI m (jP m (jP m y0 0) 2) y2.toNatClampNeg)]) (rest := [.inl (jI m (jP m (jP m y0 0) 2) y2.toNatClampNeg), .inr (.inr (jP m y0 11))]) O (ec_X2_weightsAhead (d := 3) O (Nat.le_refl _) w10) w5 (by decide) rfl (by omega) jmw_X2_weightsAhead jmv_X2_weightsAhead jmn_X2_weightsAhead (idx := 183) (jW_of 1149 (by decide +kernel) rfl) (Nat.le_of_ble_eq_true rfl) (by decide +kernel)) ?_
    refine jS.adv O [(.aload_n 0, 0, 0, 0, 0, 0, 0), (.iload_n 3, 0, 0, 0, 0, 0, 0)] (pc' := 47) (ls' := [(3, .inl (jI m (jP m (jP m y0 0) 2) y2.toNatClampNeg)), (0, .inr (.inr y0)), (2, .inl y2)]) (st' := [.inl (jI m (jP m (jP m y0 0) 2) y2.toNatClampNeg), .inr (.inr y0), .inr (.inl t11), .inl (jI m (jP m (jP m y0 0) 2) y2.toNatClampNeg), .inr (.inr (jP m y0 11))]) (m2 := m) (by decide +kernel) rfl trivial ?_
    obtain ⟨t13, w12, H⟩ := jb_ok H
    refine jS.step (c' := (50, [(3, .inl (jI m (jP m (jP m y0 0) 2) y2.toNatClampNeg)), (0, .inr (.inr y0)), (2, .inl y2)], [.inr (.inl t13), .inr (.inl t11), .inl (jI m (jP m (jP m y0 0) 2) y2.toNatClampNeg), .inr (.inr (jP m y0 11))], m)) (jSt.callV (c := 2) (As := [.inl (jI m (jP m (jP m y0 0) 2) y2.toNatClampNeg)]) (rest := [.inr (.inl t11), .inl (jI m (jP m (jP m y0 0) 2) y2.toNatClampNeg), .inr (.inr (jP m y0 11))]) O (ec_X2_leastUnder (d := 3) O (Nat.le_refl _) w12) w5 (by decide) rfl (by omega) jmw_X2_leastUnder jmv_X2_leastUnder jmn_X2_leastUnder (idx := 186) (jW_of 1153 (by decide +kernel) rfl) (Nat.le_of_ble_eq_true rfl) (by decide +kernel)) ?_
    obtain ⟨w14, H⟩ := jgd_ok H
    obtain ⟨w15, H⟩ := jgd_ok H
    refine jS.adv O [(.ladd, 0, 0, 0, 0, 0, 0), (.lastore, 0, 0, 0, 0, 0, 0), (.iinc 2 1, 0, 0, 0, 0, (1 : Int32), 0), (.goto (-41), 0, 14, 0, 0, 0, 0)] (pc' := 14) (ls' := [(2, .inl (y2 + (1 : Int32))), (3, .inl (jI m (jP m (jP m y0 0) 2) y2.toNatClampNeg)), (0, .inr (.inr y0))]) (st' := []) (m2 := (jsL m (jP m y0 11) (jI m (jP m (jP m y0 0) 2) y2.toNatClampNeg).toNatClampNeg (t11 + t13))) (by decide +kernel) rfl ⟨⟨w14, jib_ok w15⟩, trivial⟩ ?_
    refine jS.loc' [2, 0] (ls' := [(0, .inr (.inr y0)), (2, .inl (y2 + (1 : Int32)))]) rfl ?_
    exact hB _ _ _ _ H h2
def c_X2_placeOf_l14 (F : Nat) : Nat → jMe → Nat → Int32 → Option (jMe × Nat)
  | 0, _, _, _ => none
  | n + 1, m, y0, y2 => c_X2_placeOf_l14_b F (fun m y0 y2 => c_X2_placeOf_l14 F n m y0 y2) m y0 y2
theorem ec_X2_placeOf_l14 {X : jX} {l : Launch} {d : Nat} (O : jOk X) (hd : 4 ≤ d) {F : Nat} {m0 m' : jMe} {v : Option jAV} : ∀ (n : Nat) {m : jMe} {y0 : Nat} {y2 : Int32} {r : jMe × Nat} (H : c_X2_placeOf_l14 F n m y0 y2 = some r) (h2 : jS X l d jm_X2_placeOf m0 v m' (58, [(0, .inr (.inr r.2))], [], r.1)), jS X l d jm_X2_placeOf m0 v m' (14, [(0, .inr (.inr y0)), (2, .inl y2)], [], m) := by
  intro n
  induction n with
  | zero =>
    intro m y0 y2 r H h2
    cases (show none = some r from H)
  | succ n ih =>
    intro m y0 y2 r H h2
    exact ec_X2_placeOf_l14_b O hd (B := (fun m y0 y2 => c_X2_placeOf_l14 F n m y0 y2)) (fun m y0 y2 r H h2 => ih H h2) H h2
def c_X2_placeOf_l99_b (F : Nat) (B : jMe → Nat → Int64 → Int32 → Option (jMe × Nat × Int64)) (m : jMe) (y0 : Nat) (y2 : Int64) (y4 : Int32) : Option (jMe × Nat × Int64) :=
  (if (4 : Int32) ≤ y4 then some (m, y0, y2) else jgd (jK m y0 = 34) <| jgd (jK m (jP m y0 0) = 40) <| jb (c_X9_isIn F m (jI m (jP m y0 0) 6) y4) fun t29 => (if t29 = 0 then B m y0 y2 (y4 + (1 : Int32)) else jgd (jK m (jP m y0 10) = 1) <| jgd (jin y4 (jZ m (jP m y0 10)) = true) <| jb (c_X2_seat F m y0 y4 (jI m (jP m y0 10) y4.toNatClampNeg)) fun t34 => B t34 y0 y2 (y4 + (1 : Int32))))
theorem ec_X2_placeOf_l99_b {X : jX} {l : Launch} {d : Nat} (O : jOk X) (hd : 4 ≤ d) {F : Nat} {m0 m' : jMe} {v : Option jAV} {B : jMe → Nat → Int64 → Int32 → Option (jMe × Nat × Int64)} (hB : ∀ (m : jMe) (y0 : Nat) (y2 : Int64) (y4 : Int32) (r : jMe × Nat × Int64), B m y0 y2 y4 = some r → (jS X l d jm_X2_placeOf m0 v m' (139, [(0, .inr (.inr r.2.1)), (2, .inr (.inl r.2.2))], [], r.1)) → jS X l d jm_X2_placeOf m0 v m' (99, [(0, .inr (.inr y0)), (2, .inr (.inl y2)), (4, .inl y4)], [], m)) {m : jMe} {y0 : Nat} {y2 : Int64} {y4 : Int32} {r : jMe × Nat × Int64} (H : c_X2_placeOf_l99_b F B m y0 y2 y4 = some r) (h2 : jS X l d jm_X2_placeOf m0 v m' (139, [(0, .inr (.inr r.2.1)), (2, .inr (.inl r.2.2))], [], r.1)) : jS X l d jm_X2_placeOf m0 v m' (99, [(0, .inr (.inr y0)), (2, .inr (.inl y2)), (4, .inl y4)], [], m) := by
  unfold c_X2_placeOf_l99_b at H
  refine jS.adv O [(.iload 4, 0, 0, 0, 0, 0, 0), (.iconst 4, 0, 0, 0, 0, (4 : Int32), 0)] (pc' := 102) (ls' := [(0, .inr (.inr y0)), (2, .inr (.inl y2)), (4, .inl y4)]) (st' := [.inl (4 : Int32), .inl y4]) (m2 := m) (by decide +kernel) rfl trivial ?_
  refine jS.br (i := .if_icmp .ge 37) (P := (4 : Int32) ≤ y4) (rest := []) rfl (by decide +kernel) (tgt := 139) (by decide) (fun c25 => ?_) (fun c25 => ?_)
  · replace H := jif_t c25 H
    replace H := Option.some.inj H
    subst H
    refine jS.loc' [0, 1] (ls' := [(0, .inr (.inr y0)), (2, .inr (.inl y2))]) rfl ?_
    exact h2
  · replace H := jif_f c25 H
    obtain ⟨w26, H⟩ := jgd_ok H
    obtain ⟨w27, H⟩ := jgd_ok H
    refine jS.adv O [(.aload_n 0, 0, 0, 0, 0, 0, 0), (.getfield 12, 0, 2, 0, 424, 0, 0), (.getfield 145, 0, 8, 6, 400, 0, 0), (.iload 4, 0, 0, 0, 0, 0, 0)] (pc' := 114) (ls' := [(0, .inr (.inr y0)), (2, .inr (.inl y2)), (4, .inl y4)]) (st' := [.inl y4, .inl (jI m (jP m y0 0) 6)]) (m2 := m) (by decide +kernel) rfl ⟨w26, w27, trivial⟩ ?_
    obtain ⟨t29, w28, H⟩ := jb_ok H
    refine jS.step (c' := (117, [(0, .inr (.inr y0)), (2, .inr (.inl y2)), (4, .inl y4)], [.inl t29], m)) (jSt.callSN (As := [.inl (jI m (jP m y0 0) 6), .inl y4]) (rest := []) O (ec_X9_isIn (d := 2) O (Nat.le_refl _) w28) (by omega) jmw_X9_isIn jmv_X9_isIn jmn_X9_isIn (host := "JoinDraws") (idx := 83) jln_JoinDraws_Join_83 (Nat.le_of_ble_eq_true rfl) (by decide +kernel)) ?_
    refine jS.br (i := .ifCond .eq 16) (P := t29 = 0) (rest := []) rfl (by decide +kernel) (tgt := 133) (by decide) (fun c30 => ?_) (fun c30 => ?_)
    · replace H := jif_t c30 H
      refine jS.adv O [(.iinc 4 1, 0, 0, 0, 0, (1 : Int32), 0), (.goto (-37), 0, 99, 0, 0, 0, 0)] (pc' := 99) (ls' := [(4, .inl (y4 + (1 : Int32))), (0, .inr (.inr y0)), (2, .inr (.inl y2))]) (st' := []) (m2 := m) (by decide +kernel) rfl trivial ?_
      refine jS.loc' [1, 2, 0] (ls' := [(0, .inr (.inr y0)), (2, .inr (.inl y2)), (4, .inl (y4 + (1 : Int32)))]) rfl ?_
      exact hB _ _ _ _ _ H h2
    · replace H := jif_f c30 H
      obtain ⟨w31, H⟩ := jgd_ok H
      obtain ⟨w32, H⟩ := jgd_ok H
      refine jS.adv O [(.aload_n 0, 0, 0, 0, 0, 0, 0), (.iload 4, 0, 0, 0, 0, 0, 0), (.aload_n 0, 0, 0, 0, 0, 0, 0), (.getfield 54, 0, 2, 10, 441, 0, 0), (.iload 4, 0, 0, 0, 0, 0, 0), (.iaload, 0, 1, 0, 0, 0, 0)] (pc' := 130) (ls' := [(0, .inr (.inr y0)), (2, .inr (.inl y2)), (4, .inl y4)]) (st' := [.inl (jI m (jP m y0 10) y4.toNatClampNeg), .inl y4, .inr (.inr y0)]) (m2 := m) (by decide +kernel) rfl ⟨w26, ⟨w31, jib_ok w32⟩, trivial⟩ ?_
      obtain ⟨t34, w33, H⟩ := jb_ok H
      refine jS.step (c' := (133, [(0, .inr (.inr y0)), (2, .inr (.inl y2)), (4, .inl y4)], [], t34)) (jSt.callV (c := 2) (As := [.inl y4, .inl (jI m (jP m y0 10) y4.toNatClampNeg)]) (rest := []) O (ec_X2_seat (d := 2) O (Nat.le_refl _) w33) w26 (by decide) rfl (by omega) jmw_X2_seat jmv_X2_seat jmn_X2_seat (idx := 174) (jW_of 1116 (by decide +kernel) rfl) (Nat.le_of_ble_eq_true rfl) (by decide +kernel)) ?_
      refine jS.adv O [(.iinc 4 1, 0, 0, 0, 0, (1 : Int32), 0), (.goto (-37), 0, 99, 0, 0, 0, 0)] (pc' := 99) (ls' := [(4, .inl (y4 + (1 : Int32))), (0, .inr (.inr y0)), (2, .inr (.inl y2))]) (st' := []) (m2 := t34) (by decide +kernel) rfl trivial ?_
      refine jS.loc' [1, 2, 0] (ls' := [(0, .inr (.inr y0)), (2, .inr (.inl y2)), (4, .inl (y4 + (1 : Int32)))]) rfl ?_
      exact hB _ _ _ _ _ H h2
def c_X2_placeOf_l99 (F : Nat) : Nat → jMe → Nat → Int64 → Int32 → Option (jMe × Nat × Int64)
  | 0, _, _, _, _ => none
  | n + 1, m, y0, y2, y4 => c_X2_placeOf_l99_b F (fun m y0 y2 y4 => c_X2_placeOf_l99 F n m y0 y2 y4) m y0 y2 y4
theorem ec_X2_placeOf_l99 {X : jX} {l : Launch} {d : Nat} (O : jOk X) (hd : 4 ≤ d) {F : Nat} {m0 m' : jMe} {v : Option jAV} : ∀ (n : Nat) {m : jMe} {y0 : Nat} {y2 : Int64} {y4 : Int32} {r : jMe × Nat × Int64} (H : c_X2_placeOf_l99 F n m y0 y2 y4 = some r) (h2 : jS X l d jm_X2_placeOf m0 v m' (139, [(0, .inr (.inr r.2.1)), (2, .inr (.inl r.2.2))], [], r.1)), jS X l d jm_X2_placeOf m0 v m' (99, [(0, .inr (.inr y0)), (2, .inr (.inl y2)), (4, .inl y4)], [], m) := by
  intro n
  induction n with
  | zero =>
    intro m y0 y2 y4 r H h2
    cases (show none = some r from H)
  | succ n ih =>
    intro m y0 y2 y4 r H h2
    exact ec_X2_placeOf_l99_b O hd (B := (fun m y0 y2 y4 => c_X2_placeOf_l99 F n m y0 y2 y4)) (fun m y0 y2 y4 r H h2 => ih H h2) H h2
def c_X2_placeOf_l142_b (F : Nat) (B : jMe → Nat → Int64 → Int32 → Option (jMe × Int64)) (m : jMe) (y0 : Nat) (y2 : Int64) (y4 : Int32) : Option (jMe × Int64) :=
  (if (4 : Int32) ≤ y4 then some (m, y2) else jgd (jK m y0 = 34) <| jgd (jK m (jP m y0 0) = 40) <| jb (c_X9_isIn F m (jI m (jP m y0 0) 7) y4) fun t42 => (if t42 = 0 then B m y0 y2 (y4 + (1 : Int32)) else jgd (jK m (jP m y0 2) = 2) <| jgd (jin y4 (jZ m (jP m y0 2)) = true) <| jgd (jK m (jP m y0 10) = 1) <| jgd (jin y4 (jZ m (jP m y0 10)) = true) <| jb (c_X2_worthsAhead F m y0 y4 (jI m (jP m y0 10) y4.toNatClampNeg) (jI m y0 16) (jI m y0 17)) fun t49 => jgd (jin y4 (jZ m (jP m y0 10)) = true) <| jb (c_X2_seat F m y0 y4 (jI m (jP m y0 10) y4.toNatClampNeg)) fun t52 => B t52 y0 ((y2 * (jL m (jP m y0 2) y4.toNatClampNeg)) + t49) (y4 + (1 : Int32))))
theorem ec_X2_placeOf_l142_b {X : jX} {l : Launch} {d : Nat} (O : jOk X) (hd : 4 ≤ d) {F : Nat} {m0 m' : jMe} {v : Option jAV} {B : jMe → Nat → Int64 → Int32 → Option (jMe × Int64)} (hB : ∀ (m : jMe) (y0 : Nat) (y2 : Int64) (y4 : Int32) (r : jMe × Int64), B m y0 y2 y4 = some r → (jS X l d jm_X2_placeOf m0 v m' (214, [(2, .inr (.inl r.2))], [], r.1)) → jS X l d jm_X2_placeOf m0 v m' (142, [(0, .inr (.inr y0)), (2, .inr (.inl y2)), (4, .inl y4)], [], m)) {m : jMe} {y0 : Nat} {y2 : Int64} {y4 : Int32} {r : jMe × Int64} (H : c_X2_placeOf_l142_b F B m y0 y2 y4 = some r) (h2 : jS X l d jm_X2_placeOf m0 v m' (214, [(2, .inr (.inl r.2))], [], r.1)) : jS X l d jm_X2_placeOf m0 v m' (142, [(0, .inr (.inr y0)), (2, .inr (.inl y2)), (4, .inl y4)], [], m) := by
  unfold c_X2_placeOf_l142_b at H
  refine jS.adv O [(.iload 4, 0, 0, 0, 0, 0, 0), (.iconst 4, 0, 0, 0, 0, (4 : Int32), 0)] (pc' := 145) (ls' := [(0, .inr (.inr y0)), (2, .inr (.inl y2)), (4, .inl y4)]) (st' := [.inl (4 : Int32), .inl y4]) (m2 := m) (by decide +kernel) rfl trivial ?_
  refine jS.br (i := .if_icmp .ge 69) (P := (4 : Int32) ≤ y4) (rest := []) rfl (by decide +kernel) (tgt := 214) (by decide) (fun c38 => ?_) (fun c38 => ?_)
  · replace H := jif_t c38 H
    replace H := Option.some.inj H
    subst H
    refine jS.loc' [1] (ls' := [(2, .inr (.inl y2))]) rfl ?_
    exact h2
  · replace H := jif_f c38 H
    obtain ⟨w39, H⟩ := jgd_ok H
    obtain ⟨w40, H⟩ := jgd_ok H
    refine jS.adv O [(.aload_n 0, 0, 0, 0, 0, 0, 0), (.getfield 12, 0, 2, 0, 424, 0, 0), (.getfield 148, 0, 8, 7, 403, 0, 0), (.iload 4, 0, 0, 0, 0, 0, 0)] (pc' := 157) (ls' := [(0, .inr (.inr y0)), (2, .inr (.inl y2)), (4, .inl y4)]) (st' := [.inl y4, .inl (jI m (jP m y0 0) 7)]) (m2 := m) (by decide +kernel) rfl ⟨w39, w40, trivial⟩ ?_
    obtain ⟨t42, w41, H⟩ := jb_ok H
    refine jS.step (c' := (160, [(0, .inr (.inr y0)), (2, .inr (.inl y2)), (4, .inl y4)], [.inl t42], m)) (jSt.callSN (As := [.inl (jI m (jP m y0 0) 7), .inl y4]) (rest := []) O (ec_X9_isIn (d := 2) O (Nat.le_refl _) w41) (by omega) jmw_X9_isIn jmv_X9_isIn jmn_X9_isIn (host := "JoinDraws") (idx := 83) jln_JoinDraws_Join_83 (Nat.le_of_ble_eq_true rfl) (by decide +kernel)) ?_
    refine jS.br (i := .ifCond .eq 48) (P := t42 = 0) (rest := []) rfl (by decide +kernel) (tgt := 208) (by decide) (fun c43 => ?_) (fun c43 => ?_)
    · replace H := jif_t c43 H
      refine jS.adv O [(.iinc 4 1, 0, 0, 0, 0, (1 : Int32), 0), (.goto (-69), 0, 142, 0, 0, 0, 0)] (pc' := 142) (ls' := [(4, .inl (y4 + (1 : Int32))), (0, .inr (.inr y0)), (2, .inr (.inl y2))]) (st' := []) (m2 := m) (by decide +kernel) rfl trivial ?_
      refine jS.loc' [1, 2, 0] (ls' := [(0, .inr (.inr y0)), (2, .inr (.inl y2)), (4, .inl (y4 + (1 : Int32)))]) rfl ?_
      exact hB _ _ _ _ _ H h2
    · replace H := jif_f c43 H
      obtain ⟨w44, H⟩ := jgd_ok H
      obtain ⟨w45, H⟩ := jgd_ok H
      obtain ⟨w46, H⟩ := jgd_ok H
      obtain ⟨w47, H⟩ := jgd_ok H
      refine jS.adv O [(.lload_n 2, 0, 0, 0, 0, 0, 0), (.aload_n 0, 0, 0, 0, 0, 0, 0), (.getfield 22, 0, 2, 2, 428, 0, 0), (.iload 4, 0, 0, 0, 0, 0, 0), (.laload, 0, 0, 0, 0, 0, 0), (.lmul, 0, 0, 0, 0, 0, 0), (.aload_n 0, 0, 0, 0, 0, 0, 0), (.iload 4, 0, 0, 0, 0, 0, 0), (.aload_n 0, 0, 0, 0, 0, 0, 0), (.getfield 54, 0, 2, 10, 441, 0, 0), (.iload 4, 0, 0, 0, 0, 0, 0), (.iaload, 0, 1, 0, 0, 0, 0), (.aload_n 0, 0, 0, 0, 0, 0, 0), (.getfield 73, 0, 2, 16, 447, 0, 0), (.aload_n 0, 0, 0, 0, 0, 0, 0), (.getfield 76, 0, 2, 17, 448, 0, 0)] (pc' := 190) (ls' := [(0, .inr (.inr y0)), (2, .inr (.inl y2)), (4, .inl y4)]) (st' := [.inl (jI m y0 17), .inl (jI m y0 16), .inl (jI m (jP m y0 10) y4.toNatClampNeg), .inl y4, .inr (.inr y0), .inr (.inl (y2 * (jL m (jP m y0 2) y4.toNatClampNeg)))]) (m2 := m) (by decide +kernel) rfl ⟨w39, ⟨w44, jib_ok w45⟩, w39, ⟨w46, jib_ok w47⟩, w39, w39, trivial⟩ ?_
      obtain ⟨t49, w48, H⟩ := jb_ok H
      refine jS.step (c' := (193, [(0, .inr (.inr y0)), (2, .inr (.inl y2)), (4, .inl y4)], [.inr (.inl t49), .inr (.inl (y2 * (jL m (jP m y0 2) y4.toNatClampNeg)))], m)) (jSt.callV (c := 2) (As := [.inl y4, .inl (jI m (jP m y0 10) y4.toNatClampNeg), .inl (jI m y0 16), .inl (jI m y0 17)]) (rest := [.inr (.inl (y2 * (jL m (jP m y0 2) y4.toNatClampNeg)))]) O (ec_X2_worthsAhead (d := 3) O (Nat.le_refl _) w48) w39 (by decide) rfl (by omega) jmw_X2_worthsAhead jmv_X2_worthsAhead jmn_X2_worthsAhead (idx := 155) (jW_of 830 (by decide +kernel) rfl) (Nat.le_of_ble_eq_true rfl) (by decide +kernel)) ?_
      obtain ⟨w50, H⟩ := jgd_ok H
      refine jS.adv O [(.ladd, 0, 0, 0, 0, 0, 0), (.lstore_n 2, 0, 0, 0, 0, 0, 0), (.aload_n 0, 0, 0, 0, 0, 0, 0), (.iload 4, 0, 0, 0, 0, 0, 0), (.aload_n 0, 0, 0, 0, 0, 0, 0), (.getfield 54, 0, 2, 10, 441, 0, 0), (.iload 4, 0, 0, 0, 0, 0, 0), (.iaload, 0, 1, 0, 0, 0, 0)] (pc' := 205) (ls' := [(2, .inr (.inl ((y2 * (jL m (jP m y0 2) y4.toNatClampNeg)) + t49))), (0, .inr (.inr y0)), (4, .inl y4)]) (st' := [.inl (jI m (jP m y0 10) y4.toNatClampNeg), .inl y4, .inr (.inr y0)]) (m2 := m) (by decide +kernel) rfl ⟨w39, ⟨w46, jib_ok w50⟩, trivial⟩ ?_
      obtain ⟨t52, w51, H⟩ := jb_ok H
      refine jS.step (c' := (208, [(2, .inr (.inl ((y2 * (jL m (jP m y0 2) y4.toNatClampNeg)) + t49))), (0, .inr (.inr y0)), (4, .inl y4)], [], t52)) (jSt.callV (c := 2) (As := [.inl y4, .inl (jI m (jP m y0 10) y4.toNatClampNeg)]) (rest := []) O (ec_X2_seat (d := 2) O (Nat.le_refl _) w51) w39 (by decide) rfl (by omega) jmw_X2_seat jmv_X2_seat jmn_X2_seat (idx := 174) (jW_of 1116 (by decide +kernel) rfl) (Nat.le_of_ble_eq_true rfl) (by decide +kernel)) ?_
      refine jS.adv O [(.iinc 4 1, 0, 0, 0, 0, (1 : Int32), 0), (.goto (-69), 0, 142, 0, 0, 0, 0)] (pc' := 142) (ls' := [(4, .inl (y4 + (1 : Int32))), (2, .inr (.inl ((y2 * (jL m (jP m y0 2) y4.toNatClampNeg)) + t49))), (0, .inr (.inr y0))]) (st' := []) (m2 := t52) (by decide +kernel) rfl trivial ?_
      refine jS.loc' [2, 1, 0] (ls' := [(0, .inr (.inr y0)), (2, .inr (.inl ((y2 * (jL m (jP m y0 2) y4.toNatClampNeg)) + t49))), (4, .inl (y4 + (1 : Int32)))]) rfl ?_
      exact hB _ _ _ _ _ H h2
def c_X2_placeOf_l142 (F : Nat) : Nat → jMe → Nat → Int64 → Int32 → Option (jMe × Int64)
  | 0, _, _, _, _ => none
  | n + 1, m, y0, y2, y4 => c_X2_placeOf_l142_b F (fun m y0 y2 y4 => c_X2_placeOf_l142 F n m y0 y2 y4) m y0 y2 y4
theorem ec_X2_placeOf_l142 {X : jX} {l : Launch} {d : Nat} (O : jOk X) (hd : 4 ≤ d) {F : Nat} {m0 m' : jMe} {v : Option jAV} : ∀ (n : Nat) {m : jMe} {y0 : Nat} {y2 : Int64} {y4 : Int32} {r : jMe × Int64} (H : c_X2_placeOf_l142 F n m y0 y2 y4 = some r) (h2 : jS X l d jm_X2_placeOf m0 v m' (214, [(2, .inr (.inl r.2))], [], r.1)), jS X l d jm_X2_placeOf m0 v m' (142, [(0, .inr (.inr y0)), (2, .inr (.inl y2)), (4, .inl y4)], [], m) := by
  intro n
  induction n with
  | zero =>
    intro m y0 y2 y4 r H h2
    cases (show none = some r from H)
  | succ n ih =>
    intro m y0 y2 y4 r H h2
    exact ec_X2_placeOf_l142_b O hd (B := (fun m y0 y2 y4 => c_X2_placeOf_l142 F n m y0 y2 y4)) (fun m y0 y2 y4 r H h2 => ih H h2) H h2
def c_X2_placeOf_j85 (F : Nat) (m : jMe) (y0 : Nat) (s0 : Int64) : Option (Int64 × jMe) :=
  jgd (jK m y0 = 34) <| jb (c_X2_placeOf_l99 F F (jsI (jsI m y0 16 (0 : Int32)) y0 17 (0 : Int32)) y0 s0 (0 : Int32)) fun e36 => jb (c_X2_placeOf_l142 F F e36.1 e36.2.1 e36.2.2 (0 : Int32)) fun e54 => some (e54.2, e54.1)
theorem ec_X2_placeOf_j85 {X : jX} {l : Launch} {d : Nat} (O : jOk X) (hd : 4 ≤ d) {F : Nat} {m0 m : jMe} {y0 : Nat} {s0 : Int64} {r : Int64 × jMe} (H : c_X2_placeOf_j85 F m y0 s0 = some r) : jS X l d jm_X2_placeOf m0 (some (.inr (.inl r.1))) r.2 (85, [(0, .inr (.inr y0))], [.inr (.inl s0)], m) := by
  unfold c_X2_placeOf_j85 at H
  obtain ⟨w24, H⟩ := jgd_ok H
  refine jS.adv O [(.lstore_n 2, 0, 0, 0, 0, 0, 0), (.aload_n 0, 0, 0, 0, 0, 0, 0), (.iconst 0, 0, 0, 0, 0, (0 : Int32), 0), (.putfield 73, 0, 2, 16, 447, 0, 0), (.aload_n 0, 0, 0, 0, 0, 0, 0), (.iconst 0, 0, 0, 0, 0, (0 : Int32), 0), (.putfield 76, 0, 2, 17, 448, 0, 0), (.iconst 0, 0, 0, 0, 0, (0 : Int32), 0), (.istore 4, 0, 0, 0, 0, 0, 0)] (pc' := 99) (ls' := [(4, .inl (0 : Int32)), (2, .inr (.inl s0)), (0, .inr (.inr y0))]) (st' := []) (m2 := (jsI (jsI m y0 16 (0 : Int32)) y0 17 (0 : Int32))) (by decide +kernel) rfl ⟨w24, w24, trivial⟩ ?_
  refine jS.loc' [2, 1, 0] (ls' := [(0, .inr (.inr y0)), (2, .inr (.inl s0)), (4, .inl (0 : Int32))]) rfl ?_
  obtain ⟨e36, w37, H⟩ := jb_ok H
  refine ec_X2_placeOf_l99 O hd F w37 ?_
  refine jS.adv O [(.iconst 0, 0, 0, 0, 0, (0 : Int32), 0), (.istore 4, 0, 0, 0, 0, 0, 0)] (pc' := 142) (ls' := [(4, .inl (0 : Int32)), (0, .inr (.inr e36.2.1)), (2, .inr (.inl e36.2.2))]) (st' := []) (m2 := e36.1) (by decide +kernel) rfl trivial ?_
  refine jS.loc' [1, 2, 0] (ls' := [(0, .inr (.inr e36.2.1)), (2, .inr (.inl e36.2.2)), (4, .inl (0 : Int32))]) rfl ?_
  obtain ⟨e54, w55, H⟩ := jb_ok H
  refine ec_X2_placeOf_l142 O hd F w55 ?_
  refine jS.adv O [(.lload_n 2, 0, 0, 0, 0, 0, 0)] (pc' := 215) (ls' := [(2, .inr (.inl e54.2))]) (st' := [.inr (.inl e54.2)]) (m2 := e54.1) (by decide +kernel) rfl trivial ?_
  replace H := Option.some.inj H
  subst H
  exact jS.lret rfl (by decide +kernel)
def c_X2_placeOf (F : Nat) (m : jMe) (x0 : Nat) (x1 : Int32) : Option (Int64 × jMe) :=
  jgd (jK m x0 = 34) <| jb (c_X2_isAnswer F m x0 x1) fun t3 => (if t3.1 = 0 then some ((-4611686018427387904 : Int64), t3.2) else jb (c_X2_placeOf_l14 F F t3.2 x0 (0 : Int32)) fun e17 => jgd (jK e17.1 e17.2 = 34) <| jgd (jK e17.1 (jP e17.1 e17.2 0) = 40) <| (if (jI e17.1 (jP e17.1 e17.2 0) 5) = (-1 : Int32) then c_X2_placeOf_j85 F e17.1 e17.2 (0 : Int64) else jgd (jK e17.1 (jP e17.1 e17.2 11) = 2) <| jgd (jin (jI e17.1 (jP e17.1 e17.2 0) 5) (jZ e17.1 (jP e17.1 e17.2 11)) = true) <| c_X2_placeOf_j85 F e17.1 e17.2 (jL e17.1 (jP e17.1 e17.2 11) (jI e17.1 (jP e17.1 e17.2 0) 5).toNatClampNeg)))
theorem ec_X2_placeOf {X : jX} {l : Launch} {d : Nat} (O : jOk X) (hd : 4 ≤ d) {F : Nat} {m : jMe} {x0 : Nat} {x1 : Int32} {r : Int64 × jMe} (H : c_X2_placeOf F m x0 x1 = some r) : jH X l d jm_X2_placeOf [.inr (.inr x0), .inl x1] m (some (.inr (.inl r.1))) r.2 := by
  refine jH.of jpl_RX2 rfl (Nat.le_of_ble_eq_true rfl) ?_
  show jS X l d jm_X2_placeOf m _ _ (0, [(0, .inr (.inr x0)), (1, .inl x1)], [], m)
  unfold c_X2_placeOf at H
  obtain ⟨w1, H⟩ := jgd_ok H
  refine jS.adv O [(.aload_n 0, 0, 0, 0, 0, 0, 0), (.iload_n 1, 0, 0, 0, 0, 0, 0)] (pc' := 2) (ls' := [(0, .inr (.inr x0)), (1, .inl x1)]) (st' := [.inl x1, .inr (.inr x0)]) (m2 := m) (by decide +kernel) rfl trivial ?_
  obtain ⟨t3, w2, H⟩ := jb_ok H
  refine jS.step (c' := (5, [(0, .inr (.inr x0)), (1, .inl x1)], [.inl t3.1], t3.2)) (jSt.callV (c := 2) (As := [.inl x1]) (rest := []) O (ec_X2_isAnswer (d := 3) O (Nat.le_refl _) w2) w1 (by decide) rfl (by omega) jmw_X2_isAnswer jmv_X2_isAnswer jmn_X2_isAnswer (idx := 178) (jW_of 1144 (by decide +kernel) rfl) (Nat.le_of_ble_eq_true rfl) (by decide +kernel)) ?_
  refine jS.br (i := .ifCond .ne 7) (P := ¬ t3.1 = 0) (rest := []) rfl (by decide +kernel) (tgt := 12) (by decide) (fun c4 => ?_) (fun c4 => ?_)
  · replace H := jif_f c4 H
    refine jS.adv O [(.iconst 0, 0, 0, 0, 0, (0 : Int32), 0), (.istore_n 2, 0, 0, 0, 0, 0, 0)] (pc' := 14) (ls' := [(2, .inl (0 : Int32)), (0, .inr (.inr x0)), (1, .inl x1)]) (st' := []) (m2 := t3.2) (by decide +kernel) rfl trivial ?_
    refine jS.loc' [1, 0] (ls' := [(0, .inr (.inr x0)), (2, .inl (0 : Int32))]) rfl ?_
    obtain ⟨e17, w18, H⟩ := jb_ok H
    refine ec_X2_placeOf_l14 O hd F w18 ?_
    obtain ⟨w19, H⟩ := jgd_ok H
    obtain ⟨w20, H⟩ := jgd_ok H
    refine jS.adv O [(.aload_n 0, 0, 0, 0, 0, 0, 0), (.getfield 12, 0, 2, 0, 424, 0, 0), (.getfield 108, 0, 8, 5, 397, 0, 0), (.iconst (-1), 0, 0, 0, 0, (-1 : Int32), 0)] (pc' := 66) (ls' := [(0, .inr (.inr e17.2))]) (st' := [.inl (-1 : Int32), .inl (jI e17.1 (jP e17.1 e17.2 0) 5)]) (m2 := e17.1) (by decide +kernel) rfl ⟨w19, w20, trivial⟩ ?_
    refine jS.br (i := .if_icmp .ne 7) (P := ¬ (jI e17.1 (jP e17.1 e17.2 0) 5) = (-1 : Int32)) (rest := []) rfl (by decide +kernel) (tgt := 73) (by decide) (fun c21 => ?_) (fun c21 => ?_)
    · replace H := jif_f c21 H
      obtain ⟨w22, H⟩ := jgd_ok H
      obtain ⟨w23, H⟩ := jgd_ok H
      refine jS.adv O [(.aload_n 0, 0, 0, 0, 0, 0, 0), (.getfield 57, 0, 2, 11, 442, 0, 0), (.aload_n 0, 0, 0, 0, 0, 0, 0), (.getfield 12, 0, 2, 0, 424, 0, 0), (.getfield 108, 0, 8, 5, 397, 0, 0), (.laload, 0, 0, 0, 0, 0, 0)] (pc' := 85) (ls' := [(0, .inr (.inr e17.2))]) (st' := [.inr (.inl (jL e17.1 (jP e17.1 e17.2 11) (jI e17.1 (jP e17.1 e17.2 0) 5).toNatClampNeg))]) (m2 := e17.1) (by decide +kernel) rfl ⟨w19, w19, w20, ⟨w22, jib_ok w23⟩, trivial⟩ ?_
      refine jS.loc' [0] (ls' := [(0, .inr (.inr e17.2))]) rfl ?_
      exact ec_X2_placeOf_j85 O hd H
    · replace H := jif_t (Classical.not_not.mp c21) H
      refine jS.adv O [(.lconst 0, 0, 0, 0, 0, 0, (0 : Int64)), (.goto 15, 0, 85, 0, 0, 0, 0)] (pc' := 85) (ls' := [(0, .inr (.inr e17.2))]) (st' := [.inr (.inl (0 : Int64))]) (m2 := e17.1) (by decide +kernel) rfl trivial ?_
      refine jS.loc' [0] (ls' := [(0, .inr (.inr e17.2))]) rfl ?_
      exact ec_X2_placeOf_j85 O hd H
  · replace H := jif_t (Classical.not_not.mp c4) H
    refine jS.adv O [(.ldc2_w 181, 0, 1148, 0, 0, 0, (-4611686018427387904 : Int64))] (pc' := 11) (ls' := [(0, .inr (.inr x0)), (1, .inl x1)]) (st' := [.inr (.inl (-4611686018427387904 : Int64))]) (m2 := t3.2) (by decide +kernel) rfl trivial ?_
    replace H := Option.some.inj H
    subst H
    exact jS.lret rfl (by decide +kernel)
def c_X2_drawn_l15_b (F : Nat) (B : jMe → Nat → Int32 → Option ((Int32 × jMe) ⊕ jMe)) (m : jMe) (y0 : Nat) (y2 : Int32) : Option ((Int32 × jMe) ⊕ jMe) :=
  (if (20 : Int32) ≤ y2 then some (.inr (m)) else jgd (jK m y0 = 34) <| (if (lg_cmp (jL m y0 6) (0 : Int64)) ≤ 0 then some (.inr (m)) else jgd (jK m (jP (jsI m y0 7 ((jI m y0 7) + (1 : Int32))) y0 8) = 32) <| jb (c_X0_below F (jsI m y0 7 ((jI m y0 7) + (1 : Int32))) (jP (jsI m y0 7 ((jI m y0 7) + (1 : Int32))) y0 8) (jL (jsI m y0 7 ((jI m y0 7) + (1 : Int32))) y0 6)) fun t11 => jgd (jK t11.2 y0 = 34) <| jb (c_X2_lead F t11.2 y0 t11.1) fun t14 => (if t14.1 = 0 then B t14.2 y0 (y2 + (1 : Int32)) else jgd (jK t14.2 y0 = 34) <| jb (c_X2_digits F t14.2 y0) fun t18 => some (.inl (t18, t14.2)))))
theorem ec_X2_drawn_l15_b {X : jX} {l : Launch} {d : Nat} (O : jOk X) (hd : 5 ≤ d) {F : Nat} {m0 m' : jMe} {v : Option jAV} {B : jMe → Nat → Int32 → Option ((Int32 × jMe) ⊕ jMe)} (hB : ∀ (m : jMe) (y0 : Nat) (y2 : Int32) (r : (Int32 × jMe) ⊕ jMe), B m y0 y2 = some r → (∀ q, r = .inl q → v = (some (.inl q.1)) ∧ m' = q.2) → (∀ e, r = .inr e → jS X l d jm_X2_drawn m0 v m' (69, [], [], e)) → jS X l d jm_X2_drawn m0 v m' (15, [(0, .inr (.inr y0)), (2, .inl y2)], [], m)) {m : jMe} {y0 : Nat} {y2 : Int32} {r : (Int32 × jMe) ⊕ jMe} (H : c_X2_drawn_l15_b F B m y0 y2 = some r) (h1 : ∀ q, r = .inl q → v = (some (.inl q.1)) ∧ m' = q.2) (h2 : ∀ e, r = .inr e → jS X l d jm_X2_drawn m0 v m' (69, [], [], e)) : jS X l d jm_X2_drawn m0 v m' (15, [(0, .inr (.inr y0)), (2, .inl y2)], [], m) := by
  unfold c_X2_drawn_l15_b at H
  refine jS.adv O [(.iload_n 2, 0, 0, 0, 0, 0, 0), (.bipush 20, 0, 0, 0, 0, (20 : Int32), 0)] (pc' := 18) (ls' := [(0, .inr (.inr y0)), (2, .inl y2)]) (st' := [.inl (20 : Int32), .inl y2]) (m2 := m) (by decide +kernel) rfl trivial ?_
  refine jS.br (i := .if_icmp .ge 51) (P := (20 : Int32) ≤ y2) (rest := []) rfl (by decide +kernel) (tgt := 69) (by decide) (fun c6 => ?_) (fun c6 => ?_)
  · replace H := jif_t c6 H
    replace H := Option.some.inj H
    subst H
    refine jS.loc' [] (ls' := []) rfl ?_
    exact h2 _ rfl
  · replace H := jif_f c6 H
    obtain ⟨w7, H⟩ := jgd_ok H
    refine jS.adv O [(.aload_n 0, 0, 0, 0, 0, 0, 0), (.getfield 35, 0, 2, 6, 435, 0, 0), (.lconst 0, 0, 0, 0, 0, 0, (0 : Int64)), (.lcmp, 0, 0, 0, 0, 0, 0)] (pc' := 27) (ls' := [(0, .inr (.inr y0)), (2, .inl y2)]) (st' := [.inl (lg_cmp (jL m y0 6) (0 : Int64))]) (m2 := m) (by decide +kernel) rfl ⟨w7, trivial⟩ ?_
    refine jS.br (i := .ifCond .le 42) (P := (lg_cmp (jL m y0 6) (0 : Int64)) ≤ 0) (rest := []) rfl (by decide +kernel) (tgt := 69) (by decide) (fun c8 => ?_) (fun c8 => ?_)
    · replace H := jif_t c8 H
      replace H := Option.some.inj H
      subst H
      refine jS.loc' [] (ls' := []) rfl ?_
      exact h2 _ rfl
    · replace H := jif_f c8 H
      obtain ⟨w9, H⟩ := jgd_ok H
      refine jS.adv O [(.aload_n 0, 0, 0, 0, 0, 0, 0), (.dup, 0, 0, 0, 0, 0, 0), (.getfield 39, 0, 2, 7, 437, 0, 0), (.iconst 1, 0, 0, 0, 0, (1 : Int32), 0), (.iadd, 0, 0, 0, 0, 0, 0), (.putfield 39, 0, 2, 7, 437, 0, 0), (.aload_n 0, 0, 0, 0, 0, 0, 0), (.aload_n 0, 0, 0, 0, 0, 0, 0), (.getfield 46, 0, 2, 8, 439, 0, 0), (.aload_n 0, 0, 0, 0, 0, 0, 0), (.getfield 35, 0, 2, 6, 435, 0, 0)] (pc' := 49) (ls' := [(0, .inr (.inr y0)), (2, .inl y2)]) (st' := [.inr (.inl (jL (jsI m y0 7 ((jI m y0 7) + (1 : Int32))) y0 6)), .inr (.inr (jP (jsI m y0 7 ((jI m y0 7) + (1 : Int32))) y0 8)), .inr (.inr y0)]) (m2 := (jsI m y0 7 ((jI m y0 7) + (1 : Int32)))) (by decide +kernel) rfl ⟨w7, w7, w7, w7, trivial⟩ ?_
      obtain ⟨t11, w10, H⟩ := jb_ok H
      refine jS.step (c' := (52, [(0, .inr (.inr y0)), (2, .inl y2)], [.inr (.inl t11.1), .inr (.inr y0)], t11.2)) (jSt.callV (c := 0) (As := [.inr (.inl (jL (jsI m y0 7 ((jI m y0 7) + (1 : Int32))) y0 6))]) (rest := [.inr (.inr y0)]) O (ec_X0_below (d := 3) O (Nat.le_refl _) w10) w9 (by decide) rfl (by omega) jmw_X0_below jmv_X0_below jmn_X0_below (idx := 195) (jW_of 1169 (by decide +kernel) rfl) (Nat.le_of_ble_eq_true rfl) (by decide +kernel)) ?_
      obtain ⟨w12, H⟩ := jgd_ok H
      obtain ⟨t14, w13, H⟩ := jb_ok H
      refine jS.step (c' := (55, [(0, .inr (.inr y0)), (2, .inl y2)], [.inl t14.1], t14.2)) (jSt.callV (c := 2) (As := [.inr (.inl t11.1)]) (rest := []) O (ec_X2_lead (d := 4) O (Nat.le_refl _) w13) w12 (by decide) rfl (by omega) jmw_X2_lead jmv_X2_lead jmn_X2_lead (idx := 199) (jW_of 1178 (by decide +kernel) rfl) (Nat.le_of_ble_eq_true rfl) (by decide +kernel)) ?_
      refine jS.br (i := .ifCond .eq 8) (P := t14.1 = 0) (rest := []) rfl (by decide +kernel) (tgt := 63) (by decide) (fun c15 => ?_) (fun c15 => ?_)
      · replace H := jif_t c15 H
        refine jS.adv O [(.iinc 2 1, 0, 0, 0, 0, (1 : Int32), 0), (.goto (-51), 0, 15, 0, 0, 0, 0)] (pc' := 15) (ls' := [(2, .inl (y2 + (1 : Int32))), (0, .inr (.inr y0))]) (st' := []) (m2 := t14.2) (by decide +kernel) rfl trivial ?_
        refine jS.loc' [1, 0] (ls' := [(0, .inr (.inr y0)), (2, .inl (y2 + (1 : Int32)))]) rfl ?_
        exact hB _ _ _ _ H h1 h2
      · replace H := jif_f c15 H
        obtain ⟨w16, H⟩ := jgd_ok H
        refine jS.adv O [(.aload_n 0, 0, 0, 0, 0, 0, 0)] (pc' := 59) (ls' := [(0, .inr (.inr y0)), (2, .inl y2)]) (st' := [.inr (.inr y0)]) (m2 := t14.2) (by decide +kernel) rfl trivial ?_
        obtain ⟨t18, w17, H⟩ := jb_ok H
        refine jS.step (c' := (62, [(0, .inr (.inr y0)), (2, .inl y2)], [.inl t18], t14.2)) (jSt.callV (c := 2) (As := []) (rest := []) O (ec_X2_digits (d := 3) O (Nat.le_refl _) w17) w16 (by decide) rfl (by omega) jmw_X2_digits jmv_X2_digits jmn_X2_digits (idx := 203) (jW_of 1179 (by decide +kernel) rfl) (Nat.le_of_ble_eq_true rfl) (by decide +kernel)) ?_
        replace H := Option.some.inj H
        subst H
        obtain ⟨q1, q2⟩ := h1 _ rfl
        subst q1; subst q2
        exact jS.iret rfl (by decide +kernel)
def c_X2_drawn_l15 (F : Nat) : Nat → jMe → Nat → Int32 → Option ((Int32 × jMe) ⊕ jMe)
  | 0, _, _, _ => none
  | n + 1, m, y0, y2 => c_X2_drawn_l15_b F (fun m y0 y2 => c_X2_drawn_l15 F n m y0 y2) m y0 y2
theorem ec_X2_drawn_l15 {X : jX} {l : Launch} {d : Nat} (O : jOk X) (hd : 5 ≤ d) {F : Nat} {m0 m' : jMe} {v : Option jAV} : ∀ (n : Nat) {m : jMe} {y0 : Nat} {y2 : Int32} {r : (Int32 × jMe) ⊕ jMe} (H : c_X2_drawn_l15 F n m y0 y2 = some r) (h1 : ∀ q, r = .inl q → v = (some (.inl q.1)) ∧ m' = q.2) (h2 : ∀ e, r = .inr e → jS X l d jm_X2_drawn m0 v m' (69, [], [], e)), jS X l d jm_X2_drawn m0 v m' (15, [(0, .inr (.inr y0)), (2, .inl y2)], [], m) := by
  intro n
  induction n with
  | zero =>
    intro m y0 y2 r H h1 h2
    cases (show none = some r from H)
  | succ n ih =>
    intro m y0 y2 r H h1 h2
    exact ec_X2_drawn_l15_b O hd (B := (fun m y0 y2 => c_X2_drawn_l15 F n m y0 y2)) (fun m y0 y2 r H h1 h2 => ih H h1 h2) H h1 h2
def c_X2_drawn (F : Nat) (m : jMe) (x0 : Nat) (x1 : Int32) : Option (Int32 × jMe) :=
  jgd (jK m x0 = 34) <| jgd (jK m (jP m x0 8) = 32) <| jb (c_X0_begin F m (jP m x0 8) x1) fun t4 => jgd (jK t4 x0 = 34) <| jb2 (c_X2_drawn_l15 F F (jsI t4 x0 7 (0 : Int32)) x0 (0 : Int32)) (fun q => some q) fun e20 => some ((-1 : Int32), e20)
theorem ec_X2_drawn {X : jX} {l : Launch} {d : Nat} (O : jOk X) (hd : 5 ≤ d) {F : Nat} {m : jMe} {x0 : Nat} {x1 : Int32} {r : Int32 × jMe} (H : c_X2_drawn F m x0 x1 = some r) : jH X l d jm_X2_drawn [.inr (.inr x0), .inl x1] m (some (.inl r.1)) r.2 := by
  refine jH.of jpl_RX2 rfl (Nat.le_of_ble_eq_true rfl) ?_
  show jS X l d jm_X2_drawn m _ _ (0, [(0, .inr (.inr x0)), (1, .inl x1)], [], m)
  unfold c_X2_drawn at H
  obtain ⟨w1, H⟩ := jgd_ok H
  obtain ⟨w2, H⟩ := jgd_ok H
  refine jS.adv O [(.aload_n 0, 0, 0, 0, 0, 0, 0), (.getfield 46, 0, 2, 8, 439, 0, 0), (.iload_n 1, 0, 0, 0, 0, 0, 0)] (pc' := 5) (ls' := [(0, .inr (.inr x0)), (1, .inl x1)]) (st' := [.inl x1, .inr (.inr (jP m x0 8))]) (m2 := m) (by decide +kernel) rfl ⟨w1, trivial⟩ ?_
  obtain ⟨t4, w3, H⟩ := jb_ok H
  refine jS.step (c' := (8, [(0, .inr (.inr x0)), (1, .inl x1)], [], t4)) (jSt.callV (c := 0) (As := [.inl x1]) (rest := []) O (ec_X0_begin (d := 2) O (Nat.le_refl _) w3) w2 (by decide) rfl (by omega) jmw_X0_begin jmv_X0_begin jmn_X0_begin (idx := 192) (jW_of 1165 (by decide +kernel) rfl) (Nat.le_of_ble_eq_true rfl) (by decide +kernel)) ?_
  obtain ⟨w5, H⟩ := jgd_ok H
  refine jS.adv O [(.aload_n 0, 0, 0, 0, 0, 0, 0), (.iconst 0, 0, 0, 0, 0, (0 : Int32), 0), (.putfield 39, 0, 2, 7, 437, 0, 0), (.iconst 0, 0, 0, 0, 0, (0 : Int32), 0), (.istore_n 2, 0, 0, 0, 0, 0, 0)] (pc' := 15) (ls' := [(2, .inl (0 : Int32)), (0, .inr (.inr x0)), (1, .inl x1)]) (st' := []) (m2 := (jsI t4 x0 7 (0 : Int32))) (by decide +kernel) rfl ⟨w5, trivial⟩ ?_
  refine jS.loc' [1, 0] (ls' := [(0, .inr (.inr x0)), (2, .inl (0 : Int32))]) rfl ?_
  rcases jb2_ok H with ⟨q19, w21, H⟩ | ⟨e20, w21, H⟩
  · refine ec_X2_drawn_l15 O hd F w21 (fun q2 hq2 => ?_) (fun e2 he2 => by cases he2)
    cases hq2
    cases H
    exact ⟨rfl, rfl⟩
  · refine ec_X2_drawn_l15 O hd F w21 (fun q2 hq2 => by cases hq2) (fun e2 he2 => ?_)
    cases he2
    refine jS.adv O [(.iconst (-1), 0, 0, 0, 0, (-1 : Int32), 0)] (pc' := 70) (ls' := []) (st' := [.inl (-1 : Int32)]) (m2 := e20) (by decide +kernel) rfl trivial ?_
    replace H := Option.some.inj H
    subst H
    exact jS.iret rfl (by decide +kernel)
def c_X2_walk_l3_b (F : Nat) (G : Nat → jMe → Nat → Int32 → Int32 → Int32 → Int64 → Option (Int64 × jMe)) (B : jMe → Nat → Int32 → Int32 → Int64 → Int32 → Option ((Int64 × jMe) ⊕ (jMe × Int64))) (m : jMe) (y0 : Nat) (y2 : Int32) (y3 : Int32) (y4 : Int64) (y6 : Int32) : Option ((Int64 × jMe) ⊕ (jMe × Int64)) :=
  (if (4 : Int32) ≤ y6 then some (.inr (m, y4)) else jgd (jK m y0 = 34) <| jb (c_X9_isIn F m (jI m y0 13) y6) fun t4 => (if t4 = 0 then B m y0 y2 y3 y4 (y6 + (1 : Int32)) else jb (G 1 m y0 y6 y2 y3 y4) fun t7 => some (.inl (t7.1, t7.2))))
theorem ec_X2_walk_l3_b {X : jX} {l : Launch} {d : Nat} (O : jOk X) (hd : 3 ≤ d) {F : Nat} {dG : Nat} (hdG : dG < d) {G : Nat → jMe → Nat → Int32 → Int32 → Int32 → Int64 → Option (Int64 × jMe)} (hG : ∀ (q : Nat) (m : jMe) (x0 : Nat) (x1 : Int32) (x2 : Int32) (x3 : Int32) (x4 : Int64) (r : Int64 × jMe), q < 2 → G q m x0 x1 x2 x3 x4 = some r → jH X l dG (jms_X2_walk q) [.inr (.inr x0), .inl x1, .inl x2, .inl x3, .inr (.inl x4)] m (some (.inr (.inl r.1))) r.2) {m0 m' : jMe} {v : Option jAV} {B : jMe → Nat → Int32 → Int32 → Int64 → Int32 → Option ((Int64 × jMe) ⊕ (jMe × Int64))} (hB : ∀ (m : jMe) (y0 : Nat) (y2 : Int32) (y3 : Int32) (y4 : Int64) (y6 : Int32) (r : (Int64 × jMe) ⊕ (jMe × Int64)), B m y0 y2 y3 y4 y6 = some r → (∀ q, r = .inl q → v = (some (.inr (.inl q.1))) ∧ m' = q.2) → (∀ e, r = .inr e → jS X l d jm_X2_walk m0 v m' (38, [(4, .inr (.inl e.2))], [], e.1)) → jS X l d jm_X2_walk m0 v m' (3, [(0, .inr (.inr y0)), (2, .inl y2), (3, .inl y3), (4, .inr (.inl y4)), (6, .inl y6)], [], m)) {m : jMe} {y0 : Nat} {y2 : Int32} {y3 : Int32} {y4 : Int64} {y6 : Int32} {r : (Int64 × jMe) ⊕ (jMe × Int64)} (H : c_X2_walk_l3_b F G B m y0 y2 y3 y4 y6 = some r) (h1 : ∀ q, r = .inl q → v = (some (.inr (.inl q.1))) ∧ m' = q.2) (h2 : ∀ e, r = .inr e → jS X l d jm_X2_walk m0 v m' (38, [(4, .inr (.inl e.2))], [], e.1)) : jS X l d jm_X2_walk m0 v m' (3, [(0, .inr (.inr y0)), (2, .inl y2), (3, .inl y3), (4, .inr (.inl y4)), (6, .inl y6)], [], m) := by
  unfold c_X2_walk_l3_b at H
  refine jS.adv O [(.iload 6, 0, 0, 0, 0, 0, 0), (.iconst 4, 0, 0, 0, 0, (4 : Int32), 0)] (pc' := 6) (ls' := [(0, .inr (.inr y0)), (2, .inl y2), (3, .inl y3), (4, .inr (.inl y4)), (6, .inl y6)]) (st' := [.inl (4 : Int32), .inl y6]) (m2 := m) (by decide +kernel) rfl trivial ?_
  refine jS.br (i := .if_icmp .ge 32) (P := (4 : Int32) ≤ y6) (rest := []) rfl (by decide +kernel) (tgt := 38) (by decide) (fun c1 => ?_) (fun c1 => ?_)
  · replace H := jif_t c1 H
    replace H := Option.some.inj H
    subst H
    refine jS.loc' [3] (ls' := [(4, .inr (.inl y4))]) rfl ?_
    exact h2 _ rfl
  · replace H := jif_f c1 H
    obtain ⟨w2, H⟩ := jgd_ok H
    refine jS.adv O [(.aload_n 0, 0, 0, 0, 0, 0, 0), (.getfield 64, 0, 2, 13, 444, 0, 0), (.iload 6, 0, 0, 0, 0, 0, 0)] (pc' := 15) (ls' := [(0, .inr (.inr y0)), (2, .inl y2), (3, .inl y3), (4, .inr (.inl y4)), (6, .inl y6)]) (st' := [.inl y6, .inl (jI m y0 13)]) (m2 := m) (by decide +kernel) rfl ⟨w2, trivial⟩ ?_
    obtain ⟨t4, w3, H⟩ := jb_ok H
    refine jS.step (c' := (18, [(0, .inr (.inr y0)), (2, .inl y2), (3, .inl y3), (4, .inr (.inl y4)), (6, .inl y6)], [.inl t4], m)) (jSt.callSN (As := [.inl (jI m y0 13), .inl y6]) (rest := []) O (ec_X9_isIn (d := 2) O (Nat.le_refl _) w3) (by omega) jmw_X9_isIn jmv_X9_isIn jmn_X9_isIn (host := "JoinDraws") (idx := 83) jln_JoinDraws_Join_83 (Nat.le_of_ble_eq_true rfl) (by decide +kernel)) ?_
    refine jS.br (i := .ifCond .eq 14) (P := t4 = 0) (rest := []) rfl (by decide +kernel) (tgt := 32) (by decide) (fun c5 => ?_) (fun c5 => ?_)
    · replace H := jif_t c5 H
      refine jS.adv O [(.iinc 6 1, 0, 0, 0, 0, (1 : Int32), 0), (.goto (-32), 0, 3, 0, 0, 0, 0)] (pc' := 3) (ls' := [(6, .inl (y6 + (1 : Int32))), (0, .inr (.inr y0)), (2, .inl y2), (3, .inl y3), (4, .inr (.inl y4))]) (st' := []) (m2 := m) (by decide +kernel) rfl trivial ?_
      refine jS.loc' [1, 2, 3, 4, 0] (ls' := [(0, .inr (.inr y0)), (2, .inl y2), (3, .inl y3), (4, .inr (.inl y4)), (6, .inl (y6 + (1 : Int32)))]) rfl ?_
      exact hB _ _ _ _ _ _ _ H h1 h2
    · replace H := jif_f c5 H
      refine jS.adv O [(.aload_n 0, 0, 0, 0, 0, 0, 0), (.iload 6, 0, 0, 0, 0, 0, 0), (.iload_n 2, 0, 0, 0, 0, 0, 0), (.iload_n 3, 0, 0, 0, 0, 0, 0), (.lload 4, 0, 0, 0, 0, 0, 0)] (pc' := 28) (ls' := [(0, .inr (.inr y0)), (2, .inl y2), (3, .inl y3), (4, .inr (.inl y4)), (6, .inl y6)]) (st' := [.inr (.inl y4), .inl y3, .inl y2, .inl y6, .inr (.inr y0)]) (m2 := m) (by decide +kernel) rfl trivial ?_
      obtain ⟨t7, w6, H⟩ := jb_ok H
      refine jS.step (c' := (31, [(0, .inr (.inr y0)), (2, .inl y2), (3, .inl y3), (4, .inr (.inl y4)), (6, .inl y6)], [.inr (.inl t7.1)], t7.2)) (jSt.callV (c := 2) (As := [.inl y6, .inl y2, .inl y3, .inr (.inl y4)]) (rest := []) O (hG 1 _ _ _ _ _ _ _ (by decide) w6) w2 (by decide) rfl hdG jmw_X2_walkRows jmv_X2_walkRows jmn_X2_walkRows (idx := 211) (jW_of 1100 (by decide +kernel) rfl) (Nat.le_of_ble_eq_true rfl) (by decide +kernel)) ?_
      replace H := Option.some.inj H
      subst H
      obtain ⟨q1, q2⟩ := h1 _ rfl
      subst q1; subst q2
      exact jS.lret rfl (by decide +kernel)
def c_X2_walk_l3 (F : Nat) (G : Nat → jMe → Nat → Int32 → Int32 → Int32 → Int64 → Option (Int64 × jMe)) : Nat → jMe → Nat → Int32 → Int32 → Int64 → Int32 → Option ((Int64 × jMe) ⊕ (jMe × Int64))
  | 0, _, _, _, _, _, _ => none
  | n + 1, m, y0, y2, y3, y4, y6 => c_X2_walk_l3_b F G (fun m y0 y2 y3 y4 y6 => c_X2_walk_l3 F G n m y0 y2 y3 y4 y6) m y0 y2 y3 y4 y6
theorem ec_X2_walk_l3 {X : jX} {l : Launch} {d : Nat} (O : jOk X) (hd : 3 ≤ d) {F : Nat} {dG : Nat} (hdG : dG < d) {G : Nat → jMe → Nat → Int32 → Int32 → Int32 → Int64 → Option (Int64 × jMe)} (hG : ∀ (q : Nat) (m : jMe) (x0 : Nat) (x1 : Int32) (x2 : Int32) (x3 : Int32) (x4 : Int64) (r : Int64 × jMe), q < 2 → G q m x0 x1 x2 x3 x4 = some r → jH X l dG (jms_X2_walk q) [.inr (.inr x0), .inl x1, .inl x2, .inl x3, .inr (.inl x4)] m (some (.inr (.inl r.1))) r.2) {m0 m' : jMe} {v : Option jAV} : ∀ (n : Nat) {m : jMe} {y0 : Nat} {y2 : Int32} {y3 : Int32} {y4 : Int64} {y6 : Int32} {r : (Int64 × jMe) ⊕ (jMe × Int64)} (H : c_X2_walk_l3 F G n m y0 y2 y3 y4 y6 = some r) (h1 : ∀ q, r = .inl q → v = (some (.inr (.inl q.1))) ∧ m' = q.2) (h2 : ∀ e, r = .inr e → jS X l d jm_X2_walk m0 v m' (38, [(4, .inr (.inl e.2))], [], e.1)), jS X l d jm_X2_walk m0 v m' (3, [(0, .inr (.inr y0)), (2, .inl y2), (3, .inl y3), (4, .inr (.inl y4)), (6, .inl y6)], [], m) := by
  intro n
  induction n with
  | zero =>
    intro m y0 y2 y3 y4 y6 r H h1 h2
    cases (show none = some r from H)
  | succ n ih =>
    intro m y0 y2 y3 y4 y6 r H h1 h2
    exact ec_X2_walk_l3_b O hd hdG hG (B := (fun m y0 y2 y3 y4 y6 => c_X2_walk_l3 F G n m y0 y2 y3 y4 y6)) (fun m y0 y2 y3 y4 y6 r H h1 h2 => ih H h1 h2) H h1 h2
def c_X2_walk_b (F : Nat) (G : Nat → jMe → Nat → Int32 → Int32 → Int32 → Int64 → Option (Int64 × jMe)) (m : jMe) (x0 : Nat) (x1 : Int32) (x2 : Int32) (x3 : Int32) (x4 : Int64) : Option (Int64 × jMe) :=
  jb2 (c_X2_walk_l3 F G F m x0 x2 x3 x4 x1) (fun q => some q) fun e9 => some (e9.2, e9.1)
theorem ec_X2_walk_b {X : jX} {l : Launch} {d : Nat} (O : jOk X) (hd : 3 ≤ d) {F : Nat} {dG : Nat} (hdG : dG < d) {G : Nat → jMe → Nat → Int32 → Int32 → Int32 → Int64 → Option (Int64 × jMe)} (hG : ∀ (q : Nat) (m : jMe) (x0 : Nat) (x1 : Int32) (x2 : Int32) (x3 : Int32) (x4 : Int64) (r : Int64 × jMe), q < 2 → G q m x0 x1 x2 x3 x4 = some r → jH X l dG (jms_X2_walk q) [.inr (.inr x0), .inl x1, .inl x2, .inl x3, .inr (.inl x4)] m (some (.inr (.inl r.1))) r.2) {m : jMe} {x0 : Nat} {x1 : Int32} {x2 : Int32} {x3 : Int32} {x4 : Int64} {r : Int64 × jMe} (H : c_X2_walk_b F G m x0 x1 x2 x3 x4 = some r) : jH X l d jm_X2_walk [.inr (.inr x0), .inl x1, .inl x2, .inl x3, .inr (.inl x4)] m (some (.inr (.inl r.1))) r.2 := by
  refine jH.of jpl_RX2 rfl (Nat.le_of_ble_eq_true rfl) ?_
  show jS X l d jm_X2_walk m _ _ (0, [(0, .inr (.inr x0)), (1, .inl x1), (2, .inl x2), (3, .inl x3), (4, .inr (.inl x4))], [], m)
  unfold c_X2_walk_b at H
  refine jS.adv O [(.iload_n 1, 0, 0, 0, 0, 0, 0), (.istore 6, 0, 0, 0, 0, 0, 0)] (pc' := 3) (ls' := [(6, .inl x1), (0, .inr (.inr x0)), (1, .inl x1), (2, .inl x2), (3, .inl x3), (4, .inr (.inl x4))]) (st' := []) (m2 := m) (by decide +kernel) rfl trivial ?_
  refine jS.loc' [1, 3, 4, 5, 0] (ls' := [(0, .inr (.inr x0)), (2, .inl x2), (3, .inl x3), (4, .inr (.inl x4)), (6, .inl x1)]) rfl ?_
  rcases jb2_ok H with ⟨q8, w10, H⟩ | ⟨e9, w10, H⟩
  · refine ec_X2_walk_l3 O hd hdG hG F w10 (fun q2 hq2 => ?_) (fun e2 he2 => by cases he2)
    cases hq2
    cases H
    exact ⟨rfl, rfl⟩
  · refine ec_X2_walk_l3 O hd hdG hG F w10 (fun q2 hq2 => by cases hq2) (fun e2 he2 => ?_)
    cases he2
    refine jS.adv O [(.lload 4, 0, 0, 0, 0, 0, 0)] (pc' := 40) (ls' := [(4, .inr (.inl e9.2))]) (st' := [.inr (.inl e9.2)]) (m2 := e9.1) (by decide +kernel) rfl trivial ?_
    replace H := Option.some.inj H
    subst H
    exact jS.lret rfl (by decide +kernel)
def c_X2_walkRows_l14_b (F : Nat) (G : Nat → jMe → Nat → Int32 → Int32 → Int32 → Int64 → Option (Int64 × jMe)) (B : jMe → Nat → Int32 → Int32 → Int32 → Int64 → Nat → Int64 → Int32 → Option (jMe × Int64)) (m : jMe) (y0 : Nat) (y1 : Int32) (y2 : Int32) (y3 : Int32) (y4 : Int64) (y6 : Nat) (y7 : Int64) (y9 : Int32) : Option (jMe × Int64) :=
  jgd (jK m y6 = 36) <| (if (jI m y6 5) ≤ y9 then some (m, y7) else jgd (jK m y0 = 34) <| jgd (jK m (jP m y0 9) = 1) <| jgd (jin y1 (jZ m (jP m y0 9)) = true) <| jb (c_X9_isIn F m (jI m (jP m y0 9) y1.toNatClampNeg) y9) fun t10 => (if t10 = 0 then B m y0 y1 y2 y3 y4 y6 y7 (y9 + (1 : Int32)) else jb (c_X4_matches F m y6 y9 y2 y3) fun t13 => (if t13 = 0 then B m y0 y1 y2 y3 y4 y6 y7 (y9 + (1 : Int32)) else jgd (jK m (jP m y6 0) = 1) <| jgd (jin y9 (jZ m (jP m y6 0)) = true) <| jb (c_X4_worthOf F m y6 y9) fun t18 => jb (G 0 m y0 (y1 + (1 : Int32)) (y2 ||| (jI m (jP m y6 0) y9.toNatClampNeg)) (y3 ||| (jI m y6 4)) (y4 * t18)) fun t20 => jgd (jK t20.2 y0 = 34) <| jgd (jK t20.2 (jP t20.2 y0 4) = 2) <| jgd (jin ((y1 * (8 : Int32)) + y9) (jZ t20.2 (jP t20.2 y0 4)) = true) <| jgd (jin ((y1 * (8 : Int32)) + y9) (jZ t20.2 (jP t20.2 y0 4)) = true) <| B (jsL t20.2 (jP t20.2 y0 4) ((y1 * (8 : Int32)) + y9).toNatClampNeg ((jL t20.2 (jP t20.2 y0 4) ((y1 * (8 : Int32)) + y9).toNatClampNeg) + t20.1)) y0 y1 y2 y3 y4 y6 (y7 + t20.1) (y9 + (1 : Int32)))))
theorem ec_X2_walkRows_l14_b {X : jX} {l : Launch} {d : Nat} (O : jOk X) (hd : 3 ≤ d) {F : Nat} {dG : Nat} (hdG : dG < d) {G : Nat → jMe → Nat → Int32 → Int32 → Int32 → Int64 → Option (Int64 × jMe)} (hG : ∀ (q : Nat) (m : jMe) (x0 : Nat) (x1 : Int32) (x2 : Int32) (x3 : Int32) (x4 : Int64) (r : Int64 × jMe), q < 2 → G q m x0 x1 x2 x3 x4 = some r → jH X l dG (jms_X2_walk q) [.inr (.inr x0), .inl x1, .inl x2, .inl x3, .inr (.inl x4)] m (some (.inr (.inl r.1))) r.2) {m0 m' : jMe} {v : Option jAV} {B : jMe → Nat → Int32 → Int32 → Int32 → Int64 → Nat → Int64 → Int32 → Option (jMe × Int64)} (hB : ∀ (m : jMe) (y0 : Nat) (y1 : Int32) (y2 : Int32) (y3 : Int32) (y4 : Int64) (y6 : Nat) (y7 : Int64) (y9 : Int32) (r : jMe × Int64), B m y0 y1 y2 y3 y4 y6 y7 y9 = some r → (jS X l d jm_X2_walkRows m0 v m' (116, [(7, .inr (.inl r.2))], [], r.1)) → jS X l d jm_X2_walkRows m0 v m' (14, [(0, .inr (.inr y0)), (1, .inl y1), (2, .inl y2), (3, .inl y3), (4, .inr (.inl y4)), (6, .inr (.inr y6)), (7, .inr (.inl y7)), (9, .inl y9)], [], m)) {m : jMe} {y0 : Nat} {y1 : Int32} {y2 : Int32} {y3 : Int32} {y4 : Int64} {y6 : Nat} {y7 : Int64} {y9 : Int32} {r : jMe × Int64} (H : c_X2_walkRows_l14_b F G B m y0 y1 y2 y3 y4 y6 y7 y9 = some r) (h2 : jS X l d jm_X2_walkRows m0 v m' (116, [(7, .inr (.inl r.2))], [], r.1)) : jS X l d jm_X2_walkRows m0 v m' (14, [(0, .inr (.inr y0)), (1, .inl y1), (2, .inl y2), (3, .inl y3), (4, .inr (.inl y4)), (6, .inr (.inr y6)), (7, .inr (.inl y7)), (9, .inl y9)], [], m) := by
  unfold c_X2_walkRows_l14_b at H
  obtain ⟨w4, H⟩ := jgd_ok H
  refine jS.adv O [(.iload 9, 0, 0, 0, 0, 0, 0), (.aload 6, 0, 0, 0, 0, 0, 0), (.getfield 120, 0, 4, 5, 509, 0, 0)] (pc' := 21) (ls' := [(0, .inr (.inr y0)), (1, .inl y1), (2, .inl y2), (3, .inl y3), (4, .inr (.inl y4)), (6, .inr (.inr y6)), (7, .inr (.inl y7)), (9, .inl y9)]) (st' := [.inl (jI m y6 5), .inl y9]) (m2 := m) (by decide +kernel) rfl ⟨w4, trivial⟩ ?_
  refine jS.br (i := .if_icmp .ge 95) (P := (jI m y6 5) ≤ y9) (rest := []) rfl (by decide +kernel) (tgt := 116) (by decide) (fun c5 => ?_) (fun c5 => ?_)
  · replace H := jif_t c5 H
    replace H := Option.some.inj H
    subst H
    refine jS.loc' [6] (ls' := [(7, .inr (.inl y7))]) rfl ?_
    exact h2
  · replace H := jif_f c5 H
    obtain ⟨w6, H⟩ := jgd_ok H
    obtain ⟨w7, H⟩ := jgd_ok H
    obtain ⟨w8, H⟩ := jgd_ok H
    refine jS.adv O [(.aload_n 0, 0, 0, 0, 0, 0, 0), (.getfield 50, 0, 2, 9, 440, 0, 0), (.iload_n 1, 0, 0, 0, 0, 0, 0), (.iaload, 0, 1, 0, 0, 0, 0), (.iload 9, 0, 0, 0, 0, 0, 0)] (pc' := 32) (ls' := [(0, .inr (.inr y0)), (1, .inl y1), (2, .inl y2), (3, .inl y3), (4, .inr (.inl y4)), (6, .inr (.inr y6)), (7, .inr (.inl y7)), (9, .inl y9)]) (st' := [.inl y9, .inl (jI m (jP m y0 9) y1.toNatClampNeg)]) (m2 := m) (by decide +kernel) rfl ⟨w6, ⟨w7, jib_ok w8⟩, trivial⟩ ?_
    obtain ⟨t10, w9, H⟩ := jb_ok H
    refine jS.step (c' := (35, [(0, .inr (.inr y0)), (1, .inl y1), (2, .inl y2), (3, .inl y3), (4, .inr (.inl y4)), (6, .inr (.inr y6)), (7, .inr (.inl y7)), (9, .inl y9)], [.inl t10], m)) (jSt.callSN (As := [.inl (jI m (jP m y0 9) y1.toNatClampNeg), .inl y9]) (rest := []) O (ec_X9_isIn (d := 2) O (Nat.le_refl _) w9) (by omega) jmw_X9_isIn jmv_X9_isIn jmn_X9_isIn (host := "JoinDraws") (idx := 83) jln_JoinDraws_Join_83 (Nat.le_of_ble_eq_true rfl) (by decide +kernel)) ?_
    refine jS.br (i := .ifCond .eq 75) (P := t10 = 0) (rest := []) rfl (by decide +kernel) (tgt := 110) (by decide) (fun c11 => ?_) (fun c11 => ?_)
    · replace H := jif_t c11 H
      refine jS.adv O [(.iinc 9 1, 0, 0, 0, 0, (1 : Int32), 0), (.goto (-99), 0, 14, 0, 0, 0, 0)] (pc' := 14) (ls' := [(9, .inl (y9 + (1 : Int32))), (0, .inr (.inr y0)), (1, .inl y1), (2, .inl y2), (3, .inl y3), (4, .inr (.inl y4)), (6, .inr (.inr y6)), (7, .inr (.inl y7))]) (st' := []) (m2 := m) (by decide +kernel) rfl trivial ?_
      refine jS.loc' [1, 2, 3, 4, 5, 6, 7, 0] (ls' := [(0, .inr (.inr y0)), (1, .inl y1), (2, .inl y2), (3, .inl y3), (4, .inr (.inl y4)), (6, .inr (.inr y6)), (7, .inr (.inl y7)), (9, .inl (y9 + (1 : Int32)))]) rfl ?_
      exact hB _ _ _ _ _ _ _ _ _ _ H h2
    · replace H := jif_f c11 H
      refine jS.adv O [(.aload 6, 0, 0, 0, 0, 0, 0), (.iload 9, 0, 0, 0, 0, 0, 0), (.iload_n 2, 0, 0, 0, 0, 0, 0), (.iload_n 3, 0, 0, 0, 0, 0, 0)] (pc' := 44) (ls' := [(0, .inr (.inr y0)), (1, .inl y1), (2, .inl y2), (3, .inl y3), (4, .inr (.inl y4)), (6, .inr (.inr y6)), (7, .inr (.inl y7)), (9, .inl y9)]) (st' := [.inl y3, .inl y2, .inl y9, .inr (.inr y6)]) (m2 := m) (by decide +kernel) rfl trivial ?_
      obtain ⟨t13, w12, H⟩ := jb_ok H
      refine jS.step (c' := (47, [(0, .inr (.inr y0)), (1, .inl y1), (2, .inl y2), (3, .inl y3), (4, .inr (.inl y4)), (6, .inr (.inr y6)), (7, .inr (.inl y7)), (9, .inl y9)], [.inl t13], m)) (jSt.callV (c := 4) (As := [.inl y9, .inl y2, .inl y3]) (rest := []) O (ec_X4_matches (d := 2) O (Nat.le_refl _) w12) w4 (by decide) rfl (by omega) jmw_X4_matches jmv_X4_matches jmn_X4_matches (idx := 138) (jW_of 809 (by decide +kernel) rfl) (Nat.le_of_ble_eq_true rfl) (by decide +kernel)) ?_
      refine jS.br (i := .ifCond .eq 63) (P := t13 = 0) (rest := []) rfl (by decide +kernel) (tgt := 110) (by decide) (fun c14 => ?_) (fun c14 => ?_)
      · replace H := jif_t c14 H
        refine jS.adv O [(.iinc 9 1, 0, 0, 0, 0, (1 : Int32), 0), (.goto (-99), 0, 14, 0, 0, 0, 0)] (pc' := 14) (ls' := [(9, .inl (y9 + (1 : Int32))), (0, .inr (.inr y0)), (1, .inl y1), (2, .inl y2), (3, .inl y3), (4, .inr (.inl y4)), (6, .inr (.inr y6)), (7, .inr (.inl y7))]) (st' := []) (m2 := m) (by decide +kernel) rfl trivial ?_
        refine jS.loc' [1, 2, 3, 4, 5, 6, 7, 0] (ls' := [(0, .inr (.inr y0)), (1, .inl y1), (2, .inl y2), (3, .inl y3), (4, .inr (.inl y4)), (6, .inr (.inr y6)), (7, .inr (.inl y7)), (9, .inl (y9 + (1 : Int32)))]) rfl ?_
        exact hB _ _ _ _ _ _ _ _ _ _ H h2
      · replace H := jif_f c14 H
        obtain ⟨w15, H⟩ := jgd_ok H
        obtain ⟨w16, H⟩ := jgd_ok H
        refine jS.adv O [(.aload_n 0, 0, 0, 0, 0, 0, 0), (.iload_n 1, 0, 0, 0, 0, 0, 0), (.iconst 1, 0, 0, 0, 0, (1 : Int32), 0), (.iadd, 0, 0, 0, 0, 0, 0), (.iload_n 2, 0, 0, 0, 0, 0, 0), (.aload 6, 0, 0, 0, 0, 0, 0), (.getfield 130, 0, 4, 0, 494, 0, 0), (.iload 9, 0, 0, 0, 0, 0, 0), (.iaload, 0, 1, 0, 0, 0, 0), (.ior, 0, 0, 0, 0, 0, 0), (.iload_n 3, 0, 0, 0, 0, 0, 0), (.aload 6, 0, 0, 0, 0, 0, 0), (.getfield 133, 0, 4, 4, 506, 0, 0), (.ior, 0, 0, 0, 0, 0, 0), (.lload 4, 0, 0, 0, 0, 0, 0), (.aload 6, 0, 0, 0, 0, 0, 0), (.iload 9, 0, 0, 0, 0, 0, 0)] (pc' := 77) (ls' := [(0, .inr (.inr y0)), (1, .inl y1), (2, .inl y2), (3, .inl y3), (4, .inr (.inl y4)), (6, .inr (.inr y6)), (7, .inr (.inl y7)), (9, .inl y9)]) (st' := [.inl y9, .inr (.inr y6), .inr (.inl y4), .inl (y3 ||| (jI m y6 4)), .inl (y2 ||| (jI m (jP m y6 0) y9.toNatClampNeg)), .inl (y1 + (1 : Int32)), .inr (.inr y0)]) (m2 := m) (by decide +kernel) rfl ⟨w4, ⟨w15, jib_ok w16⟩, w4, trivial⟩ ?_
        obtain ⟨t18, w17, H⟩ := jb_ok H
        refine jS.step (c' := (80, [(0, .inr (.inr y0)), (1, .inl y1), (2, .inl y2), (3, .inl y3), (4, .inr (.inl y4)), (6, .inr (.inr y6)), (7, .inr (.inl y7)), (9, .inl y9)], [.inr (.inl t18), .inr (.inl y4), .inl (y3 ||| (jI m y6 4)), .inl (y2 ||| (jI m (jP m y6 0) y9.toNatClampNeg)), .inl (y1 + (1 : Int32)), .inr (.inr y0)], m)) (jSt.callV (c := 4) (As := [.inl y9]) (rest := [.inr (.inl y4), .inl (y3 ||| (jI m y6 4)), .inl (y2 ||| (jI m (jP m y6 0) y9.toNatClampNeg)), .inl (y1 + (1 : Int32)), .inr (.inr y0)]) O (ec_X4_worthOf (d := 2) O (Nat.le_refl _) w17) w4 (by decide) rfl (by omega) jmw_X4_worthOf jmv_X4_worthOf jmn_X4_worthOf (idx := 123) (jW_of 804 (by decide +kernel) rfl) (Nat.le_of_ble_eq_true rfl) (by decide +kernel)) ?_
        refine jS.adv O [(.lmul, 0, 0, 0, 0, 0, 0)] (pc' := 81) (ls' := [(0, .inr (.inr y0)), (1, .inl y1), (2, .inl y2), (3, .inl y3), (4, .inr (.inl y4)), (6, .inr (.inr y6)), (7, .inr (.inl y7)), (9, .inl y9)]) (st' := [.inr (.inl (y4 * t18)), .inl (y3 ||| (jI m y6 4)), .inl (y2 ||| (jI m (jP m y6 0) y9.toNatClampNeg)), .inl (y1 + (1 : Int32)), .inr (.inr y0)]) (m2 := m) (by decide +kernel) rfl trivial ?_
        obtain ⟨t20, w19, H⟩ := jb_ok H
        refine jS.step (c' := (84, [(0, .inr (.inr y0)), (1, .inl y1), (2, .inl y2), (3, .inl y3), (4, .inr (.inl y4)), (6, .inr (.inr y6)), (7, .inr (.inl y7)), (9, .inl y9)], [.inr (.inl t20.1)], t20.2)) (jSt.callV (c := 2) (As := [.inl (y1 + (1 : Int32)), .inl (y2 ||| (jI m (jP m y6 0) y9.toNatClampNeg)), .inl (y3 ||| (jI m y6 4)), .inr (.inl (y4 * t18))]) (rest := []) O (hG 0 _ _ _ _ _ _ _ (by decide) w19) w6 (by decide) rfl hdG jmw_X2_walk jmv_X2_walk jmn_X2_walk (idx := 207) (jW_of 1096 (by decide +kernel) rfl) (Nat.le_of_ble_eq_true rfl) (by decide +kernel)) ?_
        obtain ⟨w21, H⟩ := jgd_ok H
        obtain ⟨w22, H⟩ := jgd_ok H
        obtain ⟨w23, H⟩ := jgd_ok H
        obtain ⟨w24, H⟩ := jgd_ok H
        refine jS.adv O [(.lstore 10, 0, 0, 0, 0, 0, 0), (.aload_n 0, 0, 0, 0, 0, 0, 0), (.getfield 28, 0, 2, 4, 431, 0, 0), (.iload_n 1, 0, 0, 0, 0, 0, 0), (.bipush 8, 0, 0, 0, 0, (8 : Int32), 0), (.imul, 0, 0, 0, 0, 0, 0), (.iload 9, 0, 0, 0, 0, 0, 0), (.iadd, 0, 0, 0, 0, 0, 0), (.dup2, 0, 0, 0, 0, 0, 0), (.laload, 0, 0, 0, 0, 0, 0), (.lload 10, 0, 0, 0, 0, 0, 0), (.ladd, 0, 0, 0, 0, 0, 0), (.lastore, 0, 0, 0, 0, 0, 0), (.lload 7, 0, 0, 0, 0, 0, 0), (.lload 10, 0, 0, 0, 0, 0, 0), (.ladd, 0, 0, 0, 0, 0, 0), (.lstore 7, 0, 0, 0, 0, 0, 0), (.iinc 9 1, 0, 0, 0, 0, (1 : Int32), 0), (.goto (-99), 0, 14, 0, 0, 0, 0)] (pc' := 14) (ls' := [(9, .inl (y9 + (1 : Int32))), (7, .inr (.inl (y7 + t20.1))), (10, .inr (.inl t20.1)), (0, .inr (.inr y0)), (1, .inl y1), (2, .inl y2), (3, .inl y3), (4, .inr (.inl y4)), (6, .inr (.inr y6))]) (st' := []) (m2 := (jsL t20.2 (jP t20.2 y0 4) ((y1 * (8 : Int32)) + y9).toNatClampNeg ((jL t20.2 (jP t20.2 y0 4) ((y1 * (8 : Int32)) + y9).toNatClampNeg) + t20.1))) (by decide +kernel) rfl ⟨w21, ⟨w22, jib_ok w23⟩, ⟨w22, jib_ok w24⟩, trivial⟩ ?_
        refine jS.loc' [3, 4, 5, 6, 7, 8, 1, 0] (ls' := [(0, .inr (.inr y0)), (1, .inl y1), (2, .inl y2), (3, .inl y3), (4, .inr (.inl y4)), (6, .inr (.inr y6)), (7, .inr (.inl (y7 + t20.1))), (9, .inl (y9 + (1 : Int32)))]) rfl ?_
        exact hB _ _ _ _ _ _ _ _ _ _ H h2
def c_X2_walkRows_l14 (F : Nat) (G : Nat → jMe → Nat → Int32 → Int32 → Int32 → Int64 → Option (Int64 × jMe)) : Nat → jMe → Nat → Int32 → Int32 → Int32 → Int64 → Nat → Int64 → Int32 → Option (jMe × Int64)
  | 0, _, _, _, _, _, _, _, _, _ => none
  | n + 1, m, y0, y1, y2, y3, y4, y6, y7, y9 => c_X2_walkRows_l14_b F G (fun m y0 y1 y2 y3 y4 y6 y7 y9 => c_X2_walkRows_l14 F G n m y0 y1 y2 y3 y4 y6 y7 y9) m y0 y1 y2 y3 y4 y6 y7 y9
theorem ec_X2_walkRows_l14 {X : jX} {l : Launch} {d : Nat} (O : jOk X) (hd : 3 ≤ d) {F : Nat} {dG : Nat} (hdG : dG < d) {G : Nat → jMe → Nat → Int32 → Int32 → Int32 → Int64 → Option (Int64 × jMe)} (hG : ∀ (q : Nat) (m : jMe) (x0 : Nat) (x1 : Int32) (x2 : Int32) (x3 : Int32) (x4 : Int64) (r : Int64 × jMe), q < 2 → G q m x0 x1 x2 x3 x4 = some r → jH X l dG (jms_X2_walk q) [.inr (.inr x0), .inl x1, .inl x2, .inl x3, .inr (.inl x4)] m (some (.inr (.inl r.1))) r.2) {m0 m' : jMe} {v : Option jAV} : ∀ (n : Nat) {m : jMe} {y0 : Nat} {y1 : Int32} {y2 : Int32} {y3 : Int32} {y4 : Int64} {y6 : Nat} {y7 : Int64} {y9 : Int32} {r : jMe × Int64} (H : c_X2_walkRows_l14 F G n m y0 y1 y2 y3 y4 y6 y7 y9 = some r) (h2 : jS X l d jm_X2_walkRows m0 v m' (116, [(7, .inr (.inl r.2))], [], r.1)), jS X l d jm_X2_walkRows m0 v m' (14, [(0, .inr (.inr y0)), (1, .inl y1), (2, .inl y2), (3, .inl y3), (4, .inr (.inl y4)), (6, .inr (.inr y6)), (7, .inr (.inl y7)), (9, .inl y9)], [], m) := by
  intro n
  induction n with
  | zero =>
    intro m y0 y1 y2 y3 y4 y6 y7 y9 r H h2
    cases (show none = some r from H)
  | succ n ih =>
    intro m y0 y1 y2 y3 y4 y6 y7 y9 r H h2
    exact ec_X2_walkRows_l14_b O hd hdG hG (B := (fun m y0 y1 y2 y3 y4 y6 y7 y9 => c_X2_walkRows_l14 F G n m y0 y1 y2 y3 y4 y6 y7 y9)) (fun m y0 y1 y2 y3 y4 y6 y7 y9 r H h2 => ih H h2) H h2
def c_X2_walkRows_b (F : Nat) (G : Nat → jMe → Nat → Int32 → Int32 → Int32 → Int64 → Option (Int64 × jMe)) (m : jMe) (x0 : Nat) (x1 : Int32) (x2 : Int32) (x3 : Int32) (x4 : Int64) : Option (Int64 × jMe) :=
  jgd (jK m x0 = 34) <| jgd (jK m (jP m x0 12) = 5) <| jgd (jin x1 (jZ m (jP m x0 12)) = true) <| jb (c_X2_walkRows_l14 F G F m x0 x1 x2 x3 x4 (jP m (jP m x0 12) x1.toNatClampNeg) (0 : Int64) (0 : Int32)) fun e26 => some (e26.2, e26.1)
theorem ec_X2_walkRows_b {X : jX} {l : Launch} {d : Nat} (O : jOk X) (hd : 3 ≤ d) {F : Nat} {dG : Nat} (hdG : dG < d) {G : Nat → jMe → Nat → Int32 → Int32 → Int32 → Int64 → Option (Int64 × jMe)} (hG : ∀ (q : Nat) (m : jMe) (x0 : Nat) (x1 : Int32) (x2 : Int32) (x3 : Int32) (x4 : Int64) (r : Int64 × jMe), q < 2 → G q m x0 x1 x2 x3 x4 = some r → jH X l dG (jms_X2_walk q) [.inr (.inr x0), .inl x1, .inl x2, .inl x3, .inr (.inl x4)] m (some (.inr (.inl r.1))) r.2) {m : jMe} {x0 : Nat} {x1 : Int32} {x2 : Int32} {x3 : Int32} {x4 : Int64} {r : Int64 × jMe} (H : c_X2_walkRows_b F G m x0 x1 x2 x3 x4 = some r) : jH X l d jm_X2_walkRows [.inr (.inr x0), .inl x1, .inl x2, .inl x3, .inr (.inl x4)] m (some (.inr (.inl r.1))) r.2 := by
  refine jH.of jpl_RX2 rfl (Nat.le_of_ble_eq_true rfl) ?_
  show jS X l d jm_X2_walkRows m _ _ (0, [(0, .inr (.inr x0)), (1, .inl x1), (2, .inl x2), (3, .inl x3), (4, .inr (.inl x4))], [], m)
  unfold c_X2_walkRows_b at H
  obtain ⟨w1, H⟩ := jgd_ok H
  obtain ⟨w2, H⟩ := jgd_ok H
  obtain ⟨w3, H⟩ := jgd_ok H
  refine jS.adv O [(.aload_n 0, 0, 0, 0, 0, 0, 0), (.getfield 60, 0, 2, 12, 443, 0, 0), (.iload_n 1, 0, 0, 0, 0, 0, 0), (.aaload, 0, 5, 0, 0, 0, 0), (.astore 6, 0, 0, 0, 0, 0, 0), (.lconst 0, 0, 0, 0, 0, 0, (0 : Int64)), (.lstore 7, 0, 0, 0, 0, 0, 0), (.iconst 0, 0, 0, 0, 0, (0 : Int32), 0), (.istore 9, 0, 0, 0, 0, 0, 0)] (pc' := 14) (ls' := [(9, .inl (0 : Int32)), (7, .inr (.inl (0 : Int64))), (6, .inr (.inr (jP m (jP m x0 12) x1.toNatClampNeg))), (0, .inr (.inr x0)), (1, .inl x1), (2, .inl x2), (3, .inl x3), (4, .inr (.inl x4))]) (st' := []) (m2 := m) (by decide +kernel) rfl ⟨w1, ⟨w2, jib_ok w3⟩, trivial⟩ ?_
  refine jS.loc' [3, 4, 5, 6, 7, 2, 1, 0] (ls' := [(0, .inr (.inr x0)), (1, .inl x1), (2, .inl x2), (3, .inl x3), (4, .inr (.inl x4)), (6, .inr (.inr (jP m (jP m x0 12) x1.toNatClampNeg))), (7, .inr (.inl (0 : Int64))), (9, .inl (0 : Int32))]) rfl ?_
  obtain ⟨e26, w27, H⟩ := jb_ok H
  refine ec_X2_walkRows_l14 O hd hdG hG F w27 ?_
  refine jS.adv O [(.lload 7, 0, 0, 0, 0, 0, 0)] (pc' := 118) (ls' := [(7, .inr (.inl e26.2))]) (st' := [.inr (.inl e26.2)]) (m2 := e26.1) (by decide +kernel) rfl trivial ?_
  replace H := Option.some.inj H
  subst H
  exact jS.lret rfl (by decide +kernel)
def c_X2_walk_s (F : Nat) : Nat → Nat → jMe → Nat → Int32 → Int32 → Int32 → Int64 → Option (Int64 × jMe)
  | 0, _, _, _, _, _, _, _ => none
  | k + 1, 0, m, x0, x1, x2, x3, x4 => c_X2_walk_b F (fun q m x0 x1 x2 x3 x4 => c_X2_walk_s F k q m x0 x1 x2 x3 x4) m x0 x1 x2 x3 x4
  | k + 1, 1, m, x0, x1, x2, x3, x4 => c_X2_walkRows_b F (fun q m x0 x1 x2 x3 x4 => c_X2_walk_s F k q m x0 x1 x2 x3 x4) m x0 x1 x2 x3 x4
  | _ + 1, _ + 2, _, _, _, _, _, _ => none
theorem ec_X2_walk_s {X : jX} {l : Launch} (O : jOk X) {F : Nat} : ∀ (k : Nat) {d : Nat} (hd : 3 + k ≤ d) {q : Nat} {m : jMe} {x0 : Nat} {x1 : Int32} {x2 : Int32} {x3 : Int32} {x4 : Int64} {r : Int64 × jMe} (hq : q < 2) (H : c_X2_walk_s F k q m x0 x1 x2 x3 x4 = some r), jH X l d (jms_X2_walk q) [.inr (.inr x0), .inl x1, .inl x2, .inl x3, .inr (.inl x4)] m (some (.inr (.inl r.1))) r.2 := by
  intro k
  induction k with
  | zero =>
    intro d hd q m x0 x1 x2 x3 x4 r hq H
    cases H
  | succ k ih =>
    intro d hd q m x0 x1 x2 x3 x4 r hq H
    match q, hq, H with
    | 0, _, H => exact ec_X2_walk_b O (by omega) (dG := 3 + k) (by omega) (G := fun q m x0 x1 x2 x3 x4 => c_X2_walk_s F k q m x0 x1 x2 x3 x4) (fun q m x0 x1 x2 x3 x4 r hq H => ih (Nat.le_refl _) hq H) H
    | 1, _, H => exact ec_X2_walkRows_b O (by omega) (dG := 3 + k) (by omega) (G := fun q m x0 x1 x2 x3 x4 => c_X2_walk_s F k q m x0 x1 x2 x3 x4) (fun q m x0 x1 x2 x3 x4 r hq H => ih (Nat.le_refl _) hq H) H

def c_X2_tally_j43 (F : Nat) (m : jMe) (y0 : Nat) : Option (Int64 × jMe) :=
  jgd (jK m y0 = 34) <| some ((jL m y0 15), m)
theorem ec_X2_tally_j43 {X : jX} {l : Launch} {d : Nat} (O : jOk X) (hd : 68 ≤ d) {F : Nat} {m0 m : jMe} {y0 : Nat} {r : Int64 × jMe} (H : c_X2_tally_j43 F m y0 = some r) : jS X l d jm_X2_tally m0 (some (.inr (.inl r.1))) r.2 (43, [(0, .inr (.inr y0))], [], m) := by
  unfold c_X2_tally_j43 at H
  obtain ⟨w3, H⟩ := jgd_ok H
  refine jS.adv O [(.aload_n 0, 0, 0, 0, 0, 0, 0), (.getfield 70, 0, 2, 15, 446, 0, 0)] (pc' := 47) (ls' := [(0, .inr (.inr y0))]) (st' := [.inr (.inl (jL m y0 15))]) (m2 := m) (by decide +kernel) rfl ⟨w3, trivial⟩ ?_
  replace H := Option.some.inj H
  subst H
  exact jS.lret rfl (by decide +kernel)
def c_X2_tally_j35 (F : Nat) (m : jMe) (y0 : Nat) (s0 : Int64) (s1 : Nat) : Option (Int64 × jMe) :=
  jgd (jK m s1 = 34) <| jgd (jK m y0 = 34) <| c_X2_tally_j43 F (jsI (jsL m s1 15 s0) y0 14 (1 : Int32)) y0
theorem ec_X2_tally_j35 {X : jX} {l : Launch} {d : Nat} (O : jOk X) (hd : 68 ≤ d) {F : Nat} {m0 m : jMe} {y0 : Nat} {s0 : Int64} {s1 : Nat} {r : Int64 × jMe} (H : c_X2_tally_j35 F m y0 s0 s1 = some r) : jS X l d jm_X2_tally m0 (some (.inr (.inl r.1))) r.2 (35, [(0, .inr (.inr y0))], [.inr (.inl s0), .inr (.inr s1)], m) := by
  unfold c_X2_tally_j35 at H
  obtain ⟨w10, H⟩ := jgd_ok H
  obtain ⟨w11, H⟩ := jgd_ok H
  refine jS.adv O [(.putfield 70, 0, 2, 15, 446, 0, 0), (.aload_n 0, 0, 0, 0, 0, 0, 0), (.iconst 1, 0, 0, 0, 0, (1 : Int32), 0), (.putfield 67, 0, 2, 14, 445, 0, 0)] (pc' := 43) (ls' := [(0, .inr (.inr y0))]) (st' := []) (m2 := (jsI (jsL m s1 15 s0) y0 14 (1 : Int32))) (by decide +kernel) rfl ⟨w10, ⟨w11, Or.inr rfl⟩, trivial⟩ ?_
  refine jS.loc' [0] (ls' := [(0, .inr (.inr y0))]) rfl ?_
  exact ec_X2_tally_j43 O hd H
def c_X2_tally (F : Nat) (m : jMe) (x0 : Nat) : Option (Int64 × jMe) :=
  jgd (jK m x0 = 34) <| (if (jI m x0 14) = 0 then jb (c_J7_fill_d0a16 F m (jP m x0 4) (0 : Int64)) fun t5 => jgd (jK t5 x0 = 34) <| (if (jI t5 x0 13) = 0 then c_X2_tally_j35 F t5 x0 (0 : Int64) x0 else jb (c_X2_walk_s F 64 0 t5 x0 (0 : Int32) (0 : Int32) (0 : Int32) (1 : Int64)) fun t9 => c_X2_tally_j35 F t9.2 x0 t9.1 x0) else c_X2_tally_j43 F m x0)
theorem ec_X2_tally {X : jX} {l : Launch} {d : Nat} (O : jOk X) (hd : 68 ≤ d) {F : Nat} {m : jMe} {x0 : Nat} {r : Int64 × jMe} (H : c_X2_tally F m x0 = some r) : jH X l d jm_X2_tally [.inr (.inr x0)] m (some (.inr (.inl r.1))) r.2 := by
  refine jH.of jpl_RX2 rfl (Nat.le_of_ble_eq_true rfl) ?_
  show jS X l d jm_X2_tally m _ _ (0, [(0, .inr (.inr x0))], [], m)
  unfold c_X2_tally at H
  obtain ⟨w1, H⟩ := jgd_ok H
  refine jS.adv O [(.aload_n 0, 0, 0, 0, 0, 0, 0), (.getfield 67, 0, 2, 14, 445, 0, 0)] (pc' := 4) (ls' := [(0, .inr (.inr x0))]) (st' := [.inl (jI m x0 14)]) (m2 := m) (by decide +kernel) rfl ⟨w1, trivial⟩ ?_
  refine jS.br (i := .ifCond .ne 39) (P := ¬ (jI m x0 14) = 0) (rest := []) rfl (by decide +kernel) (tgt := 43) (by decide) (fun c2 => ?_) (fun c2 => ?_)
  · replace H := jif_f c2 H
    refine jS.loc' [0] (ls' := [(0, .inr (.inr x0))]) rfl ?_
    exact ec_X2_tally_j43 O hd H
  · replace H := jif_t (Classical.not_not.mp c2) H
    refine jS.adv O [(.aload_n 0, 0, 0, 0, 0, 0, 0), (.getfield 28, 0, 2, 4, 431, 0, 0), (.lconst 0, 0, 0, 0, 0, 0, (0 : Int64))] (pc' := 12) (ls' := [(0, .inr (.inr x0))]) (st' := [.inr (.inl (0 : Int64)), .inr (.inr (jP m x0 4))]) (m2 := m) (by decide +kernel) rfl ⟨w1, trivial⟩ ?_
    obtain ⟨t5, w4, H⟩ := jb_ok H
    refine jS.step (c' := (15, [(0, .inr (.inr x0))], [], t5)) (jSt.callS (As := [.inr (.inr (jP m x0 4)), .inr (.inl (0 : Int64))]) (rest := []) O (ec_J7_fill_d0a16 (d := 2) O (Nat.le_refl _) w4) (by omega) jmw_J7_fill_d0a16 jmv_J7_fill_d0a16 jmn_J7_fill_d0a16 (idx := 92) (jW_of 797 (by decide +kernel) rfl) (Nat.le_of_ble_eq_true rfl) (by decide +kernel)) ?_
    obtain ⟨w6, H⟩ := jgd_ok H
    refine jS.adv O [(.aload_n 0, 0, 0, 0, 0, 0, 0), (.aload_n 0, 0, 0, 0, 0, 0, 0), (.getfield 64, 0, 2, 13, 444, 0, 0)] (pc' := 20) (ls' := [(0, .inr (.inr x0))]) (st' := [.inl (jI t5 x0 13), .inr (.inr x0)]) (m2 := t5) (by decide +kernel) rfl ⟨w6, trivial⟩ ?_
    refine jS.br (i := .ifCond .ne 7) (P := ¬ (jI t5 x0 13) = 0) (rest := [.inr (.inr x0)]) rfl (by decide +kernel) (tgt := 27) (by decide) (fun c7 => ?_) (fun c7 => ?_)
    · replace H := jif_f c7 H
      refine jS.adv O [(.aload_n 0, 0, 0, 0, 0, 0, 0), (.iconst 0, 0, 0, 0, 0, (0 : Int32), 0), (.iconst 0, 0, 0, 0, 0, (0 : Int32), 0), (.iconst 0, 0, 0, 0, 0, (0 : Int32), 0), (.lconst 1, 0, 0, 0, 0, 0, (1 : Int64))] (pc' := 32) (ls' := [(0, .inr (.inr x0))]) (st' := [.inr (.inl (1 : Int64)), .inl (0 : Int32), .inl (0 : Int32), .inl (0 : Int32), .inr (.inr x0), .inr (.inr x0)]) (m2 := t5) (by decide +kernel) rfl trivial ?_
      obtain ⟨t9, w8, H⟩ := jb_ok H
      refine jS.step (c' := (35, [(0, .inr (.inr x0))], [.inr (.inl t9.1), .inr (.inr x0)], t9.2)) (jSt.callV (c := 2) (As := [.inl (0 : Int32), .inl (0 : Int32), .inl (0 : Int32), .inr (.inl (1 : Int64))]) (rest := [.inr (.inr x0)]) O (ec_X2_walk_s (d := 67) O 64 (by decide) (q := 0) (by decide) w8) w6 (by decide) rfl (by omega) jmw_X2_walk jmv_X2_walk jmn_X2_walk (idx := 207) (jW_of 1096 (by decide +kernel) rfl) (Nat.le_of_ble_eq_true rfl) (by decide +kernel)) ?_
      refine jS.loc' [0] (ls' := [(0, .inr (.inr x0))]) rfl ?_
      exact ec_X2_tally_j35 O hd H
    · replace H := jif_t (Classical.not_not.mp c7) H
      refine jS.adv O [(.lconst 0, 0, 0, 0, 0, 0, (0 : Int64)), (.goto 11, 0, 35, 0, 0, 0, 0)] (pc' := 35) (ls' := [(0, .inr (.inr x0))]) (st' := [.inr (.inl (0 : Int64)), .inr (.inr x0)]) (m2 := t5) (by decide +kernel) rfl trivial ?_
      refine jS.loc' [0] (ls' := [(0, .inr (.inr x0))]) rfl ?_
      exact ec_X2_tally_j35 O hd H
def c_X2_countWith_j116_l63 (F : Nat) (B : jMe → Nat → Int32 → Int32 → Int64 → Int32 → Int32 → Int32 → Option (jMe × Nat × Int32 × Int32 × Int64 × Int32 × Int32)) (m : jMe) (y0 : Nat) (y1 : Int32) (y2 : Int32) (y3 : Int64) (y5 : Int32) (y6 : Int32) (y7 : Int32) (s0 : Int32) : Option (jMe × Nat × Int32 × Int32 × Int64 × Int32 × Int32) :=
  (if s0 = 0 then B m y0 y1 y2 (y3 + (0 : Int64)) y5 y6 (y7 + (1 : Int32)) else jgd (jK m y0 = 34) <| jgd (jK m (jP m y0 4) = 2) <| jgd (jin ((y6 * (8 : Int32)) + y7) (jZ m (jP m y0 4)) = true) <| B m y0 y1 y2 (y3 + (jL m (jP m y0 4) ((y6 * (8 : Int32)) + y7).toNatClampNeg)) y5 y6 (y7 + (1 : Int32)))
theorem ec_X2_countWith_j116_l63 {X : jX} {l : Launch} {d : Nat} (O : jOk X) (hd : 69 ≤ d) {F : Nat} {m0 m' : jMe} {v : Option jAV} {B : jMe → Nat → Int32 → Int32 → Int64 → Int32 → Int32 → Int32 → Option (jMe × Nat × Int32 × Int32 × Int64 × Int32 × Int32)} (hB : ∀ (m : jMe) (y0 : Nat) (y1 : Int32) (y2 : Int32) (y3 : Int64) (y5 : Int32) (y6 : Int32) (y7 : Int32) (r : jMe × Nat × Int32 × Int32 × Int64 × Int32 × Int32), B m y0 y1 y2 y3 y5 y6 y7 = some r → (jS X l d jm_X2_countWith m0 v m' (149, [(0, .inr (.inr r.2.1)), (1, .inl r.2.2.1), (2, .inl r.2.2.2.1), (3, .inr (.inl r.2.2.2.2.1)), (5, .inl r.2.2.2.2.2.1), (6, .inl r.2.2.2.2.2.2)], [], r.1)) → jS X l d jm_X2_countWith m0 v m' (63, [(0, .inr (.inr y0)), (1, .inl y1), (2, .inl y2), (3, .inr (.inl y3)), (5, .inl y5), (6, .inl y6), (7, .inl y7)], [], m)) {m : jMe} {y0 : Nat} {y1 : Int32} {y2 : Int32} {y3 : Int64} {y5 : Int32} {y6 : Int32} {y7 : Int32} {s0 : Int32} {r : jMe × Nat × Int32 × Int32 × Int64 × Int32 × Int32} (H : c_X2_countWith_j116_l63 F B m y0 y1 y2 y3 y5 y6 y7 s0 = some r) (h2 : jS X l d jm_X2_countWith m0 v m' (149, [(0, .inr (.inr r.2.1)), (1, .inl r.2.2.1), (2, .inl r.2.2.2.1), (3, .inr (.inl r.2.2.2.2.1)), (5, .inl r.2.2.2.2.2.1), (6, .inl r.2.2.2.2.2.2)], [], r.1)) : jS X l d jm_X2_countWith m0 v m' (116, [(0, .inr (.inr y0)), (1, .inl y1), (2, .inl y2), (3, .inr (.inl y3)), (5, .inl y5), (6, .inl y6), (7, .inl y7)], [.inl s0], m) := by
  unfold c_X2_countWith_j116_l63 at H
  refine jS.adv O [(.istore 8, 0, 0, 0, 0, 0, 0), (.lload_n 3, 0, 0, 0, 0, 0, 0), (.iload 8, 0, 0, 0, 0, 0, 0)] (pc' := 121) (ls' := [(8, .inl s0), (0, .inr (.inr y0)), (1, .inl y1), (2, .inl y2), (3, .inr (.inl y3)), (5, .inl y5), (6, .inl y6), (7, .inl y7)]) (st' := [.inl s0, .inr (.inl y3)]) (m2 := m) (by decide +kernel) rfl trivial ?_
  refine jS.br (i := .ifCond .eq 19) (P := s0 = 0) (rest := [.inr (.inl y3)]) rfl (by decide +kernel) (tgt := 140) (by decide) (fun c23 => ?_) (fun c23 => ?_)
  · replace H := jif_t c23 H
    refine jS.adv O [(.lconst 0, 0, 0, 0, 0, 0, (0 : Int64)), (.ladd, 0, 0, 0, 0, 0, 0), (.lstore_n 3, 0, 0, 0, 0, 0, 0), (.iinc 7 1, 0, 0, 0, 0, (1 : Int32), 0), (.goto (-83), 0, 63, 0, 0, 0, 0)] (pc' := 63) (ls' := [(7, .inl (y7 + (1 : Int32))), (3, .inr (.inl (y3 + (0 : Int64)))), (8, .inl s0), (0, .inr (.inr y0)), (1, .inl y1), (2, .inl y2), (5, .inl y5), (6, .inl y6)]) (st' := []) (m2 := m) (by decide +kernel) rfl trivial ?_
    refine jS.loc' [3, 4, 5, 1, 6, 7, 0] (ls' := [(0, .inr (.inr y0)), (1, .inl y1), (2, .inl y2), (3, .inr (.inl (y3 + (0 : Int64)))), (5, .inl y5), (6, .inl y6), (7, .inl (y7 + (1 : Int32)))]) rfl ?_
    exact hB _ _ _ _ _ _ _ _ _ H h2
  · replace H := jif_f c23 H
    obtain ⟨w24, H⟩ := jgd_ok H
    obtain ⟨w25, H⟩ := jgd_ok H
    obtain ⟨w26, H⟩ := jgd_ok H
    refine jS.adv O [(.aload_n 0, 0, 0, 0, 0, 0, 0), (.getfield 28, 0, 2, 4, 431, 0, 0), (.iload 6, 0, 0, 0, 0, 0, 0), (.bipush 8, 0, 0, 0, 0, (8 : Int32), 0), (.imul, 0, 0, 0, 0, 0, 0), (.iload 7, 0, 0, 0, 0, 0, 0), (.iadd, 0, 0, 0, 0, 0, 0), (.laload, 0, 0, 0, 0, 0, 0), (.goto 4, 0, 141, 0, 0, 0, 0), (.ladd, 0, 0, 0, 0, 0, 0), (.lstore_n 3, 0, 0, 0, 0, 0, 0), (.iinc 7 1, 0, 0, 0, 0, (1 : Int32), 0), (.goto (-83), 0, 63, 0, 0, 0, 0)] (pc' := 63) (ls' := [(7, .inl (y7 + (1 : Int32))), (3, .inr (.inl (y3 + (jL m (jP m y0 4) ((y6 * (8 : Int32)) + y7).toNatClampNeg)))), (8, .inl s0), (0, .inr (.inr y0)), (1, .inl y1), (2, .inl y2), (5, .inl y5), (6, .inl y6)]) (st' := []) (m2 := m) (by decide +kernel) rfl ⟨w24, ⟨w25, jib_ok w26⟩, trivial⟩ ?_
    refine jS.loc' [3, 4, 5, 1, 6, 7, 0] (ls' := [(0, .inr (.inr y0)), (1, .inl y1), (2, .inl y2), (3, .inr (.inl (y3 + (jL m (jP m y0 4) ((y6 * (8 : Int32)) + y7).toNatClampNeg)))), (5, .inl y5), (6, .inl y6), (7, .inl (y7 + (1 : Int32)))]) rfl ?_
    exact hB _ _ _ _ _ _ _ _ _ H h2
def c_X2_countWith_l63_b (F : Nat) (B : jMe → Nat → Int32 → Int32 → Int64 → Int32 → Int32 → Int32 → Option (jMe × Nat × Int32 × Int32 × Int64 × Int32 × Int32)) (m : jMe) (y0 : Nat) (y1 : Int32) (y2 : Int32) (y3 : Int64) (y5 : Int32) (y6 : Int32) (y7 : Int32) : Option (jMe × Nat × Int32 × Int32 × Int64 × Int32 × Int32) :=
  (if y5 = 0 then some (m, y0, y1, y2, y3, y5, y6) else jgd (jK m y0 = 34) <| jgd (jK m (jP m y0 12) = 5) <| jgd (jin y6 (jZ m (jP m y0 12)) = true) <| jgd (jK m (jP m (jP m y0 12) y6.toNatClampNeg) = 36) <| (if (jI m (jP m (jP m y0 12) y6.toNatClampNeg) 5) ≤ y7 then some (m, y0, y1, y2, y3, y5, y6) else jgd (jin y6 (jZ m (jP m y0 12)) = true) <| jgd (jin y6 (jZ m (jP m y0 12)) = true) <| jgd (jK m (jP m (jP m (jP m y0 12) y6.toNatClampNeg) 0) = 1) <| jgd (jin y7 (jZ m (jP m (jP m (jP m y0 12) y6.toNatClampNeg) 0)) = true) <| jb (c_X4_valueAt F m (jP m (jP m y0 12) y6.toNatClampNeg) (jI m (jP m (jP m (jP m y0 12) y6.toNatClampNeg) 0) y7.toNatClampNeg) y1) fun t21 => (if t21 = y2 then c_X2_countWith_j116_l63 F B m y0 y1 y2 y3 y5 y6 y7 (1 : Int32) else c_X2_countWith_j116_l63 F B m y0 y1 y2 y3 y5 y6 y7 (0 : Int32))))
theorem ec_X2_countWith_l63_b {X : jX} {l : Launch} {d : Nat} (O : jOk X) (hd : 69 ≤ d) {F : Nat} {m0 m' : jMe} {v : Option jAV} {B : jMe → Nat → Int32 → Int32 → Int64 → Int32 → Int32 → Int32 → Option (jMe × Nat × Int32 × Int32 × Int64 × Int32 × Int32)} (hB : ∀ (m : jMe) (y0 : Nat) (y1 : Int32) (y2 : Int32) (y3 : Int64) (y5 : Int32) (y6 : Int32) (y7 : Int32) (r : jMe × Nat × Int32 × Int32 × Int64 × Int32 × Int32), B m y0 y1 y2 y3 y5 y6 y7 = some r → (jS X l d jm_X2_countWith m0 v m' (149, [(0, .inr (.inr r.2.1)), (1, .inl r.2.2.1), (2, .inl r.2.2.2.1), (3, .inr (.inl r.2.2.2.2.1)), (5, .inl r.2.2.2.2.2.1), (6, .inl r.2.2.2.2.2.2)], [], r.1)) → jS X l d jm_X2_countWith m0 v m' (63, [(0, .inr (.inr y0)), (1, .inl y1), (2, .inl y2), (3, .inr (.inl y3)), (5, .inl y5), (6, .inl y6), (7, .inl y7)], [], m)) {m : jMe} {y0 : Nat} {y1 : Int32} {y2 : Int32} {y3 : Int64} {y5 : Int32} {y6 : Int32} {y7 : Int32} {r : jMe × Nat × Int32 × Int32 × Int64 × Int32 × Int32} (H : c_X2_countWith_l63_b F B m y0 y1 y2 y3 y5 y6 y7 = some r) (h2 : jS X l d jm_X2_countWith m0 v m' (149, [(0, .inr (.inr r.2.1)), (1, .inl r.2.2.1), (2, .inl r.2.2.2.1), (3, .inr (.inl r.2.2.2.2.1)), (5, .inl r.2.2.2.2.2.1), (6, .inl r.2.2.2.2.2.2)], [], r.1)) : jS X l d jm_X2_countWith m0 v m' (63, [(0, .inr (.inr y0)), (1, .inl y1), (2, .inl y2), (3, .inr (.inl y3)), (5, .inl y5), (6, .inl y6), (7, .inl y7)], [], m) := by
  unfold c_X2_countWith_l63_b at H
  refine jS.adv O [(.iload 5, 0, 0, 0, 0, 0, 0)] (pc' := 65) (ls' := [(0, .inr (.inr y0)), (1, .inl y1), (2, .inl y2), (3, .inr (.inl y3)), (5, .inl y5), (6, .inl y6), (7, .inl y7)]) (st' := [.inl y5]) (m2 := m) (by decide +kernel) rfl trivial ?_
  refine jS.br (i := .ifCond .eq 84) (P := y5 = 0) (rest := []) rfl (by decide +kernel) (tgt := 149) (by decide) (fun c10 => ?_) (fun c10 => ?_)
  · replace H := jif_t c10 H
    replace H := Option.some.inj H
    subst H
    refine jS.loc' [0, 1, 2, 3, 4, 5] (ls' := [(0, .inr (.inr y0)), (1, .inl y1), (2, .inl y2), (3, .inr (.inl y3)), (5, .inl y5), (6, .inl y6)]) rfl ?_
    exact h2
  · replace H := jif_f c10 H
    obtain ⟨w11, H⟩ := jgd_ok H
    obtain ⟨w12, H⟩ := jgd_ok H
    obtain ⟨w13, H⟩ := jgd_ok H
    obtain ⟨w14, H⟩ := jgd_ok H
    refine jS.adv O [(.iload 7, 0, 0, 0, 0, 0, 0), (.aload_n 0, 0, 0, 0, 0, 0, 0), (.getfield 60, 0, 2, 12, 443, 0, 0), (.iload 6, 0, 0, 0, 0, 0, 0), (.aaload, 0, 5, 0, 0, 0, 0), (.getfield 120, 0, 4, 5, 509, 0, 0)] (pc' := 80) (ls' := [(0, .inr (.inr y0)), (1, .inl y1), (2, .inl y2), (3, .inr (.inl y3)), (5, .inl y5), (6, .inl y6), (7, .inl y7)]) (st' := [.inl (jI m (jP m (jP m y0 12) y6.toNatClampNeg) 5), .inl y7]) (m2 := m) (by decide +kernel) rfl ⟨w11, ⟨w12, jib_ok w13⟩, w14, trivial⟩ ?_
    refine jS.br (i := .if_icmp .ge 69) (P := (jI m (jP m (jP m y0 12) y6.toNatClampNeg) 5) ≤ y7) (rest := []) rfl (by decide +kernel) (tgt := 149) (by decide) (fun c15 => ?_) (fun c15 => ?_)
    · replace H := jif_t c15 H
      replace H := Option.some.inj H
      subst H
      refine jS.loc' [0, 1, 2, 3, 4, 5] (ls' := [(0, .inr (.inr y0)), (1, .inl y1), (2, .inl y2), (3, .inr (.inl y3)), (5, .inl y5), (6, .inl y6)]) rfl ?_
      exact h2
    · replace H := jif_f c15 H
      obtain ⟨w16, H⟩ := jgd_ok H
      obtain ⟨w17, H⟩ := jgd_ok H
      obtain ⟨w18, H⟩ := jgd_ok H
      obtain ⟨w19, H⟩ := jgd_ok H
      refine jS.adv O [(.aload_n 0, 0, 0, 0, 0, 0, 0), (.getfield 60, 0, 2, 12, 443, 0, 0), (.iload 6, 0, 0, 0, 0, 0, 0), (.aaload, 0, 5, 0, 0, 0, 0), (.aload_n 0, 0, 0, 0, 0, 0, 0), (.getfield 60, 0, 2, 12, 443, 0, 0), (.iload 6, 0, 0, 0, 0, 0, 0), (.aaload, 0, 5, 0, 0, 0, 0), (.getfield 130, 0, 4, 0, 494, 0, 0), (.iload 7, 0, 0, 0, 0, 0, 0), (.iaload, 0, 1, 0, 0, 0, 0), (.iload_n 1, 0, 0, 0, 0, 0, 0)] (pc' := 104) (ls' := [(0, .inr (.inr y0)), (1, .inl y1), (2, .inl y2), (3, .inr (.inl y3)), (5, .inl y5), (6, .inl y6), (7, .inl y7)]) (st' := [.inl y1, .inl (jI m (jP m (jP m (jP m y0 12) y6.toNatClampNeg) 0) y7.toNatClampNeg), .inr (.inr (jP m (jP m y0 12) y6.toNatClampNeg))]) (m2 := m) (by decide +kernel) rfl ⟨w11, ⟨w12, jib_ok w16⟩, w11, ⟨w12, jib_ok w17⟩, w14, ⟨w18, jib_ok w19⟩, trivial⟩ ?_
      obtain ⟨t21, w20, H⟩ := jb_ok H
      refine jS.step (c' := (107, [(0, .inr (.inr y0)), (1, .inl y1), (2, .inl y2), (3, .inr (.inl y3)), (5, .inl y5), (6, .inl y6), (7, .inl y7)], [.inl t21], m)) (jSt.callV (c := 4) (As := [.inl (jI m (jP m (jP m (jP m y0 12) y6.toNatClampNeg) 0) y7.toNatClampNeg), .inl y1]) (rest := []) O (ec_X4_valueAt (d := 2) O (Nat.le_refl _) w20) w14 (by decide) rfl (by omega) jmw_X4_valueAt jmv_X4_valueAt jmn_X4_valueAt (idx := 221) (jW_of 1217 (by decide +kernel) rfl) (Nat.le_of_ble_eq_true rfl) (by decide +kernel)) ?_
      refine jS.adv O [(.iload_n 2, 0, 0, 0, 0, 0, 0)] (pc' := 108) (ls' := [(0, .inr (.inr y0)), (1, .inl y1), (2, .inl y2), (3, .inr (.inl y3)), (5, .inl y5), (6, .inl y6), (7, .inl y7)]) (st' := [.inl y2, .inl t21]) (m2 := m) (by decide +kernel) rfl trivial ?_
      refine jS.br (i := .if_icmp .ne 7) (P := ¬ t21 = y2) (rest := []) rfl (by decide +kernel) (tgt := 115) (by decide) (fun c22 => ?_) (fun c22 => ?_)
      · replace H := jif_f c22 H
        refine jS.adv O [(.iconst 0, 0, 0, 0, 0, (0 : Int32), 0)] (pc' := 116) (ls' := [(0, .inr (.inr y0)), (1, .inl y1), (2, .inl y2), (3, .inr (.inl y3)), (5, .inl y5), (6, .inl y6), (7, .inl y7)]) (st' := [.inl (0 : Int32)]) (m2 := m) (by decide +kernel) rfl trivial ?_
        refine jS.loc' [0, 1, 2, 3, 4, 5, 6] (ls' := [(0, .inr (.inr y0)), (1, .inl y1), (2, .inl y2), (3, .inr (.inl y3)), (5, .inl y5), (6, .inl y6), (7, .inl y7)]) rfl ?_
        exact ec_X2_countWith_j116_l63 O hd hB H h2
      · replace H := jif_t (Classical.not_not.mp c22) H
        refine jS.adv O [(.iconst 1, 0, 0, 0, 0, (1 : Int32), 0), (.goto 4, 0, 116, 0, 0, 0, 0)] (pc' := 116) (ls' := [(0, .inr (.inr y0)), (1, .inl y1), (2, .inl y2), (3, .inr (.inl y3)), (5, .inl y5), (6, .inl y6), (7, .inl y7)]) (st' := [.inl (1 : Int32)]) (m2 := m) (by decide +kernel) rfl trivial ?_
        refine jS.loc' [0, 1, 2, 3, 4, 5, 6] (ls' := [(0, .inr (.inr y0)), (1, .inl y1), (2, .inl y2), (3, .inr (.inl y3)), (5, .inl y5), (6, .inl y6), (7, .inl y7)]) rfl ?_
        exact ec_X2_countWith_j116_l63 O hd hB H h2
def c_X2_countWith_l63 (F : Nat) : Nat → jMe → Nat → Int32 → Int32 → Int64 → Int32 → Int32 → Int32 → Option (jMe × Nat × Int32 × Int32 × Int64 × Int32 × Int32)
  | 0, _, _, _, _, _, _, _, _ => none
  | n + 1, m, y0, y1, y2, y3, y5, y6, y7 => c_X2_countWith_l63_b F (fun m y0 y1 y2 y3 y5 y6 y7 => c_X2_countWith_l63 F n m y0 y1 y2 y3 y5 y6 y7) m y0 y1 y2 y3 y5 y6 y7
theorem ec_X2_countWith_l63 {X : jX} {l : Launch} {d : Nat} (O : jOk X) (hd : 69 ≤ d) {F : Nat} {m0 m' : jMe} {v : Option jAV} : ∀ (n : Nat) {m : jMe} {y0 : Nat} {y1 : Int32} {y2 : Int32} {y3 : Int64} {y5 : Int32} {y6 : Int32} {y7 : Int32} {r : jMe × Nat × Int32 × Int32 × Int64 × Int32 × Int32} (H : c_X2_countWith_l63 F n m y0 y1 y2 y3 y5 y6 y7 = some r) (h2 : jS X l d jm_X2_countWith m0 v m' (149, [(0, .inr (.inr r.2.1)), (1, .inl r.2.2.1), (2, .inl r.2.2.2.1), (3, .inr (.inl r.2.2.2.2.1)), (5, .inl r.2.2.2.2.2.1), (6, .inl r.2.2.2.2.2.2)], [], r.1)), jS X l d jm_X2_countWith m0 v m' (63, [(0, .inr (.inr y0)), (1, .inl y1), (2, .inl y2), (3, .inr (.inl y3)), (5, .inl y5), (6, .inl y6), (7, .inl y7)], [], m) := by
  intro n
  induction n with
  | zero =>
    intro m y0 y1 y2 y3 y5 y6 y7 r H h2
    cases (show none = some r from H)
  | succ n ih =>
    intro m y0 y1 y2 y3 y5 y6 y7 r H h2
    exact ec_X2_countWith_l63_b O hd (B := (fun m y0 y1 y2 y3 y5 y6 y7 => c_X2_countWith_l63 F n m y0 y1 y2 y3 y5 y6 y7)) (fun m y0 y1 y2 y3 y5 y6 y7 r H h2 => ih H h2) H h2
def c_X2_countWith_l13_b (F : Nat) (B : jMe → Nat → Int32 → Int32 → Int64 → Int32 → Int32 → Option (jMe × Int64)) (m : jMe) (y0 : Nat) (y1 : Int32) (y2 : Int32) (y3 : Int64) (y5 : Int32) (y6 : Int32) : Option (jMe × Int64) :=
  (if (4 : Int32) ≤ y6 then some (m, y3) else (if y5 = 0 then jgd (jK m y0 = 34) <| jb (c_X9_isIn F m (jI m y0 13) y6) fun t8 => (if t8 = 0 then jb (c_X2_countWith_l63 F F m y0 y1 y2 y3 (0 : Int32) y6 (0 : Int32)) fun e28 => B e28.1 e28.2.1 e28.2.2.1 e28.2.2.2.1 e28.2.2.2.2.1 e28.2.2.2.2.2.1 (e28.2.2.2.2.2.2 + (1 : Int32)) else jgd (jK m (jP m y0 12) = 5) <| jgd (jin y6 (jZ m (jP m y0 12)) = true) <| jgd (jK m (jP m (jP m y0 12) y6.toNatClampNeg) = 36) <| jb (c_X9_isIn F m (jI m (jP m (jP m y0 12) y6.toNatClampNeg) 3) y1) fun t34 => (if t34 = 0 then jb (c_X2_countWith_l63 F F m y0 y1 y2 y3 (0 : Int32) y6 (0 : Int32)) fun e37 => B e37.1 e37.2.1 e37.2.2.1 e37.2.2.2.1 e37.2.2.2.2.1 e37.2.2.2.2.2.1 (e37.2.2.2.2.2.2 + (1 : Int32)) else jb (c_X2_countWith_l63 F F m y0 y1 y2 y3 (1 : Int32) y6 (0 : Int32)) fun e40 => B e40.1 e40.2.1 e40.2.2.1 e40.2.2.2.1 e40.2.2.2.2.1 e40.2.2.2.2.2.1 (e40.2.2.2.2.2.2 + (1 : Int32)))) else some (m, y3)))
theorem ec_X2_countWith_l13_b {X : jX} {l : Launch} {d : Nat} (O : jOk X) (hd : 69 ≤ d) {F : Nat} {m0 m' : jMe} {v : Option jAV} {B : jMe → Nat → Int32 → Int32 → Int64 → Int32 → Int32 → Option (jMe × Int64)} (hB : ∀ (m : jMe) (y0 : Nat) (y1 : Int32) (y2 : Int32) (y3 : Int64) (y5 : Int32) (y6 : Int32) (r : jMe × Int64), B m y0 y1 y2 y3 y5 y6 = some r → (jS X l d jm_X2_countWith m0 v m' (155, [(3, .inr (.inl r.2))], [], r.1)) → jS X l d jm_X2_countWith m0 v m' (13, [(0, .inr (.inr y0)), (1, .inl y1), (2, .inl y2), (3, .inr (.inl y3)), (5, .inl y5), (6, .inl y6)], [], m)) {m : jMe} {y0 : Nat} {y1 : Int32} {y2 : Int32} {y3 : Int64} {y5 : Int32} {y6 : Int32} {r : jMe × Int64} (H : c_X2_countWith_l13_b F B m y0 y1 y2 y3 y5 y6 = some r) (h2 : jS X l d jm_X2_countWith m0 v m' (155, [(3, .inr (.inl r.2))], [], r.1)) : jS X l d jm_X2_countWith m0 v m' (13, [(0, .inr (.inr y0)), (1, .inl y1), (2, .inl y2), (3, .inr (.inl y3)), (5, .inl y5), (6, .inl y6)], [], m) := by
  unfold c_X2_countWith_l13_b at H
  refine jS.adv O [(.iload 6, 0, 0, 0, 0, 0, 0), (.iconst 4, 0, 0, 0, 0, (4 : Int32), 0)] (pc' := 16) (ls' := [(0, .inr (.inr y0)), (1, .inl y1), (2, .inl y2), (3, .inr (.inl y3)), (5, .inl y5), (6, .inl y6)]) (st' := [.inl (4 : Int32), .inl y6]) (m2 := m) (by decide +kernel) rfl trivial ?_
  refine jS.br (i := .if_icmp .ge 139) (P := (4 : Int32) ≤ y6) (rest := []) rfl (by decide +kernel) (tgt := 155) (by decide) (fun c4 => ?_) (fun c4 => ?_)
  · replace H := jif_t c4 H
    replace H := Option.some.inj H
    subst H
    refine jS.loc' [3] (ls' := [(3, .inr (.inl y3))]) rfl ?_
    exact h2
  · replace H := jif_f c4 H
    refine jS.adv O [(.iload 5, 0, 0, 0, 0, 0, 0)] (pc' := 21) (ls' := [(0, .inr (.inr y0)), (1, .inl y1), (2, .inl y2), (3, .inr (.inl y3)), (5, .inl y5), (6, .inl y6)]) (st' := [.inl y5]) (m2 := m) (by decide +kernel) rfl trivial ?_
    refine jS.br (i := .ifCond .ne 134) (P := ¬ y5 = 0) (rest := []) rfl (by decide +kernel) (tgt := 155) (by decide) (fun c5 => ?_) (fun c5 => ?_)
    · replace H := jif_f c5 H
      replace H := Option.some.inj H
      subst H
      refine jS.loc' [3] (ls' := [(3, .inr (.inl y3))]) rfl ?_
      exact h2
    · replace H := jif_t (Classical.not_not.mp c5) H
      obtain ⟨w6, H⟩ := jgd_ok H
      refine jS.adv O [(.aload_n 0, 0, 0, 0, 0, 0, 0), (.getfield 64, 0, 2, 13, 444, 0, 0), (.iload 6, 0, 0, 0, 0, 0, 0)] (pc' := 30) (ls' := [(0, .inr (.inr y0)), (1, .inl y1), (2, .inl y2), (3, .inr (.inl y3)), (5, .inl y5), (6, .inl y6)]) (st' := [.inl y6, .inl (jI m y0 13)]) (m2 := m) (by decide +kernel) rfl ⟨w6, trivial⟩ ?_
      obtain ⟨t8, w7, H⟩ := jb_ok H
      refine jS.step (c' := (33, [(0, .inr (.inr y0)), (1, .inl y1), (2, .inl y2), (3, .inr (.inl y3)), (5, .inl y5), (6, .inl y6)], [.inl t8], m)) (jSt.callSN (As := [.inl (jI m y0 13), .inl y6]) (rest := []) O (ec_X9_isIn (d := 2) O (Nat.le_refl _) w7) (by omega) jmw_X9_isIn jmv_X9_isIn jmn_X9_isIn (host := "JoinDraws") (idx := 83) jln_JoinDraws_Join_83 (Nat.le_of_ble_eq_true rfl) (by decide +kernel)) ?_
      refine jS.br (i := .ifCond .eq 24) (P := t8 = 0) (rest := []) rfl (by decide +kernel) (tgt := 57) (by decide) (fun c9 => ?_) (fun c9 => ?_)
      · replace H := jif_t c9 H
        refine jS.adv O [(.iconst 0, 0, 0, 0, 0, (0 : Int32), 0), (.istore 5, 0, 0, 0, 0, 0, 0), (.iconst 0, 0, 0, 0, 0, (0 : Int32), 0), (.istore 7, 0, 0, 0, 0, 0, 0)] (pc' := 63) (ls' := [(7, .inl (0 : Int32)), (5, .inl (0 : Int32)), (0, .inr (.inr y0)), (1, .inl y1), (2, .inl y2), (3, .inr (.inl y3)), (6, .inl y6)]) (st' := []) (m2 := m) (by decide +kernel) rfl trivial ?_
        refine jS.loc' [2, 3, 4, 5, 1, 6, 0] (ls' := [(0, .inr (.inr y0)), (1, .inl y1), (2, .inl y2), (3, .inr (.inl y3)), (5, .inl (0 : Int32)), (6, .inl y6), (7, .inl (0 : Int32))]) rfl ?_
        obtain ⟨e28, w29, H⟩ := jb_ok H
        refine ec_X2_countWith_l63 O hd F w29 ?_
        refine jS.adv O [(.iinc 6 1, 0, 0, 0, 0, (1 : Int32), 0), (.goto (-139), 0, 13, 0, 0, 0, 0)] (pc' := 13) (ls' := [(6, .inl (e28.2.2.2.2.2.2 + (1 : Int32))), (0, .inr (.inr e28.2.1)), (1, .inl e28.2.2.1), (2, .inl e28.2.2.2.1), (3, .inr (.inl e28.2.2.2.2.1)), (5, .inl e28.2.2.2.2.2.1)]) (st' := []) (m2 := e28.1) (by decide +kernel) rfl trivial ?_
        refine jS.loc' [1, 2, 3, 4, 5, 0] (ls' := [(0, .inr (.inr e28.2.1)), (1, .inl e28.2.2.1), (2, .inl e28.2.2.2.1), (3, .inr (.inl e28.2.2.2.2.1)), (5, .inl e28.2.2.2.2.2.1), (6, .inl (e28.2.2.2.2.2.2 + (1 : Int32)))]) rfl ?_
        exact hB _ _ _ _ _ _ _ _ H h2
      · replace H := jif_f c9 H
        obtain ⟨w30, H⟩ := jgd_ok H
        obtain ⟨w31, H⟩ := jgd_ok H
        obtain ⟨w32, H⟩ := jgd_ok H
        refine jS.adv O [(.aload_n 0, 0, 0, 0, 0, 0, 0), (.getfield 60, 0, 2, 12, 443, 0, 0), (.iload 6, 0, 0, 0, 0, 0, 0), (.aaload, 0, 5, 0, 0, 0, 0), (.getfield 218, 0, 4, 3, 504, 0, 0), (.iload_n 1, 0, 0, 0, 0, 0, 0)] (pc' := 47) (ls' := [(0, .inr (.inr y0)), (1, .inl y1), (2, .inl y2), (3, .inr (.inl y3)), (5, .inl y5), (6, .inl y6)]) (st' := [.inl y1, .inl (jI m (jP m (jP m y0 12) y6.toNatClampNeg) 3)]) (m2 := m) (by decide +kernel) rfl ⟨w6, ⟨w30, jib_ok w31⟩, w32, trivial⟩ ?_
        obtain ⟨t34, w33, H⟩ := jb_ok H
        refine jS.step (c' := (50, [(0, .inr (.inr y0)), (1, .inl y1), (2, .inl y2), (3, .inr (.inl y3)), (5, .inl y5), (6, .inl y6)], [.inl t34], m)) (jSt.callSN (As := [.inl (jI m (jP m (jP m y0 12) y6.toNatClampNeg) 3), .inl y1]) (rest := []) O (ec_X9_isIn (d := 2) O (Nat.le_refl _) w33) (by omega) jmw_X9_isIn jmv_X9_isIn jmn_X9_isIn (host := "JoinDraws") (idx := 83) jln_JoinDraws_Join_83 (Nat.le_of_ble_eq_true rfl) (by decide +kernel)) ?_
        refine jS.br (i := .ifCond .eq 7) (P := t34 = 0) (rest := []) rfl (by decide +kernel) (tgt := 57) (by decide) (fun c35 => ?_) (fun c35 => ?_)
        · replace H := jif_t c35 H
          refine jS.adv O [(.iconst 0, 0, 0, 0, 0, (0 : Int32), 0), (.istore 5, 0, 0, 0, 0, 0, 0), (.iconst 0, 0, 0, 0, 0, (0 : Int32), 0), (.istore 7, 0, 0, 0, 0, 0, 0)] (pc' := 63) (ls' := [(7, .inl (0 : Int32)), (5, .inl (0 : Int32)), (0, .inr (.inr y0)), (1, .inl y1), (2, .inl y2), (3, .inr (.inl y3)), (6, .inl y6)]) (st' := []) (m2 := m) (by decide +kernel) rfl trivial ?_
          refine jS.loc' [2, 3, 4, 5, 1, 6, 0] (ls' := [(0, .inr (.inr y0)), (1, .inl y1), (2, .inl y2), (3, .inr (.inl y3)), (5, .inl (0 : Int32)), (6, .inl y6), (7, .inl (0 : Int32))]) rfl ?_
          obtain ⟨e37, w38, H⟩ := jb_ok H
          refine ec_X2_countWith_l63 O hd F w38 ?_
          refine jS.adv O [(.iinc 6 1, 0, 0, 0, 0, (1 : Int32), 0), (.goto (-139), 0, 13, 0, 0, 0, 0)] (pc' := 13) (ls' := [(6, .inl (e37.2.2.2.2.2.2 + (1 : Int32))), (0, .inr (.inr e37.2.1)), (1, .inl e37.2.2.1), (2, .inl e37.2.2.2.1), (3, .inr (.inl e37.2.2.2.2.1)), (5, .inl e37.2.2.2.2.2.1)]) (st' := []) (m2 := e37.1) (by decide +kernel) rfl trivial ?_
          refine jS.loc' [1, 2, 3, 4, 5, 0] (ls' := [(0, .inr (.inr e37.2.1)), (1, .inl e37.2.2.1), (2, .inl e37.2.2.2.1), (3, .inr (.inl e37.2.2.2.2.1)), (5, .inl e37.2.2.2.2.2.1), (6, .inl (e37.2.2.2.2.2.2 + (1 : Int32)))]) rfl ?_
          exact hB _ _ _ _ _ _ _ _ H h2
        · replace H := jif_f c35 H
          refine jS.adv O [(.iconst 1, 0, 0, 0, 0, (1 : Int32), 0), (.goto 4, 0, 58, 0, 0, 0, 0), (.istore 5, 0, 0, 0, 0, 0, 0), (.iconst 0, 0, 0, 0, 0, (0 : Int32), 0), (.istore 7, 0, 0, 0, 0, 0, 0)] (pc' := 63) (ls' := [(7, .inl (0 : Int32)), (5, .inl (1 : Int32)), (0, .inr (.inr y0)), (1, .inl y1), (2, .inl y2), (3, .inr (.inl y3)), (6, .inl y6)]) (st' := []) (m2 := m) (by decide +kernel) rfl trivial ?_
          refine jS.loc' [2, 3, 4, 5, 1, 6, 0] (ls' := [(0, .inr (.inr y0)), (1, .inl y1), (2, .inl y2), (3, .inr (.inl y3)), (5, .inl (1 : Int32)), (6, .inl y6), (7, .inl (0 : Int32))]) rfl ?_
          obtain ⟨e40, w41, H⟩ := jb_ok H
          refine ec_X2_countWith_l63 O hd F w41 ?_
          refine jS.adv O [(.iinc 6 1, 0, 0, 0, 0, (1 : Int32), 0), (.goto (-139), 0, 13, 0, 0, 0, 0)] (pc' := 13) (ls' := [(6, .inl (e40.2.2.2.2.2.2 + (1 : Int32))), (0, .inr (.inr e40.2.1)), (1, .inl e40.2.2.1), (2, .inl e40.2.2.2.1), (3, .inr (.inl e40.2.2.2.2.1)), (5, .inl e40.2.2.2.2.2.1)]) (st' := []) (m2 := e40.1) (by decide +kernel) rfl trivial ?_
          refine jS.loc' [1, 2, 3, 4, 5, 0] (ls' := [(0, .inr (.inr e40.2.1)), (1, .inl e40.2.2.1), (2, .inl e40.2.2.2.1), (3, .inr (.inl e40.2.2.2.2.1)), (5, .inl e40.2.2.2.2.2.1), (6, .inl (e40.2.2.2.2.2.2 + (1 : Int32)))]) rfl ?_
          exact hB _ _ _ _ _ _ _ _ H h2
def c_X2_countWith_l13 (F : Nat) : Nat → jMe → Nat → Int32 → Int32 → Int64 → Int32 → Int32 → Option (jMe × Int64)
  | 0, _, _, _, _, _, _, _ => none
  | n + 1, m, y0, y1, y2, y3, y5, y6 => c_X2_countWith_l13_b F (fun m y0 y1 y2 y3 y5 y6 => c_X2_countWith_l13 F n m y0 y1 y2 y3 y5 y6) m y0 y1 y2 y3 y5 y6
theorem ec_X2_countWith_l13 {X : jX} {l : Launch} {d : Nat} (O : jOk X) (hd : 69 ≤ d) {F : Nat} {m0 m' : jMe} {v : Option jAV} : ∀ (n : Nat) {m : jMe} {y0 : Nat} {y1 : Int32} {y2 : Int32} {y3 : Int64} {y5 : Int32} {y6 : Int32} {r : jMe × Int64} (H : c_X2_countWith_l13 F n m y0 y1 y2 y3 y5 y6 = some r) (h2 : jS X l d jm_X2_countWith m0 v m' (155, [(3, .inr (.inl r.2))], [], r.1)), jS X l d jm_X2_countWith m0 v m' (13, [(0, .inr (.inr y0)), (1, .inl y1), (2, .inl y2), (3, .inr (.inl y3)), (5, .inl y5), (6, .inl y6)], [], m) := by
  intro n
  induction n with
  | zero =>
    intro m y0 y1 y2 y3 y5 y6 r H h2
    cases (show none = some r from H)
  | succ n ih =>
    intro m y0 y1 y2 y3 y5 y6 r H h2
    exact ec_X2_countWith_l13_b O hd (B := (fun m y0 y1 y2 y3 y5 y6 => c_X2_countWith_l13 F n m y0 y1 y2 y3 y5 y6)) (fun m y0 y1 y2 y3 y5 y6 r H h2 => ih H h2) H h2
def c_X2_countWith (F : Nat) (m : jMe) (x0 : Nat) (x1 : Int32) (x2 : Int32) : Option (Int64 × jMe) :=
  jgd (jK m x0 = 34) <| jb (c_X2_tally F m x0) fun t3 => jb (c_X2_countWith_l13 F F t3.2 x0 x1 x2 (0 : Int64) (0 : Int32) (0 : Int32)) fun e43 => some (e43.2, e43.1)
theorem ec_X2_countWith {X : jX} {l : Launch} {d : Nat} (O : jOk X) (hd : 69 ≤ d) {F : Nat} {m : jMe} {x0 : Nat} {x1 : Int32} {x2 : Int32} {r : Int64 × jMe} (H : c_X2_countWith F m x0 x1 x2 = some r) : jH X l d jm_X2_countWith [.inr (.inr x0), .inl x1, .inl x2] m (some (.inr (.inl r.1))) r.2 := by
  refine jH.of jpl_RX2 rfl (Nat.le_of_ble_eq_true rfl) ?_
  show jS X l d jm_X2_countWith m _ _ (0, [(0, .inr (.inr x0)), (1, .inl x1), (2, .inl x2)], [], m)
  unfold c_X2_countWith at H
  obtain ⟨w1, H⟩ := jgd_ok H
  refine jS.adv O [(.aload_n 0, 0, 0, 0, 0, 0, 0)] (pc' := 1) (ls' := [(0, .inr (.inr x0)), (1, .inl x1), (2, .inl x2)]) (st' := [.inr (.inr x0)]) (m2 := m) (by decide +kernel) rfl trivial ?_
  obtain ⟨t3, w2, H⟩ := jb_ok H
  refine jS.step (c' := (4, [(0, .inr (.inr x0)), (1, .inl x1), (2, .inl x2)], [.inr (.inl t3.1)], t3.2)) (jSt.callV (c := 2) (As := []) (rest := []) O (ec_X2_tally (d := 68) O (Nat.le_refl _) w2) w1 (by decide) rfl (by omega) jmw_X2_tally jmv_X2_tally jmn_X2_tally (idx := 214) (jW_of 1216 (by decide +kernel) rfl) (Nat.le_of_ble_eq_true rfl) (by decide +kernel)) ?_
  refine jS.adv O [(.pop2, 0, 0, 0, 0, 0, 0), (.lconst 0, 0, 0, 0, 0, 0, (0 : Int64)), (.lstore_n 3, 0, 0, 0, 0, 0, 0), (.iconst 0, 0, 0, 0, 0, (0 : Int32), 0), (.istore 5, 0, 0, 0, 0, 0, 0), (.iconst 0, 0, 0, 0, 0, (0 : Int32), 0), (.istore 6, 0, 0, 0, 0, 0, 0)] (pc' := 13) (ls' := [(6, .inl (0 : Int32)), (5, .inl (0 : Int32)), (3, .inr (.inl (0 : Int64))), (0, .inr (.inr x0)), (1, .inl x1), (2, .inl x2)]) (st' := []) (m2 := t3.2) (by decide +kernel) rfl trivial ?_
  refine jS.loc' [3, 4, 5, 2, 1, 0] (ls' := [(0, .inr (.inr x0)), (1, .inl x1), (2, .inl x2), (3, .inr (.inl (0 : Int64))), (5, .inl (0 : Int32)), (6, .inl (0 : Int32))]) rfl ?_
  obtain ⟨e43, w44, H⟩ := jb_ok H
  refine ec_X2_countWith_l13 O hd F w44 ?_
  refine jS.adv O [(.lload_n 3, 0, 0, 0, 0, 0, 0)] (pc' := 156) (ls' := [(3, .inr (.inl e43.2))]) (st' := [.inr (.inl e43.2)]) (m2 := e43.1) (by decide +kernel) rfl trivial ?_
  replace H := Option.some.inj H
  subst H
  exact jS.lret rfl (by decide +kernel)
def c_X2_unused_l9_b (F : Nat) (B : jMe → Nat → Int32 → Int32 → Int32 → Option (jMe × Int32)) (m : jMe) (y0 : Nat) (y1 : Int32) (y2 : Int32) (y3 : Int32) : Option (jMe × Int32) :=
  jgd (jK m y0 = 34) <| jgd (jK m (jP m y0 12) = 5) <| jgd (jin y1 (jZ m (jP m y0 12)) = true) <| jgd (jK m (jP m (jP m y0 12) y1.toNatClampNeg) = 36) <| (if (jI m (jP m (jP m y0 12) y1.toNatClampNeg) 5) ≤ y3 then some (m, y2) else jgd (jK m (jP m y0 9) = 1) <| jgd (jin y1 (jZ m (jP m y0 9)) = true) <| jb (c_X9_isIn F m (jI m (jP m y0 9) y1.toNatClampNeg) y3) fun t12 => (if t12 = 0 then B m y0 y1 (y2 ||| (0 : Int32)) (y3 + (1 : Int32)) else jgd (jK m (jP m y0 4) = 2) <| jgd (jin ((y1 * (8 : Int32)) + y3) (jZ m (jP m y0 4)) = true) <| (if (lg_cmp (jL m (jP m y0 4) ((y1 * (8 : Int32)) + y3).toNatClampNeg) (0 : Int64)) = 0 then B m y0 y1 (y2 ||| (jshl (1 : Int32) y3)) (y3 + (1 : Int32)) else B m y0 y1 (y2 ||| (0 : Int32)) (y3 + (1 : Int32)))))
theorem ec_X2_unused_l9_b {X : jX} {l : Launch} {d : Nat} (O : jOk X) (hd : 69 ≤ d) {F : Nat} {m0 m' : jMe} {v : Option jAV} {B : jMe → Nat → Int32 → Int32 → Int32 → Option (jMe × Int32)} (hB : ∀ (m : jMe) (y0 : Nat) (y1 : Int32) (y2 : Int32) (y3 : Int32) (r : jMe × Int32), B m y0 y1 y2 y3 = some r → (jS X l d jm_X2_unused m0 v m' (67, [(2, .inl r.2)], [], r.1)) → jS X l d jm_X2_unused m0 v m' (9, [(0, .inr (.inr y0)), (1, .inl y1), (2, .inl y2), (3, .inl y3)], [], m)) {m : jMe} {y0 : Nat} {y1 : Int32} {y2 : Int32} {y3 : Int32} {r : jMe × Int32} (H : c_X2_unused_l9_b F B m y0 y1 y2 y3 = some r) (h2 : jS X l d jm_X2_unused m0 v m' (67, [(2, .inl r.2)], [], r.1)) : jS X l d jm_X2_unused m0 v m' (9, [(0, .inr (.inr y0)), (1, .inl y1), (2, .inl y2), (3, .inl y3)], [], m) := by
  unfold c_X2_unused_l9_b at H
  obtain ⟨w4, H⟩ := jgd_ok H
  obtain ⟨w5, H⟩ := jgd_ok H
  obtain ⟨w6, H⟩ := jgd_ok H
  obtain ⟨w7, H⟩ := jgd_ok H
  refine jS.adv O [(.iload_n 3, 0, 0, 0, 0, 0, 0), (.aload_n 0, 0, 0, 0, 0, 0, 0), (.getfield 60, 0, 2, 12, 443, 0, 0), (.iload_n 1, 0, 0, 0, 0, 0, 0), (.aaload, 0, 5, 0, 0, 0, 0), (.getfield 120, 0, 4, 5, 509, 0, 0)] (pc' := 19) (ls' := [(0, .inr (.inr y0)), (1, .inl y1), (2, .inl y2), (3, .inl y3)]) (st' := [.inl (jI m (jP m (jP m y0 12) y1.toNatClampNeg) 5), .inl y3]) (m2 := m) (by decide +kernel) rfl ⟨w4, ⟨w5, jib_ok w6⟩, w7, trivial⟩ ?_
  refine jS.br (i := .if_icmp .ge 48) (P := (jI m (jP m (jP m y0 12) y1.toNatClampNeg) 5) ≤ y3) (rest := []) rfl (by decide +kernel) (tgt := 67) (by decide) (fun c8 => ?_) (fun c8 => ?_)
  · replace H := jif_t c8 H
    replace H := Option.some.inj H
    subst H
    refine jS.loc' [2] (ls' := [(2, .inl y2)]) rfl ?_
    exact h2
  · replace H := jif_f c8 H
    obtain ⟨w9, H⟩ := jgd_ok H
    obtain ⟨w10, H⟩ := jgd_ok H
    refine jS.adv O [(.iload_n 2, 0, 0, 0, 0, 0, 0), (.aload_n 0, 0, 0, 0, 0, 0, 0), (.getfield 50, 0, 2, 9, 440, 0, 0), (.iload_n 1, 0, 0, 0, 0, 0, 0), (.iaload, 0, 1, 0, 0, 0, 0), (.iload_n 3, 0, 0, 0, 0, 0, 0)] (pc' := 30) (ls' := [(0, .inr (.inr y0)), (1, .inl y1), (2, .inl y2), (3, .inl y3)]) (st' := [.inl y3, .inl (jI m (jP m y0 9) y1.toNatClampNeg), .inl y2]) (m2 := m) (by decide +kernel) rfl ⟨w4, ⟨w9, jib_ok w10⟩, trivial⟩ ?_
    obtain ⟨t12, w11, H⟩ := jb_ok H
    refine jS.step (c' := (33, [(0, .inr (.inr y0)), (1, .inl y1), (2, .inl y2), (3, .inl y3)], [.inl t12, .inl y2], m)) (jSt.callSN (As := [.inl (jI m (jP m y0 9) y1.toNatClampNeg), .inl y3]) (rest := [.inl y2]) O (ec_X9_isIn (d := 2) O (Nat.le_refl _) w11) (by omega) jmw_X9_isIn jmv_X9_isIn jmn_X9_isIn (host := "JoinDraws") (idx := 83) jln_JoinDraws_Join_83 (Nat.le_of_ble_eq_true rfl) (by decide +kernel)) ?_
    refine jS.br (i := .ifCond .eq 25) (P := t12 = 0) (rest := [.inl y2]) rfl (by decide +kernel) (tgt := 58) (by decide) (fun c13 => ?_) (fun c13 => ?_)
    · replace H := jif_t c13 H
      refine jS.adv O [(.iconst 0, 0, 0, 0, 0, (0 : Int32), 0), (.ior, 0, 0, 0, 0, 0, 0), (.istore_n 2, 0, 0, 0, 0, 0, 0), (.iinc 3 1, 0, 0, 0, 0, (1 : Int32), 0), (.goto (-55), 0, 9, 0, 0, 0, 0)] (pc' := 9) (ls' := [(3, .inl (y3 + (1 : Int32))), (2, .inl (y2 ||| (0 : Int32))), (0, .inr (.inr y0)), (1, .inl y1)]) (st' := []) (m2 := m) (by decide +kernel) rfl trivial ?_
      refine jS.loc' [2, 3, 1, 0] (ls' := [(0, .inr (.inr y0)), (1, .inl y1), (2, .inl (y2 ||| (0 : Int32))), (3, .inl (y3 + (1 : Int32)))]) rfl ?_
      exact hB _ _ _ _ _ _ H h2
    · replace H := jif_f c13 H
      obtain ⟨w14, H⟩ := jgd_ok H
      obtain ⟨w15, H⟩ := jgd_ok H
      refine jS.adv O [(.aload_n 0, 0, 0, 0, 0, 0, 0), (.getfield 28, 0, 2, 4, 431, 0, 0), (.iload_n 1, 0, 0, 0, 0, 0, 0), (.bipush 8, 0, 0, 0, 0, (8 : Int32), 0), (.imul, 0, 0, 0, 0, 0, 0), (.iload_n 3, 0, 0, 0, 0, 0, 0), (.iadd, 0, 0, 0, 0, 0, 0), (.laload, 0, 0, 0, 0, 0, 0), (.lconst 0, 0, 0, 0, 0, 0, (0 : Int64)), (.lcmp, 0, 0, 0, 0, 0, 0)] (pc' := 49) (ls' := [(0, .inr (.inr y0)), (1, .inl y1), (2, .inl y2), (3, .inl y3)]) (st' := [.inl (lg_cmp (jL m (jP m y0 4) ((y1 * (8 : Int32)) + y3).toNatClampNeg) (0 : Int64)), .inl y2]) (m2 := m) (by decide +kernel) rfl ⟨w4, ⟨w14, jib_ok w15⟩, trivial⟩ ?_
      refine jS.br (i := .ifCond .ne 9) (P := ¬ (lg_cmp (jL m (jP m y0 4) ((y1 * (8 : Int32)) + y3).toNatClampNeg) (0 : Int64)) = 0) (rest := [.inl y2]) rfl (by decide +kernel) (tgt := 58) (by decide) (fun c16 => ?_) (fun c16 => ?_)
      · replace H := jif_f c16 H
        refine jS.adv O [(.iconst 0, 0, 0, 0, 0, (0 : Int32), 0), (.ior, 0, 0, 0, 0, 0, 0), (.istore_n 2, 0, 0, 0, 0, 0, 0), (.iinc 3 1, 0, 0, 0, 0, (1 : Int32), 0), (.goto (-55), 0, 9, 0, 0, 0, 0)] (pc' := 9) (ls' := [(3, .inl (y3 + (1 : Int32))), (2, .inl (y2 ||| (0 : Int32))), (0, .inr (.inr y0)), (1, .inl y1)]) (st' := []) (m2 := m) (by decide +kernel) rfl trivial ?_
        refine jS.loc' [2, 3, 1, 0] (ls' := [(0, .inr (.inr y0)), (1, .inl y1), (2, .inl (y2 ||| (0 : Int32))), (3, .inl (y3 + (1 : Int32)))]) rfl ?_
        exact hB _ _ _ _ _ _ H h2
      · replace H := jif_t (Classical.not_not.mp c16) H
        refine jS.adv O [(.iconst 1, 0, 0, 0, 0, (1 : Int32), 0), (.iload_n 3, 0, 0, 0, 0, 0, 0), (.ishl, 0, 0, 0, 0, 0, 0), (.goto 4, 0, 59, 0, 0, 0, 0), (.ior, 0, 0, 0, 0, 0, 0), (.istore_n 2, 0, 0, 0, 0, 0, 0), (.iinc 3 1, 0, 0, 0, 0, (1 : Int32), 0), (.goto (-55), 0, 9, 0, 0, 0, 0)] (pc' := 9) (ls' := [(3, .inl (y3 + (1 : Int32))), (2, .inl (y2 ||| (jshl (1 : Int32) y3))), (0, .inr (.inr y0)), (1, .inl y1)]) (st' := []) (m2 := m) (by decide +kernel) rfl trivial ?_
        refine jS.loc' [2, 3, 1, 0] (ls' := [(0, .inr (.inr y0)), (1, .inl y1), (2, .inl (y2 ||| (jshl (1 : Int32) y3))), (3, .inl (y3 + (1 : Int32)))]) rfl ?_
        exact hB _ _ _ _ _ _ H h2
def c_X2_unused_l9 (F : Nat) : Nat → jMe → Nat → Int32 → Int32 → Int32 → Option (jMe × Int32)
  | 0, _, _, _, _, _ => none
  | n + 1, m, y0, y1, y2, y3 => c_X2_unused_l9_b F (fun m y0 y1 y2 y3 => c_X2_unused_l9 F n m y0 y1 y2 y3) m y0 y1 y2 y3
theorem ec_X2_unused_l9 {X : jX} {l : Launch} {d : Nat} (O : jOk X) (hd : 69 ≤ d) {F : Nat} {m0 m' : jMe} {v : Option jAV} : ∀ (n : Nat) {m : jMe} {y0 : Nat} {y1 : Int32} {y2 : Int32} {y3 : Int32} {r : jMe × Int32} (H : c_X2_unused_l9 F n m y0 y1 y2 y3 = some r) (h2 : jS X l d jm_X2_unused m0 v m' (67, [(2, .inl r.2)], [], r.1)), jS X l d jm_X2_unused m0 v m' (9, [(0, .inr (.inr y0)), (1, .inl y1), (2, .inl y2), (3, .inl y3)], [], m) := by
  intro n
  induction n with
  | zero =>
    intro m y0 y1 y2 y3 r H h2
    cases (show none = some r from H)
  | succ n ih =>
    intro m y0 y1 y2 y3 r H h2
    exact ec_X2_unused_l9_b O hd (B := (fun m y0 y1 y2 y3 => c_X2_unused_l9 F n m y0 y1 y2 y3)) (fun m y0 y1 y2 y3 r H h2 => ih H h2) H h2
def c_X2_unused (F : Nat) (m : jMe) (x0 : Nat) (x1 : Int32) : Option (Int32 × jMe) :=
  jgd (jK m x0 = 34) <| jb (c_X2_tally F m x0) fun t3 => jb (c_X2_unused_l9 F F t3.2 x0 x1 (0 : Int32) (0 : Int32)) fun e18 => some (e18.2, e18.1)
theorem ec_X2_unused {X : jX} {l : Launch} {d : Nat} (O : jOk X) (hd : 69 ≤ d) {F : Nat} {m : jMe} {x0 : Nat} {x1 : Int32} {r : Int32 × jMe} (H : c_X2_unused F m x0 x1 = some r) : jH X l d jm_X2_unused [.inr (.inr x0), .inl x1] m (some (.inl r.1)) r.2 := by
  refine jH.of jpl_RX2 rfl (Nat.le_of_ble_eq_true rfl) ?_
  show jS X l d jm_X2_unused m _ _ (0, [(0, .inr (.inr x0)), (1, .inl x1)], [], m)
  unfold c_X2_unused at H
  obtain ⟨w1, H⟩ := jgd_ok H
  refine jS.adv O [(.aload_n 0, 0, 0, 0, 0, 0, 0)] (pc' := 1) (ls' := [(0, .inr (.inr x0)), (1, .inl x1)]) (st' := [.inr (.inr x0)]) (m2 := m) (by decide +kernel) rfl trivial ?_
  obtain ⟨t3, w2, H⟩ := jb_ok H
  refine jS.step (c' := (4, [(0, .inr (.inr x0)), (1, .inl x1)], [.inr (.inl t3.1)], t3.2)) (jSt.callV (c := 2) (As := []) (rest := []) O (ec_X2_tally (d := 68) O (Nat.le_refl _) w2) w1 (by decide) rfl (by omega) jmw_X2_tally jmv_X2_tally jmn_X2_tally (idx := 214) (jW_of 1216 (by decide +kernel) rfl) (Nat.le_of_ble_eq_true rfl) (by decide +kernel)) ?_
  refine jS.adv O [(.pop2, 0, 0, 0, 0, 0, 0), (.iconst 0, 0, 0, 0, 0, (0 : Int32), 0), (.istore_n 2, 0, 0, 0, 0, 0, 0), (.iconst 0, 0, 0, 0, 0, (0 : Int32), 0), (.istore_n 3, 0, 0, 0, 0, 0, 0)] (pc' := 9) (ls' := [(3, .inl (0 : Int32)), (2, .inl (0 : Int32)), (0, .inr (.inr x0)), (1, .inl x1)]) (st' := []) (m2 := t3.2) (by decide +kernel) rfl trivial ?_
  refine jS.loc' [2, 3, 1, 0] (ls' := [(0, .inr (.inr x0)), (1, .inl x1), (2, .inl (0 : Int32)), (3, .inl (0 : Int32))]) rfl ?_
  obtain ⟨e18, w19, H⟩ := jb_ok H
  refine ec_X2_unused_l9 O hd F w19 ?_
  refine jS.adv O [(.iload_n 2, 0, 0, 0, 0, 0, 0)] (pc' := 68) (ls' := [(2, .inl e18.2)]) (st' := [.inl e18.2]) (m2 := e18.1) (by decide +kernel) rfl trivial ?_
  replace H := Option.some.inj H
  subst H
  exact jS.iret rfl (by decide +kernel)
