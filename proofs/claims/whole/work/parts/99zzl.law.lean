/-! the law's loop -/
section LAW
variable {s : jS6} {F Z k : Nat} {m : jMe}
theorem jgo_law (hF : 5000 < F) (hk : k + 6 ≤ Z) (hZ : Z ≤ 3072) (hI : jInv s Z m) {B : jMe → Nat → Nat → Nat → Int32 → Option ((Int32 × jMe) ⊕ jMe)} : jGo Z k B (c_L_law_l18_b F B m 2 32 101 (Int32.ofNat k)) := by
  have hDS := hI.2.1.2.1
  have hv := hI.2.1.2.2.2.2.2.2
  have h6 : ¬ (Int32.ofNat (jZ m 2)) - (6 : Int32) < Int32.ofNat k := by
    rw [hI.2.2.2, show Int32.ofNat Z - (6 : Int32) = Int32.ofNat (Z - 6) from ji_sub (b := 6) (by omega)]
    exact Int32.not_lt.mpr (ji_lep (by omega) (by omega) (by omega))
  have h7 : jin (Int32.ofNat k) (jZ m 2) = true := by
    rw [hI.2.2.2]
    exact ji_int (by omega) (by omega)
  unfold c_L_law_l18_b
  rw [jgd_t hI.2.2.1, if_neg h6, jgd_t h7]
  refine jgo_ite (fun _ => jop2i (cx := c_X9_relation F) (cr := c_X10_relation F) hk hZ hI (fun x1 x2 => jok_relation hF)) (fun _ => ?_)
  refine jgo_ite (fun _ => jop5i (cx := c_X9_row F) (cr := c_X10_row F) hk hZ hI (fun x1 x2 x3 x4 x5 => jok_row hF)) (fun _ => ?_)
  refine jgo_ite (fun _ => jop2i (cx := c_X9_remove F) (cr := c_X10_remove F) hk hZ hI (fun x1 x2 => jok_remove hF)) (fun _ => ?_)
  refine jgo_ite (fun _ => jop2i (cx := c_X9_restore F) (cr := c_X10_restore F) hk hZ hI (fun x1 x2 => jok_restore hF)) (fun _ => ?_)
  refine jgo_ite (fun _ => jop3i (cx := c_X9_copies F) (cr := c_X10_copies F) hk hZ hI (fun x1 x2 x3 => jok_copies hF)) (fun _ => ?_)
  refine jgo_ite (fun _ => jop3i (cx := c_X9_told F) (cr := c_X10_told F) hk hZ hI (fun x1 x2 x3 => jok_told hF)) (fun _ => ?_)
  refine jgo_ite (fun _ => jop2lp (cx := c_X9_worth F) (cr := c_X10_worth F) hk hZ hI (fun x1 x2 => jokp_worth)) (fun _ => ?_)
  refine jgo_ite (fun _ => jop2i (cx := c_X9_about F) (cr := c_X10_about F) hk hZ hI (fun x1 x2 => jok_about hF)) (fun _ => ?_)
  refine jgo_ite (fun _ => jop1i (cx := c_X9_query F) (cr := c_X10_query F) hk hZ hI (fun x1 => jok_query hF)) (fun _ => ?_)
  refine jgo_ite (fun _ => jop1i (cx := c_X9_shape F) (cr := c_X10_shape F) hk hZ hI (fun x1 => jok_shape hF)) (fun _ => ?_)
  refine jgo_ite (fun _ => jop1i (cx := c_X9_feed F) (cr := c_X10_feed F) hk hZ hI (fun x1 => jok_feed)) (fun _ => ?_)
  refine jgo_ite (fun _ => jop0i (cx := c_X9_text F) (cr := c_X10_text F) hk hZ hI (jok_text hF)) (fun _ => ?_)
  refine jgo_ite (fun _ => jop1i (cx := c_X9_force F) (cr := c_X10_force F) hk hZ hI (fun x1 => jok_force hF)) (fun _ => ?_)
  refine jgo_ite (fun _ => jop2l (cx := c_X9_weight F) (cr := c_X10_weight F) hk hZ hI (fun x1 x2 => jok_weight hF)) (fun _ => ?_)
  refine jgo_ite (fun _ => jop1l (cx := c_X9_bound F) (cr := c_X10_bound F) hk hZ hI (fun x1 => jok_bound hF)) (fun _ => ?_)
  refine jgo_ite (fun _ => jop0l (cx := c_X9_space F) (cr := c_X10_space F) hk hZ hI (jok_space hF)) (fun _ => ?_)
  refine jgo_ite (fun _ => jop0l (cx := c_X9_answers F) (cr := c_X10_answers F) hk hZ hI (jok_answers hF)) (fun _ => ?_)
  refine jgo_ite (fun _ => jop3i (cx := fun m a x1 x2 x3 => c_X9_at F m a ((jlshl (Int32.toInt64 x1) (32 : Int32)) ||| ((Int32.toInt64 x2) &&& (4294967295 : Int64))) x3) (cr := fun m a x1 x2 x3 => c_X10_at F m a ((jlshl (Int32.toInt64 x1) (32 : Int32)) ||| ((Int32.toInt64 x2) &&& (4294967295 : Int64))) x3) hk hZ hI (fun x1 x2 x3 => jok_at hF)) (fun _ => ?_)
  refine jgo_ite (fun _ => jop1l (cx := c_X9_find F) (cr := c_X10_find F) hk hZ hI (fun x1 => jok_find hF)) (fun _ => ?_)
  refine jgo_ite (fun _ => jop2i (cx := c_X9_draw F) (cr := c_X10_draw F) hk hZ hI (fun x1 x2 => jok_draw hF)) (fun _ => ?_)
  refine jgo_ite (fun _ => jop3l (cx := c_X9_shuffle F) (cr := c_X10_shuffle F) hk hZ hI (fun x1 x2 x3 => jok_shuffle hF)) (fun _ => ?_)
  refine jgo_ite (fun _ => jop3l (cx := c_X9_odds F) (cr := c_X10_odds F) hk hZ hI (fun x1 x2 x3 => jok_odds hF)) (fun _ => ?_)
  refine jgo_ite (fun _ => jop2l (cx := c_X9_values F) (cr := c_X10_values F) hk hZ hI (fun x1 x2 => jok_values hF)) (fun _ => ?_)
  refine jgo_ite (fun _ => jop1i (cx := c_X9_likeliest F) (cr := c_X10_likeliest F) hk hZ hI (fun x1 => jok_likeliest hF)) (fun _ => ?_)
  refine jgo_ite (fun _ => jop1i (cx := c_X9_dangling F) (cr := c_X10_dangling F) hk hZ hI (fun x1 => jok_dangling hF)) (fun _ => ?_)
  refine jgo_ite (fun _ => jop2l (cx := c_X9_without F) (cr := c_X10_without F) hk hZ hI (fun x1 x2 => jok_without hF)) (fun _ => ?_)
  refine jgo_ite (fun _ => jop1l (cx := c_X9_key F) (cr := c_X10_key F) hk hZ hI (fun x1 => jok_key hF)) (fun _ => ?_)
  refine jgo_ite (fun _ => jop3i (cx := fun m a x1 x2 x3 => c_X9_strip F m a x1 ((jlshl (Int32.toInt64 x2) (32 : Int32)) ||| ((Int32.toInt64 x3) &&& (4294967295 : Int64)))) (cr := fun m a x1 x2 x3 => c_X10_strip F m a x1 ((jlshl (Int32.toInt64 x2) (32 : Int32)) ||| ((Int32.toInt64 x3) &&& (4294967295 : Int64)))) hk hZ hI (fun x1 x2 x3 => jok_strip hF)) (fun _ => ?_)
  refine jgo_ite (fun _ => jop1ip (cx := c_X9_slate F) (cr := c_X10_slate F) hk hZ hI (fun x1 => jokp_slate)) (fun _ => ?_)
  refine jgo_ite (fun _ => jop5l (cx := c_X9_lot F) (cr := c_X10_lot F) hk hZ hI (fun x1 x2 x3 x4 x5 => jok_lot hF)) (fun _ => ?_)
  refine jgo_ite (fun _ => jop2i (cx := c_X9_tells F) (cr := c_X10_tells F) hk hZ hI (fun x1 x2 => jok_tells hF hDS)) (fun _ => ?_)
  refine jgo_ite (fun _ => jop2i (cx := c_X9_film F) (cr := c_X10_film F) hk hZ hI (fun x1 x2 => jok_film hF)) (fun _ => ?_)
  refine jgo_ite (fun _ => jop0i (cx := c_X9_image F) (cr := c_X10_image F) hk hZ hI (jok_image hF)) (fun _ => ?_)
  refine jgo_ite (fun _ => jop0i (cx := c_X9_back F) (cr := c_X10_back F) hk hZ hI (jok_back hF hDS hv)) (fun _ => ?_)
  refine jgo_ite (fun _ => jop1ip (cx := c_X9_count F) (cr := c_X10_count F) hk hZ hI (fun x1 => jokp_count hF)) (fun _ => ?_)
  refine jgo_ite (fun _ => jop3i (cx := c_X9_sheet F) (cr := c_X10_sheet F) hk hZ hI (fun x1 x2 x3 => jok_sheet hF)) (fun _ => ?_)
  refine jgo_ite (fun _ => jop4i (cx := fun m a x1 x2 x3 x4 => c_X9_put F m a x1 x2 ((jlshl (Int32.toInt64 x3) (32 : Int32)) ||| ((Int32.toInt64 x4) &&& (4294967295 : Int64)))) (cr := fun m a x1 x2 x3 x4 => c_X10_put F m a x1 x2 ((jlshl (Int32.toInt64 x3) (32 : Int32)) ||| ((Int32.toInt64 x4) &&& (4294967295 : Int64)))) hk hZ hI (fun x1 x2 x3 x4 => jok_put)) (fun _ => ?_)
  refine jgo_ite (fun _ => jop2lp (cx := c_X9_item F) (cr := c_X10_item F) hk hZ hI (fun x1 x2 => jokp_item)) (fun _ => ?_)
  refine jgo_ite (fun _ => jop5i (cx := c_X9_copy F) (cr := c_X10_copy F) hk hZ hI (fun x1 x2 x3 x4 x5 => jok_copy hF)) (fun _ => ?_)
  refine jgo_ite (fun _ => jop5i (cx := c_X9_load F) (cr := c_X10_load F) hk hZ hI (fun x1 x2 x3 x4 x5 => jok_load hF)) (fun _ => ?_)
  refine jgo_ite (fun _ => jop2ip (cx := c_X9_taken F) (cr := c_X10_taken F) hk hZ hI (fun x1 x2 => jokp_taken hF)) (fun _ => ?_)
  exact ⟨m, s, rfl, hI⟩
end LAW
