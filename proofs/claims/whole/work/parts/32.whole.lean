/-! the law over the machine, out of the law as a function -/
theorem jwhole {p : Program} {e : Env} {s : State} {m : MethodId} {below : List Frame} {meth : Method} {c : Code} (l : Launch) {b L : Nat} {xs : Nat → Int32} {F : Nat} {m' : jMe} (H : c_L_law F (jm00 L xs) 2 = some (1, m')) (hN : jN m' ≤ 600000) (hT : jT m' ≤ 7302249)
    (hx : p.tables.exec = Jvm.exec) (hb : c.code = code) (hr : meth.sig.returnType = ret) (hml : c.maxLocals = 4) (hown : s.vm.findClass RL = some m.cls) (hts : ∀ w ∈ lw_tbl, w.before #[Value.ref b] s = true) (hX : va_X b L xs s s.heap) (hbl : b < s.heap.size) (hlocks : meth.locks = false) (hgv : (Jvm.Cond.and given_1 narrow_1).before #[Value.ref b] s = true) :
    W p l e room_1 s m #[Value.ref b] below meth c s.heap [] 0 0 (fun t => ∃ o, t.status = .running ∧ Ended t below o ∧ o = .returned (some (.int 1)) ∧ Framed s o t [] 600000 7302249) (entryFrame m ([Value.ref b] : List Value).toArray 4) := by
  obtain ⟨tI, tF, adK, adV, hF⟩ := jstart hts hX hbl hgv
  obtain ⟨D, cA, hK⟩ := jknown hts
  have O : jOk (jX0 D cA s.heap.size tI b tF L xs adK adV) := jX0_ok
  have e32 : jad (jX0 D cA s.heap.size tI b tF L xs adK adV) 32 = s.heap.size := jadr_z (tI := tI) (b := b) (tF := tF) (adK := adK) (adV := adV)
  have hS := es_L_law (l := l) (d := 100) O (by decide) H
  have hl := lv_entry ([.ref b]) (n := 4) (Nat.le_of_ble_eq_true rfl)
  rw [lg_entry_eq]
  generalize (lg_sl ([.ref b]) ++ List.replicate (4 - (lg_sl ([.ref b])).length) Slot.unset).toArray = la at hl ⊢
  have hl : lv_has la 4 (jlv (jX0 D cA s.heap.size tI b tF L xs adK adV) [(0, .inr (.inr 2))]) := hl
  have hW := hS.2 p e room_1 s m #[Value.ref b] below meth c s.heap [] la ⟨hx, hb, hml, hown, fun w hw => hts w (jW_in hw), hr, hlocks, fun q => absurd (show ("law" : String) = "<init>" from q) (by decide), hK _ rfl rfl, hF, by rw [e32]; rfl, by decide, by decide, by show jN m' - 0 ≤ 600000; omega, by show jT m' - 0 ≤ 7302249; omega⟩ (Nat.le_refl _) (Nat.le_refl _) hl ⟨jm00_wf, fun k q hk => (by have hk2 := (List.getElem?_eq_some_iff.mp hk).1; cases hk2), va_S.rf⟩
  intro T hT Z
  obtain ⟨t, h1, o, h2, h3, h4, LL, ⟨h5, h6, h7⟩, h8⟩ := hW T hT Z
  refine ⟨t, h1, o, h2, h3, h4.1, h5, h6, h7.weaken (fun y hy hlt => ?_) (by show jN m' - 0 ≤ 600000; omega) (by show jT m' - 0 ≤ 7302249; omega)⟩
  have h9 : jad (jX0 D cA s.heap.size tI b tF L xs adK adV) 32 ≤ y.base := h8 y hy
  rw [e32] at h9
  exact absurd hlt (Nat.not_lt.mpr h9)
