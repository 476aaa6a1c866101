/-! ends of methods of small types -/
theorem jS.cret {X : jX} {l : Launch} {d : Nat} {M : jM} {m0 m' : jMe} {pc : Nat} {ls : List (Nat × jAV)} {v : Int32} {ty : FieldType} (hr : M.2.2.2.2 = some ty) (hv : vp_nar ty v = v) (hdg : decode M.2.2.1 pc = .ok (.ireturn, 1)) (hty : ty = .char ∨ ty = .byte := by first | exact Or.inl rfl | exact Or.inr rfl) : jS X l d M m0 (some (.inl v)) m' (pc, ls, [.inl v], m') := by
  refine ⟨⟨Nat.le_refl _, Nat.le_refl _⟩, fun p e R s mth args below meth c0 H locs la hC z1 z2 hl hG => ?_⟩
  obtain ⟨hx, hb, hml, hown, hts, hret, hlk, hnm, hK, hF, h0, hR⟩ := hC
  refine W.zret hx hb (by rw [hret, hr]) ?_ (fun t ht hW => jQ_at (r := some (.inl v)) hG ht) hG.2.2.2.2 hdg hlk
  rcases hty with rfl | rfl
  · show Value.int (vp_nar .char v) = _
    rw [hv]
  · show Value.int (vp_nar .byte v) = _
    rw [hv]
theorem jsw_ne {x v : Int32} {k : Int} (h : ¬ x = v) (hk : v.toInt = k) : ¬ k = x.toInt := fun q => h (Int32.toInt_inj.mp (hk.trans q).symm)
