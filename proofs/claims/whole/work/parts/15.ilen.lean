/-! the length of the static row IS -/
section JILEN
variable {X : jX} {l : Launch} {d : Nat} {M : jM} {m0 m' m : jMe} {pc : Nat} {ls : List (Nat × jAV)} {st : List jAV}
theorem jSt.ilen {a : Nat} (hX : jOk X) (hk : jK m a = 9) (hdg : decode M.2.2.1 pc = .ok (.arraylength, 1)) : jSt X l d M m0 m' (pc, ls, .inr (.inr a) :: st, m) (pc + 1, ls, .inl (Int32.ofNat (jZ m a)) :: st, m) := by
  refine jSt.mem rfl rfl (fun {p e R s mth args below meth c0 H locs cells slots la Q} hx hb hml hown hts hnm hK hF hR hl hG kk => ?_)
  have ha : a < 32 := by
    rcases Nat.lt_or_ge a 32 with q | q
    · exact q
    · have := hG.1.2.2 a q
      omega
  obtain ⟨e1, e2, e3⟩ := hG.1.1 a ha
  have ha0 : a ≠ 0 := by
    have h0 := hX.2.1 a ha
    omega
  have k1 := kk H locs hG
  rw [List.map_cons, e2] at k1
  rw [List.map_cons, jref ha0]
  have h1 := (hX.2.2.2.2.2.1 s hF a ha (by rw [← e1, hk])).1
  exact va_tlen hx hb h1 hG.2.2 rfl hdg k1
end JILEN
