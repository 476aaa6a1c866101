/-! the start: what was given aside -/
def jrel (m m' : jMe) : Prop := jN m = jN m' ∧ jT m = jT m' ∧ jK m = jK m' ∧ (∀ a, a ≠ 2 → jZ m a = jZ m' a ∧ jI m a = jI m' a) ∧ jL m = jL m' ∧ jP m = jP m'
theorem jrel_n {m m' : jMe} {a k z n : Nat} (h : jrel m m') : jrel (jnwx m a k z n) (jnwx m' a k z n) := by
  obtain ⟨-, h2, h3, h4, h5, h6⟩ := h
  refine ⟨rfl, ?_, ?_, fun b hb => ⟨?_, ?_⟩, ?_, ?_⟩
  · show jT m + n = jT m' + n; rw [h2]
  · show jat (jK m) a k = jat (jK m') a k; rw [h3]
  · show jat (jZ m) a z b = jat (jZ m') a z b; unfold jat; rw [(h4 b hb).1]
  · show jat (jI m) a _ b = jat (jI m') a _ b; unfold jat; rw [(h4 b hb).2]
  · show jat (jL m) a _ = jat (jL m') a _; rw [h5]
  · show jat (jP m) a _ = jat (jP m') a _; rw [h6]
theorem jrel_I {m m' : jMe} {a i : Nat} {x : Int32} (h : jrel m m') : jrel (jsI m a i x) (jsI m' a i x) := by
  obtain ⟨h1, h2, h3, h4, h5, h6⟩ := h
  refine ⟨h1, h2, h3, fun b hb => ⟨(h4 b hb).1, funext fun j => ?_⟩, h5, h6⟩
  rw [jsI_g, jsI_g, (h4 b hb).2]
theorem jrel_L {m m' : jMe} {a i : Nat} {x : Int64} (h : jrel m m') : jrel (jsL m a i x) (jsL m' a i x) := by
  obtain ⟨h1, h2, h3, h4, h5, h6⟩ := h
  refine ⟨h1, h2, h3, h4, funext fun b => funext fun j => ?_, h6⟩
  rw [jsL_g, jsL_g, h5]
theorem jrel_P {m m' : jMe} {a i x : Nat} (h : jrel m m') : jrel (jsP m a i x) (jsP m' a i x) := by
  obtain ⟨h1, h2, h3, h4, h5, h6⟩ := h
  refine ⟨h1, h2, h3, h4, h5, ?_⟩
  show jup (jP m) a i x = jup (jP m') a i x
  rw [h6]
theorem jrel_d {m m' : jMe} {a : Nat} (ha : a ≠ 2) (h : jrel m m') : jrel (jdup m a) (jdup m' a) := by
  obtain ⟨h1, h2, h3, h4, h5, h6⟩ := h
  obtain ⟨g1, g2⟩ := h4 a ha
  refine ⟨?_, ?_, ?_, fun b hb => ⟨?_, ?_⟩, ?_, ?_⟩
  · show jN m + 1 = jN m' + 1; rw [h1]
  · show jT m + jZ m a = jT m' + jZ m' a; rw [h2, g1]
  · show jat (jK m) (32 + jN m) (jK m a) = jat (jK m') (32 + jN m') (jK m' a); rw [h1, h3]
  · show jat (jZ m) (32 + jN m) (jZ m a) b = jat (jZ m') (32 + jN m') (jZ m' a) b; unfold jat; rw [h1, g1, (h4 b hb).1]
  · show jat (jI m) (32 + jN m) (jI m a) b = jat (jI m') (32 + jN m') (jI m' a) b; unfold jat; rw [h1, g2, (h4 b hb).2]
  · show jat (jL m) (32 + jN m) (jL m a) = jat (jL m') (32 + jN m') (jL m' a); rw [h1, h5]
  · show jat (jP m) (32 + jN m) (jP m a) = jat (jP m') (32 + jN m') (jP m' a); rw [h1, h6]
theorem jrel_0 {L : Nat} {xs : Nat → Int32} : jrel (jm00 L xs) (jm00 0 (fun _ => 0)) := by
  refine ⟨rfl, rfl, rfl, fun b hb => ⟨?_, funext fun j => ?_⟩, rfl, rfl⟩
  · show jpz L b = jpz 0 b; unfold jpz; rw [if_neg hb, if_neg hb]
  · show jpi xs b j = jpi (fun _ => 0) b j; unfold jpi; rw [if_neg hb, if_neg hb]
theorem jre_jw1 {L : Nat} {xs : Nat → Int32} : jrel (jw1 L xs) (jw1 0 (fun _ => 0)) := jrel_n (jrel_0)
theorem jre_jw2 {L : Nat} {xs : Nat → Int32} : jrel (jw2 L xs) (jw2 0 (fun _ => 0)) := jrel_n (jre_jw1)
theorem jre_jw3 {L : Nat} {xs : Nat → Int32} : jrel (jw3 L xs) (jw3 0 (fun _ => 0)) := jrel_n (jrel_P (jre_jw2))
theorem jre_jw4 {L : Nat} {xs : Nat → Int32} : jrel (jw4 L xs) (jw4 0 (fun _ => 0)) := jrel_n (jrel_P (jre_jw3))
theorem jre_jw5 {L : Nat} {xs : Nat → Int32} : jrel (jw5 L xs) (jw5 0 (fun _ => 0)) := jrel_n (jrel_P (jre_jw4))
theorem jre_jw6 {L : Nat} {xs : Nat → Int32} : jrel (jw6 L xs) (jw6 0 (fun _ => 0)) := jrel_I (jrel_I (jrel_I (jrel_I (jrel_I (jrel_I (jrel_I (jrel_P (jrel_n (jrel_P (jrel_n (jre_jw5)))))))))))
theorem jre_jw7 {L : Nat} {xs : Nat → Int32} : jrel (jw7 L xs) (jw7 0 (fun _ => 0)) := jrel_n (jrel_P (jre_jw6))
theorem jre_jw8 {L : Nat} {xs : Nat → Int32} : jrel (jw8 L xs) (jw8 0 (fun _ => 0)) := jrel_P (jrel_n (jrel_P (jrel_n (jrel_P (jrel_n (jrel_I (jrel_I (jrel_I (jrel_I (jre_jw7))))))))))
theorem jre_jw9 {L : Nat} {xs : Nat → Int32} : jrel (jw9 L xs) (jw9 0 (fun _ => 0)) := jrel_n (jrel_P (jre_jw8))
theorem jre_jw10 {L : Nat} {xs : Nat → Int32} : jrel (jw10 L xs) (jw10 0 (fun _ => 0)) := jrel_P (jrel_n (jrel_P (jrel_n (jrel_P (jrel_I (jrel_n (jre_jw9)))))))
theorem jre_jw11 {L : Nat} {xs : Nat → Int32} : jrel (jw11 L xs) (jw11 0 (fun _ => 0)) := jrel_n (jrel_P (jre_jw10))
theorem jre_jw12 {L : Nat} {xs : Nat → Int32} : jrel (jw12 L xs) (jw12 0 (fun _ => 0)) := jrel_P (jre_jw11)
theorem jre_jw13 {L : Nat} {xs : Nat → Int32} : jrel (jw13 L xs) (jw13 0 (fun _ => 0)) := jrel_n (jre_jw12)
theorem jre_jw14 {L : Nat} {xs : Nat → Int32} : jrel (jw14 L xs) (jw14 0 (fun _ => 0)) := jrel_n (jrel_P (jre_jw13))
theorem jre_jw15 {L : Nat} {xs : Nat → Int32} : jrel (jw15 L xs) (jw15 0 (fun _ => 0)) := jrel_n (jre_jw14)
theorem jre_jw16 {L : Nat} {xs : Nat → Int32} : jrel (jw16 L xs) (jw16 0 (fun _ => 0)) := jrel_I (jrel_I (jrel_I (jrel_I (jrel_P (jrel_n (jrel_P (jrel_n (jrel_P (jrel_n (jrel_P (jrel_n (jre_jw15))))))))))))
theorem jre_jw17 {L : Nat} {xs : Nat → Int32} : jrel (jw17 L xs) (jw17 0 (fun _ => 0)) := jrel_n (jrel_P (jre_jw16))
theorem jre_jw18 {L : Nat} {xs : Nat → Int32} : jrel (jw18 L xs) (jw18 0 (fun _ => 0)) := jrel_n (jrel_P (jre_jw17))
theorem jre_jw19 {L : Nat} {xs : Nat → Int32} : jrel (jw19 L xs) (jw19 0 (fun _ => 0)) := jrel_n (jrel_P (jre_jw18))
theorem jre_jw20 {L : Nat} {xs : Nat → Int32} : jrel (jw20 L xs) (jw20 0 (fun _ => 0)) := jrel_n (jrel_P (jre_jw19))
theorem jre_jw21 {L : Nat} {xs : Nat → Int32} : jrel (jw21 L xs) (jw21 0 (fun _ => 0)) := jrel_L (jrel_I (jrel_P (jre_jw20)))
theorem jre_jw22 {L : Nat} {xs : Nat → Int32} : jrel (jw22 L xs) (jw22 0 (fun _ => 0)) := jrel_n (jrel_I (jre_jw21))
theorem jre_jw23 {L : Nat} {xs : Nat → Int32} : jrel (jw23 L xs) (jw23 0 (fun _ => 0)) := jrel_I (jre_jw22)
theorem jre_jw24 {L : Nat} {xs : Nat → Int32} : jrel (jw24 L xs) (jw24 0 (fun _ => 0)) := jrel_n (jrel_P (jre_jw23))
theorem jre_jw25 {L : Nat} {xs : Nat → Int32} : jrel (jw25 L xs) (jw25 0 (fun _ => 0)) := jrel_n (jrel_P (jre_jw24))
theorem jre_jw26 {L : Nat} {xs : Nat → Int32} : jrel (jw26 L xs) (jw26 0 (fun _ => 0)) := jrel_n (jrel_P (jre_jw25))
theorem jre_jw27 {L : Nat} {xs : Nat → Int32} : jrel (jw27 L xs) (jw27 0 (fun _ => 0)) := jrel_I (jrel_P (jrel_P (jre_jw26)))
theorem jre_jw28 {L : Nat} {xs : Nat → Int32} : jrel (jw28 L xs) (jw28 0 (fun _ => 0)) := jrel_I (jrel_I (jrel_L (jrel_I (jre_jw27))))
theorem jre_jw29 {L : Nat} {xs : Nat → Int32} : jrel (jw29 L xs) (jw29 0 (fun _ => 0)) := jrel_n (jrel_P (jre_jw28))
theorem jre_jw30 {L : Nat} {xs : Nat → Int32} : jrel (jw30 L xs) (jw30 0 (fun _ => 0)) := jrel_n (jre_jw29)
theorem jre_jw31 {L : Nat} {xs : Nat → Int32} : jrel (jw31 L xs) (jw31 0 (fun _ => 0)) := jrel_I (jrel_I (jrel_I (jrel_I (jrel_P (jrel_n (jrel_P (jrel_n (jrel_P (jrel_n (jrel_P (jrel_n (jre_jw30))))))))))))
theorem jre_jw32 {L : Nat} {xs : Nat → Int32} : jrel (jw32 L xs) (jw32 0 (fun _ => 0)) := jrel_n (jrel_P (jre_jw31))
theorem jre_jw33 {L : Nat} {xs : Nat → Int32} : jrel (jw33 L xs) (jw33 0 (fun _ => 0)) := jrel_n (jrel_P (jre_jw32))
theorem jre_jw34 {L : Nat} {xs : Nat → Int32} : jrel (jw34 L xs) (jw34 0 (fun _ => 0)) := jrel_n (jrel_P (jre_jw33))
theorem jre_jw35 {L : Nat} {xs : Nat → Int32} : jrel (jw35 L xs) (jw35 0 (fun _ => 0)) := jrel_n (jrel_P (jre_jw34))
theorem jre_jw36 {L : Nat} {xs : Nat → Int32} : jrel (jw36 L xs) (jw36 0 (fun _ => 0)) := jrel_L (jrel_I (jrel_P (jre_jw35)))
theorem jre_jw37 {L : Nat} {xs : Nat → Int32} : jrel (jw37 L xs) (jw37 0 (fun _ => 0)) := jrel_n (jrel_I (jre_jw36))
theorem jre_jw38 {L : Nat} {xs : Nat → Int32} : jrel (jw38 L xs) (jw38 0 (fun _ => 0)) := jrel_I (jre_jw37)
theorem jre_jw39 {L : Nat} {xs : Nat → Int32} : jrel (jw39 L xs) (jw39 0 (fun _ => 0)) := jrel_n (jrel_P (jre_jw38))
theorem jre_jw40 {L : Nat} {xs : Nat → Int32} : jrel (jw40 L xs) (jw40 0 (fun _ => 0)) := jrel_n (jrel_P (jre_jw39))
theorem jre_jw41 {L : Nat} {xs : Nat → Int32} : jrel (jw41 L xs) (jw41 0 (fun _ => 0)) := jrel_n (jrel_P (jre_jw40))
theorem jre_jw42 {L : Nat} {xs : Nat → Int32} : jrel (jw42 L xs) (jw42 0 (fun _ => 0)) := jrel_I (jrel_P (jrel_P (jre_jw41)))
theorem jre_jw43 {L : Nat} {xs : Nat → Int32} : jrel (jw43 L xs) (jw43 0 (fun _ => 0)) := jrel_I (jrel_I (jrel_L (jrel_I (jre_jw42))))
theorem jre_jw44 {L : Nat} {xs : Nat → Int32} : jrel (jw44 L xs) (jw44 0 (fun _ => 0)) := jrel_I (jrel_I (jrel_I (jrel_I (jrel_P (jre_jw43)))))
theorem jre_jw45 {L : Nat} {xs : Nat → Int32} : jrel (jw45 L xs) (jw45 0 (fun _ => 0)) := jrel_I (jrel_I (jre_jw44))
theorem jre_jw46 {L : Nat} {xs : Nat → Int32} : jrel (jw46 L xs) (jw46 0 (fun _ => 0)) := jrel_n (jre_jw45)
theorem jre_jw47 {L : Nat} {xs : Nat → Int32} : jrel (jw47 L xs) (jw47 0 (fun _ => 0)) := jrel_I (jrel_I (jrel_I (jrel_I (jrel_I (jrel_P (jrel_n (jrel_P (jrel_n (jre_jw46)))))))))
theorem jre_jw48 {L : Nat} {xs : Nat → Int32} : jrel (jw48 L xs) (jw48 0 (fun _ => 0)) := jrel_P (jre_jw47)
theorem jre_jw49 {L : Nat} {xs : Nat → Int32} : jrel (jw49 L xs) (jw49 0 (fun _ => 0)) := jrel_n (jre_jw48)
theorem jre_jw50 {L : Nat} {xs : Nat → Int32} : jrel (jw50 L xs) (jw50 0 (fun _ => 0)) := jrel_I (jrel_I (jrel_I (jrel_I (jrel_I (jrel_P (jrel_n (jrel_P (jrel_n (jre_jw49)))))))))
theorem jre_jw51 {L : Nat} {xs : Nat → Int32} : jrel (jw51 L xs) (jw51 0 (fun _ => 0)) := jrel_P (jre_jw50)
theorem jre_jw52 {L : Nat} {xs : Nat → Int32} : jrel (jw52 L xs) (jw52 0 (fun _ => 0)) := jrel_n (jre_jw51)
theorem jre_jw53 {L : Nat} {xs : Nat → Int32} : jrel (jw53 L xs) (jw53 0 (fun _ => 0)) := jrel_I (jrel_I (jrel_I (jrel_I (jrel_I (jrel_P (jrel_n (jrel_P (jrel_n (jre_jw52)))))))))
theorem jre_jw54 {L : Nat} {xs : Nat → Int32} : jrel (jw54 L xs) (jw54 0 (fun _ => 0)) := jrel_P (jre_jw53)
theorem jre_jw55 {L : Nat} {xs : Nat → Int32} : jrel (jw55 L xs) (jw55 0 (fun _ => 0)) := jrel_n (jre_jw54)
theorem jre_jw56 {L : Nat} {xs : Nat → Int32} : jrel (jw56 L xs) (jw56 0 (fun _ => 0)) := jrel_I (jrel_I (jrel_I (jrel_I (jrel_I (jrel_P (jrel_n (jrel_P (jrel_n (jre_jw55)))))))))
theorem jre_jw57 {L : Nat} {xs : Nat → Int32} : jrel (jw57 L xs) (jw57 0 (fun _ => 0)) := jrel_P (jre_jw56)
theorem jre_jw58 {L : Nat} {xs : Nat → Int32} : jrel (jw58 L xs) (jw58 0 (fun _ => 0)) := jrel_n (jre_jw57)
theorem jre_jw59 {L : Nat} {xs : Nat → Int32} : jrel (jw59 L xs) (jw59 0 (fun _ => 0)) := jrel_I (jrel_I (jrel_P (jrel_n (jre_jw58))))
theorem jre_jw60 {L : Nat} {xs : Nat → Int32} : jrel (jw60 L xs) (jw60 0 (fun _ => 0)) := jrel_P (jre_jw59)
theorem jre_jw61 {L : Nat} {xs : Nat → Int32} : jrel (jw61 L xs) (jw61 0 (fun _ => 0)) := jrel_n (jre_jw60)
theorem jre_jw62 {L : Nat} {xs : Nat → Int32} : jrel (jw62 L xs) (jw62 0 (fun _ => 0)) := jrel_I (jrel_I (jrel_P (jrel_n (jre_jw61))))
theorem jre_jw63 {L : Nat} {xs : Nat → Int32} : jrel (jw63 L xs) (jw63 0 (fun _ => 0)) := jrel_P (jre_jw62)
theorem jre_jw64 {L : Nat} {xs : Nat → Int32} : jrel (jw64 L xs) (jw64 0 (fun _ => 0)) := jrel_n (jre_jw63)
theorem jre_jw65 {L : Nat} {xs : Nat → Int32} : jrel (jw65 L xs) (jw65 0 (fun _ => 0)) := jrel_I (jrel_I (jrel_P (jrel_n (jre_jw64))))
theorem jre_jw66 {L : Nat} {xs : Nat → Int32} : jrel (jw66 L xs) (jw66 0 (fun _ => 0)) := jrel_P (jre_jw65)
theorem jre_jw67 {L : Nat} {xs : Nat → Int32} : jrel (jw67 L xs) (jw67 0 (fun _ => 0)) := jrel_n (jre_jw66)
theorem jre_jw68 {L : Nat} {xs : Nat → Int32} : jrel (jw68 L xs) (jw68 0 (fun _ => 0)) := jrel_I (jrel_I (jrel_P (jrel_n (jre_jw67))))
theorem jre_jw69 {L : Nat} {xs : Nat → Int32} : jrel (jw69 L xs) (jw69 0 (fun _ => 0)) := jrel_P (jre_jw68)
theorem jre_jw70 {L : Nat} {xs : Nat → Int32} : jrel (jw70 L xs) (jw70 0 (fun _ => 0)) := jrel_n (jre_jw69)
theorem jre_jw71 {L : Nat} {xs : Nat → Int32} : jrel (jw71 L xs) (jw71 0 (fun _ => 0)) := jrel_n (jre_jw70)
theorem jre_jw72 {L : Nat} {xs : Nat → Int32} : jrel (jw72 L xs) (jw72 0 (fun _ => 0)) := jrel_I (jre_jw71)
theorem jre_jw73 {L : Nat} {xs : Nat → Int32} : jrel (jw73 L xs) (jw73 0 (fun _ => 0)) := jrel_n (jre_jw72)
theorem jre_jw74 {L : Nat} {xs : Nat → Int32} : jrel (jw74 L xs) (jw74 0 (fun _ => 0)) := jrel_P (jre_jw73)
theorem jre_jw75 {L : Nat} {xs : Nat → Int32} : jrel (jw75 L xs) (jw75 0 (fun _ => 0)) := jrel_d (by decide) (jre_jw74)
theorem jre_jw76 {L : Nat} {xs : Nat → Int32} : jrel (jw76 L xs) (jw76 0 (fun _ => 0)) := jrel_P (jre_jw75)
theorem jre_jw77 {L : Nat} {xs : Nat → Int32} : jrel (jw77 L xs) (jw77 0 (fun _ => 0)) := jrel_P (jre_jw76)
theorem jre_jw78 {L : Nat} {xs : Nat → Int32} : jrel (jw78 L xs) (jw78 0 (fun _ => 0)) := jrel_n (jre_jw77)
theorem jre_jw79 {L : Nat} {xs : Nat → Int32} : jrel (jw79 L xs) (jw79 0 (fun _ => 0)) := jrel_n (jre_jw78)
theorem jre_jw80 {L : Nat} {xs : Nat → Int32} : jrel (jw80 L xs) (jw80 0 (fun _ => 0)) := jrel_n (jrel_P (jre_jw79))
theorem jre_jw81 {L : Nat} {xs : Nat → Int32} : jrel (jw81 L xs) (jw81 0 (fun _ => 0)) := jrel_n (jrel_P (jre_jw80))
theorem jre_jw82 {L : Nat} {xs : Nat → Int32} : jrel (jw82 L xs) (jw82 0 (fun _ => 0)) := jrel_n (jrel_P (jre_jw81))
theorem jre_jw83 {L : Nat} {xs : Nat → Int32} : jrel (jw83 L xs) (jw83 0 (fun _ => 0)) := jrel_n (jrel_P (jre_jw82))
theorem jre_jw84 {L : Nat} {xs : Nat → Int32} : jrel (jw84 L xs) (jw84 0 (fun _ => 0)) := jrel_n (jrel_P (jre_jw83))
theorem jre_jw85 {L : Nat} {xs : Nat → Int32} : jrel (jw85 L xs) (jw85 0 (fun _ => 0)) := jrel_n (jrel_P (jre_jw84))
theorem jre_jw86 {L : Nat} {xs : Nat → Int32} : jrel (jw86 L xs) (jw86 0 (fun _ => 0)) := jrel_P (jre_jw85)
theorem jre_jw87 {L : Nat} {xs : Nat → Int32} : jrel (jw87 L xs) (jw87 0 (fun _ => 0)) := jrel_n (jre_jw86)
theorem jre_jw88 {L : Nat} {xs : Nat → Int32} : jrel (jw88 L xs) (jw88 0 (fun _ => 0)) := jrel_n (jrel_P (jre_jw87))
theorem jre_jw89 {L : Nat} {xs : Nat → Int32} : jrel (jw89 L xs) (jw89 0 (fun _ => 0)) := jrel_n (jrel_P (jre_jw88))
theorem jre_jw90 {L : Nat} {xs : Nat → Int32} : jrel (jw90 L xs) (jw90 0 (fun _ => 0)) := jrel_n (jrel_P (jre_jw89))
theorem jre_jw91 {L : Nat} {xs : Nat → Int32} : jrel (jw91 L xs) (jw91 0 (fun _ => 0)) := jrel_n (jrel_P (jre_jw90))
theorem jre_jw92 {L : Nat} {xs : Nat → Int32} : jrel (jw92 L xs) (jw92 0 (fun _ => 0)) := jrel_n (jrel_P (jre_jw91))
theorem jre_jw93 {L : Nat} {xs : Nat → Int32} : jrel (jw93 L xs) (jw93 0 (fun _ => 0)) := jrel_n (jrel_P (jre_jw92))
theorem jre_jw94 {L : Nat} {xs : Nat → Int32} : jrel (jw94 L xs) (jw94 0 (fun _ => 0)) := jrel_P (jre_jw93)
theorem jre_jw95 {L : Nat} {xs : Nat → Int32} : jrel (jw95 L xs) (jw95 0 (fun _ => 0)) := jrel_n (jre_jw94)
theorem jre_jw96 {L : Nat} {xs : Nat → Int32} : jrel (jw96 L xs) (jw96 0 (fun _ => 0)) := jrel_n (jrel_P (jre_jw95))
theorem jre_jw97 {L : Nat} {xs : Nat → Int32} : jrel (jw97 L xs) (jw97 0 (fun _ => 0)) := jrel_n (jrel_I (jrel_I (jrel_P (jre_jw96))))
theorem jre_jw98 {L : Nat} {xs : Nat → Int32} : jrel (jw98 L xs) (jw98 0 (fun _ => 0)) := jrel_n (jrel_P (jre_jw97))
theorem jre_jw99 {L : Nat} {xs : Nat → Int32} : jrel (jw99 L xs) (jw99 0 (fun _ => 0)) := jrel_n (jrel_P (jre_jw98))
theorem jre_jw100 {L : Nat} {xs : Nat → Int32} : jrel (jw100 L xs) (jw100 0 (fun _ => 0)) := jrel_P (jre_jw99)
theorem jre_jw101 {L : Nat} {xs : Nat → Int32} : jrel (jw101 L xs) (jw101 0 (fun _ => 0)) := jrel_n (jre_jw100)
theorem jre_jw102 {L : Nat} {xs : Nat → Int32} : jrel (jw102 L xs) (jw102 0 (fun _ => 0)) := jrel_n (jrel_P (jre_jw101))
theorem jre_jw103 {L : Nat} {xs : Nat → Int32} : jrel (jw103 L xs) (jw103 0 (fun _ => 0)) := jrel_n (jrel_P (jre_jw102))
theorem jre_jw104 {L : Nat} {xs : Nat → Int32} : jrel (jw104 L xs) (jw104 0 (fun _ => 0)) := jrel_n (jrel_P (jre_jw103))
theorem jre_jw105 {L : Nat} {xs : Nat → Int32} : jrel (jw105 L xs) (jw105 0 (fun _ => 0)) := jrel_n (jrel_I (jrel_P (jre_jw104)))
theorem jre_jw106 {L : Nat} {xs : Nat → Int32} : jrel (jw106 L xs) (jw106 0 (fun _ => 0)) := jrel_n (jrel_P (jre_jw105))
theorem jre_jw107 {L : Nat} {xs : Nat → Int32} : jrel (jw107 L xs) (jw107 0 (fun _ => 0)) := jrel_P (jre_jw106)
theorem jre_jw108 {L : Nat} {xs : Nat → Int32} : jrel (jw108 L xs) (jw108 0 (fun _ => 0)) := jrel_n (jre_jw107)
theorem jre_jw109 {L : Nat} {xs : Nat → Int32} : jrel (jw109 L xs) (jw109 0 (fun _ => 0)) := jrel_n (jrel_P (jre_jw108))
theorem jre_jw110 {L : Nat} {xs : Nat → Int32} : jrel (jw110 L xs) (jw110 0 (fun _ => 0)) := jrel_P (jre_jw109)
theorem jre_jw111 {L : Nat} {xs : Nat → Int32} : jrel (jw111 L xs) (jw111 0 (fun _ => 0)) := jrel_I (jrel_I (jrel_I (jre_jw110)))
theorem jre_jw112 {L : Nat} {xs : Nat → Int32} : jrel (jw112 L xs) (jw112 0 (fun _ => 0)) := jrel_I (jrel_I (jrel_I (jre_jw111)))
theorem jre_jw113 {L : Nat} {xs : Nat → Int32} : jrel (jw113 L xs) (jw113 0 (fun _ => 0)) := jrel_I (jrel_I (jre_jw112))
theorem jre_jw114 {L : Nat} {xs : Nat → Int32} : jrel (jw114 L xs) (jw114 0 (fun _ => 0)) := jrel_I (jrel_I (jrel_I (jre_jw113)))
theorem jre_jw115 {L : Nat} {xs : Nat → Int32} : jrel (jw115 L xs) (jw115 0 (fun _ => 0)) := jrel_I (jrel_I (jrel_I (jre_jw114)))
theorem jre_jw116 {L : Nat} {xs : Nat → Int32} : jrel (jw116 L xs) (jw116 0 (fun _ => 0)) := jrel_I (jrel_I (jre_jw115))
theorem jre_jw117 {L : Nat} {xs : Nat → Int32} : jrel (jw117 L xs) (jw117 0 (fun _ => 0)) := jrel_I (jrel_I (jre_jw116))
