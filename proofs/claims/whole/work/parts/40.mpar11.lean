/-! ===== the reference reads a line ===== -/
def ztg (x : Nat) : Bool := zsml x || zdig x
/-- tag, UID and word: with UID or without, the word, where it ends -/
def zhead (c : Nat → Nat) : Option (Bool × Nat × Nat) :=
  if 1 ≤ zre ztg c 0 ∧ zre ztg c 0 ≤ 2 ∧ c (zre ztg c 0) = 32 then
    (if zwn c (zre ztg c 0 + 1) = 22854762496 then
      (if c (zre zlrg c (zre ztg c 0 + 1)) = 32 then some (true, zwn c (zre zlrg c (zre ztg c 0 + 1) + 1), zre zlrg c (zre zlrg c (zre ztg c 0 + 1) + 1)) else none)
    else some (false, zwn c (zre ztg c 0 + 1), zre zlrg c (zre ztg c 0 + 1)))
  else none
/-- kind, with UID or without, the tag's length, and the rest -/
abbrev zCmd : Type := Nat × Bool × Nat × zArg
def zread (c : Nat → Nat) (E : zEnv) (ll : Nat) : Option zCmd := match zhead c with
  | none => none
  | some (u, x, p) => if zcmd x = 0 ∨ u = true ∧ zcmd x < 10 then none else match zrest c E u (zcmd x) p with
    | none => none
    | some (e, a) => if e = ll then some (zcmd x, u, zre ztg c 0, a) else none
abbrev zfQ : List (Nat × Nat) := [(521, 132), (522, 132), (523, 132), (527, 132), (528, 132), (531, 132), (532, 132), (535, 132), (0, 151), (0, 152), (0, 153), (529, 132), (530, 132), (526, 132), (534, 132), (524, 132), (525, 132)]
theorem zif_le {P : Prop} [Decidable P] {a b n : Nat} (ha : a ≤ n) (hb : b ≤ n) : (if P then a else b) ≤ n := by
  split
  · exact ha
  · exact hb
theorem zcmd_le (x : Nat) : zcmd x ≤ 13 := by
  unfold zcmd
  repeat first
    | exact Nat.zero_le _
    | refine zif_le (by decide) ?_
theorem zre_b {f : Nat → Bool} {c : Nat → Nat} (hc : zCh c) (h0 : f 0 = false) {p B : Nat} (hB : 48 ≤ B) (hp : p ≤ B) : zre f c p ≤ B := by
  by_cases q : p ≤ 48
  · have := (zre_ge hc h0 p).2.1 q; omega
  · rw [zre_f (by rw [hc.1 _ (by omega)]; exact h0)]; exact hp
section
variable {L : Nat} {xs : Nat → Int32} {h : zH} {m : zMm} {c : Nat → Nat}
theorem s118a (hx : zFx h) (hl : zLC m c) : ∃ (m1 : zMm), zEv (zPr L xs) 7 118 0 [.val (.ref 132), .unset, .unset, .unset] [] (zMH h m) = zEv (zPr L xs) 7 118 91 [.val (.ref 132), .unset, .unset, .unset] [.int (nI (!decide (1 ≤ zre ztg c 0 ∧ zre ztg c 0 ≤ 2)).toNat), .ref 132] (zMH h m1) ∧ zfr zfQ m m1 ∧ m1 521 132 0 = zre ztg c 0 ∧ m1 524 132 0 = zre ztg c 0 ∧ m1 523 132 0 = 0 ∧ m1 525 132 0 = 0 := by
  have hc := hl.2.2
  have f0 : ztg 0 = false := rfl
  have loop : ∀ (p : Nat), p ≤ 48 → ∀ (m : zMm), zLC m c → m 521 132 0 = p → zEv (zPr L xs) 7 118 20 [.val (.ref 132), .unset, .unset, .unset] [] (zMH h m) = zEv (zPr L xs) 7 118 20 [.val (.ref 132), .unset, .unset, .unset] [] (zMH h (u3 m 521 132 0 (zre ztg c p))) := by
    refine zrun_ind hc (f := ztg) f0 ?_ ?_
    · intro p hd hp ih h48 m hl he
      have b1 : m 521 132 0 < 2147483648 := by omega
      have st : zEv (zPr L xs) 7 118 20 [.val (.ref 132), .unset, .unset, .unset] [] (zMH h m) = zEv (zPr L xs) 7 118 48 [.val (.ref 132), .unset, .unset, .unset] [] (zMH h m) := by
        cases hs : zsml (c (m 521 132 0)) with
        | true => exact p118_20_5 hx hl hs
        | false =>
          have : zdig (c (m 521 132 0)) = true := by
            rw [he] at hs ⊢
            unfold ztg at hd
            rw [hs] at hd
            exact hd
          exact p118_20_1 hx hl hs this
      rw [st, p118_48_1 hx hl, ih (by omega) _ (zLC_fr hl (zfr_u (l := [(521, 132)]) (zfr_rf _ _) (by decide))) (by show m 521 132 0 + 1 = p + 1; omega), u3_u3, zre_t hc f0 hd]
    · intro p hd h48 m hl he
      rw [zre_f hd, u3_self he]
  let m0 : zMm := u3 (u3 (u3 (u3 m 521 132 0 0) 522 132 0 0) 523 132 0 0) 525 132 0 0
  have F0 : zfr zfQ m m0 := zfr_u (zfr_u (zfr_u (zfr_u (zfr_rf _ _) (by decide)) (by decide)) (by decide)) (by decide)
  have hl0 : zLC m0 c := zLC_fr hl F0
  have F1 : zfr zfQ m (u3 m0 521 132 0 (zre ztg c 0)) := zfr_u F0 (by decide)
  have hl1 := zLC_fr hl F1
  have hg := zre_ge hc f0 0
  have h48 := hg.2.1 (by decide)
  have hs : zsml (c (zre ztg c 0)) = false := by
    have := hg.2.2; unfold ztg at this
    cases q : zsml (c (zre (fun x => zsml x || zdig x) c 0)) with
    | true => rw [q] at this; cases this
    | false => exact q
  have hd : zdig (c (zre ztg c 0)) = false := by
    have := hg.2.2; unfold ztg at this
    cases q : zdig (c (zre (fun x => zsml x || zdig x) c 0)) with
    | true => rw [q, Bool.or_true] at this; cases this
    | false => exact q
  refine ⟨u3 (u3 m0 521 132 0 (zre ztg c 0)) 524 132 0 (zre ztg c 0), ?_, zfr_u F1 (by decide), rfl, rfl, rfl, rfl⟩
  rw [p118_0_1 hx hl, loop 0 (by decide) m0 hl0 rfl]
  have b1 : u3 m0 521 132 0 (zre ztg c 0) 521 132 0 < 2147483648 := by show zre ztg c 0 < 2147483648; omega
  by_cases c3 : 1 ≤ zre ztg c 0
  · by_cases c4 : zre ztg c 0 ≤ 2
    · rw [decide_eq_true ⟨c3, c4⟩]
      exact p118_20_3 hx hl1 hs hd c3 c4 b1
    · rw [decide_eq_false (fun q => c4 q.2)]
      rw [p118_20_2 hx hl1 hs hd c3 (Nat.lt_of_not_le c4) b1]
      exact p118_86_1 hx (zLC_fr hl1 (zfr_u (l := [(524, 132)]) (zfr_rf _ _) (by decide)))
  · rw [decide_eq_false (fun q => c3 q.1)]
    rw [p118_20_4 hx hl1 hs hd (Nat.lt_of_not_le c3) b1]
    exact p118_86_1 hx (zLC_fr hl1 (zfr_u (l := [(524, 132)]) (zfr_rf _ _) (by decide)))
/-- tag, UID and word -/
theorem s118b (hx : zFx h) (hl : zLC m c) (ht : m 521 132 0 = zre ztg c 0) (hu : m 525 132 0 = 0) : ∃ (m1 : zMm) (x : Nat), zEv (zPr L xs) 7 118 91 [.val (.ref 132), .unset, .unset, .unset] [.int (nI (!decide (1 ≤ zre ztg c 0 ∧ zre ztg c 0 ≤ 2)).toNat), .ref 132] (zMH h m) = zEv (zPr L xs) 7 118 139 [.val (.ref 132), .val (.long (nL x)), .second, .unset] [] (zMH h m1) ∧ zfr [(521, 132), (522, 132), (525, 132)] m m1 ∧ x < 18446744073709551616 ∧ m1 521 132 0 ≤ 52 ∧ m1 522 132 0 ≤ 1 ∧ m1 525 132 0 ≤ 1 ∧ (match zhead c with
    | none => m1 522 132 0 = 1
    | some (u, x', p) => m1 522 132 0 = 0 ∧ x = x' ∧ m1 521 132 0 = p ∧ m1 525 132 0 = u.toNat) := by
  have hc := hl.2.2
  have hg := (zre_ge hc (f := ztg) rfl 0).2.1 (by decide)
  have z01 : ∀ b : Bool, b.toNat ≤ 1 := fun b => by cases b <;> decide
  have F0 : zfr [(521, 132), (522, 132), (525, 132)] m (u3 m 522 132 0 (!decide (1 ≤ zre ztg c 0 ∧ zre ztg c 0 ≤ 2)).toNat) := zfr_u (zfr_rf _ _) (by decide)
  have hl0 := zLC_fr hl F0
  have z0 := z01 (!decide (1 ≤ zre ztg c 0 ∧ zre ztg c 0 ≤ 2))
  obtain ⟨m1, e1, f1, g1⟩ := s96g (L := L) (xs := xs) hx hl0 32 (by show m 521 132 0 ≤ 99; omega)
  have at0 : u3 m 522 132 0 (!decide (1 ≤ zre ztg c 0 ∧ zre ztg c 0 ≤ 2)).toNat 521 132 0 = zre ztg c 0 := ht
  have bd0 : u3 m 522 132 0 (!decide (1 ≤ zre ztg c 0 ∧ zre ztg c 0 ≤ 2)).toNat 522 132 0 = (!decide (1 ≤ zre ztg c 0 ∧ zre ztg c 0 ≤ 2)).toNat := u3_eq _ _ _ _ _
  rw [at0, bd0] at g1
  have F1 : zfr [(521, 132), (522, 132), (525, 132)] m m1 := zfr_tr F0 f1 (fun _ q => q) (by decide)
  have hl1 := zLC_fr hl F1
  obtain ⟨m2, e2, f2, g2⟩ := s95 (L := L) (xs := xs) hx hl1 (by rcases g1 with g | g <;> omega)
  have F2 : zfr [(521, 132), (522, 132), (525, 132)] m m2 := zfr_tr F1 f2 (fun _ q => q) (by decide)
  have hl2 := zLC_fr hl F2
  have a2 : m2 521 132 0 ≤ 49 := by rw [g2]; exact zre_b hc rfl (by decide) (by rcases g1 with g | g <;> omega)
  have b2 : m2 522 132 0 = m1 522 132 0 := f2 _ _ _ (by decide)
  have u2 : m2 525 132 0 = 0 := (f2 _ _ _ (by decide)).trans ((f1 _ _ _ (by decide)).trans hu)
  have hb1 : m1 522 132 0 ≤ 1 := by rcases g1 with g | g <;> omega
  have good : m1 522 132 0 = 0 ↔ (1 ≤ zre ztg c 0 ∧ zre ztg c 0 ≤ 2 ∧ c (zre ztg c 0) = 32) := by
    by_cases q : 1 ≤ zre ztg c 0 ∧ zre ztg c 0 ≤ 2
    · rw [decide_eq_true q] at g1
      rcases g1 with ⟨r1, r2, r3⟩ | ⟨r1, r2, r3⟩
      · exact ⟨fun _ => ⟨q.1, q.2, r1⟩, fun _ => r3⟩
      · exact ⟨fun z => by omega, fun z => absurd z.2.2 r1⟩
    · rw [decide_eq_false q] at g1
      rcases g1 with ⟨r1, r2, r3⟩ | ⟨r1, r2, r3⟩
      · exact ⟨(fun z => by rw [r3] at z; cases z), fun z => absurd ⟨z.1, z.2.1⟩ q⟩
      · exact ⟨fun z => by omega, fun z => absurd z.2.2 r1⟩
  have at1 : m1 522 132 0 = 0 → m1 521 132 0 = zre ztg c 0 + 1 := fun q => by
    have := good.mp q
    rcases g1 with ⟨r1, r2, r3⟩ | ⟨r1, r2, r3⟩
    · exact r2
    · omega
  by_cases cu : zwn c (m1 521 132 0) = 22854762496
  · have F2' : zfr [(521, 132), (522, 132), (525, 132)] m (u3 m2 525 132 0 1) := zfr_u F2 (by decide)
    have hl2' := zLC_fr hl F2'
    obtain ⟨m3, e3, f3, g3⟩ := s96g (L := L) (xs := xs) hx hl2' 32 (by show m2 521 132 0 ≤ 99; omega)
    have F3 : zfr [(521, 132), (522, 132), (525, 132)] m m3 := zfr_tr F2' f3 (fun _ q => q) (by decide)
    have hl3 := zLC_fr hl F3
    have g3' : (c (m2 521 132 0) = 32 ∧ m3 521 132 0 = m2 521 132 0 + 1 ∧ m3 522 132 0 = m2 522 132 0) ∨ (c (m2 521 132 0) ≠ 32 ∧ m3 521 132 0 = m2 521 132 0 ∧ m3 522 132 0 = 1) := g3
    obtain ⟨m4, e4, f4, g4⟩ := s95 (L := L) (xs := xs) hx hl3 (by rcases g3' with g | g <;> omega)
    have F4 : zfr [(521, 132), (522, 132), (525, 132)] m m4 := zfr_tr F3 f4 (fun _ q => q) (by decide)
    have b4 : m4 522 132 0 = m3 522 132 0 := f4 _ _ _ (by decide)
    have u4 : m4 525 132 0 = 1 := (f4 _ _ _ (by decide)).trans ((f3 _ _ _ (by decide)).trans rfl)
    refine ⟨m4, _, p118_91_1 hx hl e1 e2 cu e3 e4, F4, zwn_lt hc _, ?_, by rcases g3' with g | g <;> omega, by omega, ?_⟩
    · have : m4 521 132 0 ≤ 50 := by rw [g4]; exact zre_b hc rfl (by decide) (by rcases g3' with g | g <;> omega)
      omega
    · unfold zhead
      by_cases q : m1 522 132 0 = 0
      · rw [if_pos (good.mp q)]
        have a1 := at1 q
        rw [a1] at cu g2
        rw [if_pos cu, ← g2]
        rcases g3' with ⟨r1, r2, r3⟩ | ⟨r1, r2, r3⟩
        · rw [if_pos r1]
          exact ⟨by omega, by rw [r2], by rw [g4, r2], u4⟩
        · rw [if_neg r1]
          show m4 522 132 0 = 1
          omega
      · rw [if_neg (fun z => q (good.mpr z))]
        show m4 522 132 0 = 1
        rcases g3' with g | g <;> omega
  · refine ⟨m2, _, p118_91_2 hx hl e1 e2 cu (by decide) (by decide) (zwn_lt hc _), F2, zwn_lt hc _, by omega, by omega, by omega, ?_⟩
    unfold zhead
    by_cases q : m1 522 132 0 = 0
    · rw [if_pos (good.mp q)]
      have a1 := at1 q
      rw [a1] at cu g2 ⊢
      rw [if_neg cu]
      exact ⟨by omega, rfl, g2, u2⟩
    · rw [if_neg (fun z => q (good.mpr z))]
      show m2 522 132 0 = 1
      omega
/-- behind the word -/
theorem s118c (hx : zFx h) (hl : zLC m c) {x p : Nat} {u : Bool} (hxx : x < 18446744073709551616) (hp : znp m ≤ 40) (ha : m 521 132 0 = p) (hap : p ≤ 52) (hb : m 522 132 0 = 0) (hu : m 525 132 0 = u.toNat) : ∃ (h' : zH) (m' : zMm) (k : Nat), zEv (zPr L xs) 7 118 139 [.val (.ref 132), .val (.long (nL x)), .second, .unset] [] (zMH h m) = some (.inl (some (.int (nI k))), zMH h' m') ∧ zhL h h' ∧ zfr zfR m m' ∧ (if zcmd x = 0 ∨ u = true ∧ zcmd x < 10 then k = 0 else match zrest c (zenv m c) u (zcmd x) p with
    | none => k = 0
    | some (e, a) => if e = m 0 148 (m 520 132 0) then k = zcmd x ∧ m' 522 132 0 = 0 ∧ zAR h' m' c (zenv m c) u k a else k = 0) := by
  have hc := hl.2.2
  have ll := hl.1.2
  have s3 := hl.1.1
  have k13 := zcmd_le x
  have e0 := s116 (L := L) (xs := xs) (h := h) hx hl hxx
  by_cases c1 : zcmd x = 0
  · refine ⟨h, m, 0, ?_, Or.inl rfl, zfr_rf _ _, ?_⟩
    · rw [p118_139_4 hx hl e0 hb c1]; exact p118_169_1 hx hl
    · rw [if_pos (Or.inl c1)]
  · by_cases c2 : u = true ∧ zcmd x < 10
    · refine ⟨h, m, 0, ?_, Or.inl rfl, zfr_rf _ _, ?_⟩
      · have : m 525 132 0 = 1 := by rw [hu, c2.1]; rfl
        rw [p118_139_1 hx hl e0 hb c1 (by omega) c2.2]; exact p118_169_1 hx hl
      · rw [if_pos (Or.inr c2)]
    · have nn : ¬ (zcmd x = 0 ∨ u = true ∧ zcmd x < 10) := fun q => q.elim c1 c2
      simp only [if_neg nn]
      have st : zEv (zPr L xs) 7 118 139 [.val (.ref 132), .val (.long (nL x)), .second, .unset] [] (zMH h m) = zEv (zPr L xs) 7 118 171 [.val (.ref 132), .val (.long (nL x)), .second, .val (.int (nI (zcmd x)))] [] (zMH h m) := by
        cases hu2 : u with
        | false => exact p118_139_3 hx hl e0 hb c1 (by rw [hu, hu2]; rfl)
        | true =>
          have : m 525 132 0 = 1 := by rw [hu, hu2]; rfl
          exact p118_139_2 hx hl e0 hb c1 (by omega) (Nat.le_of_not_lt fun q => c2 ⟨hu2, q⟩)
      rw [st]
      -- the end: what is left of the line decides
      have fin : ∀ (h1 : zH) (m1 : zMm), zFx h1 → zfr zfR m m1 → m1 522 132 0 ≤ 1 → (m1 522 132 0 = 0 → m1 521 132 0 ≤ 99) → zEv (zPr L xs) 7 118 231 [.val (.ref 132), .val (.long (nL x)), .second, .val (.int (nI (zcmd x)))] [] (zMH h1 m1) = some (.inl (some (.int (nI (if m1 522 132 0 = 0 ∧ m1 521 132 0 = m 0 148 (m 520 132 0) then zcmd x else 0)))), zMH h1 m1) := by
        intro h1 m1 hx1 F1 hb1 ha1
        have hl1 := zLC_fr hl F1
        have t3 := hl1.1.1
        have tl := hl1.1.2
        have es : m1 520 132 0 = m 520 132 0 := F1 _ _ _ (by decide)
        have el : m1 0 148 (m1 520 132 0) = m 0 148 (m 520 132 0) := by rw [es]; exact F1 _ _ _ (by decide)
        by_cases b : m1 522 132 0 = 0
        · have := ha1 b
          by_cases e : m1 521 132 0 = m 0 148 (m 520 132 0)
          · rw [if_pos ⟨b, e⟩, p118_231_2 hx1 hl1 b (by rw [el]; exact e)]
            exact p118_259_1 hx1 hl1
          · rw [if_neg (fun q => e q.2), p118_231_1 hx1 hl1 b (by rw [el]; exact e) t3 (by omega) (by omega), p118_254_1 hx1 hl1]
            exact p118_259_1 hx1 hl1
        · rw [if_neg (fun q => b q.1), p118_231_3 hx1 hl1 b (by omega), p118_254_1 hx1 hl1]
          exact p118_259_1 hx1 hl1
      unfold zrest
      by_cases k4 : zcmd x ≤ 4
      · rw [if_pos k4]
        have G := fin h m hx (zfr_rf _ _) (by omega) (fun _ => by omega)
        refine ⟨h, m, (if m 522 132 0 = 0 ∧ m 521 132 0 = m 0 148 (m 520 132 0) then zcmd x else 0), ?_, Or.inl rfl, zfr_rf _ _, ?_⟩
        · rw [p118_171_2 hx hl k4, p118_182_3 hx hl (by omega) k4, p118_205_2 hx hl (by omega)]
          exact G
        · show if p = _ then _ else _
          by_cases e : p = m 0 148 (m 520 132 0)
          · rw [if_pos e, if_pos ⟨hb, by rw [ha]; exact e⟩]
            exact ⟨rfl, hb, fun q => by omega, fun q => by omega, fun q => by omega, fun q => by omega, fun q => by omega, fun q => by omega, fun q => by omega⟩
          · rw [if_neg e, if_neg (fun q => e (by rw [← ha]; exact q.2))]
      · rw [if_neg k4]
        obtain ⟨m1, e1, f1, g1⟩ := s96g (L := L) (xs := xs) hx hl 32 (by omega)
        have F1 : zfr zfR m m1 := zfr_w f1 (by decide)
        have hl1 := zLC_fr hl F1
        have en := zenv_fr (c := c) F1
        have es : m1 520 132 0 = m 520 132 0 := F1 _ _ _ (by decide)
        have el : m1 0 148 (m1 520 132 0) = m 0 148 (m 520 132 0) := by rw [es]; exact F1 _ _ _ (by decide)
        have a1 : m1 521 132 0 ≤ 53 := by rcases g1 with g | g <;> omega
        have b1 : m1 522 132 0 ≤ 1 := by rcases g1 with g | g <;> omega
        rw [p118_171_1 hx hl (Nat.lt_of_not_le k4) e1]
        by_cases k10 : 10 ≤ zcmd x
        · obtain ⟨h2, m2, e2, z2, f2, r1, r2, r3⟩ := s117 (L := L) (xs := xs) hx hl1 ⟨k10, k13⟩ (by omega) b1 (by rw [en.2.2.2]; exact hp) u
          have F2 : zfr zfR m m2 := zfr_tr F1 f2 (fun _ q => q) (fun _ q => q)
          have hx2 := zhL_fx hx z2
          have hl2 := zLC_fr hl F2
          rw [p118_182_1 hx hl1 k10 e2 hx2, p118_205_2 hx2 hl2 (by omega)]
          rw [en.1, el] at r3
          rcases g1 with ⟨q1, q2, q3⟩ | ⟨q1, q2, q3⟩
          · have r3 := r3 (by omega)
            rw [q2, ha] at r3
            rw [ha] at q1
            rw [if_pos q1, if_neg (by omega)]
            cases hz : zrest2 c (zenv m c) u (zcmd x) (p + 1) with
            | none =>
              rw [hz] at r3
              have r3 : m2 522 132 0 = 1 := r3
              refine ⟨h2, m2, _, fin h2 m2 hx2 F2 r1 (fun q => by omega), z2, F2, ?_⟩
              show (if _ then _ else _) = 0
              rw [if_neg (fun q => by omega)]
            | some r =>
              obtain ⟨e, a⟩ := r
              rw [hz] at r3
              obtain ⟨y1, y2, y3, y4⟩ := r3
              refine ⟨h2, m2, _, fin h2 m2 hx2 F2 r1 (fun q => by omega), z2, F2, ?_⟩
              show if e = _ then _ else _
              by_cases e' : e = m 0 148 (m 520 132 0)
              · have b0 : m2 522 132 0 = 0 := Decidable.byContradiction fun q => by have := y3 (by omega); omega
                rw [if_pos e', if_pos ⟨b0, by rw [y1]; exact e'⟩]
                exact ⟨rfl, b0, y4⟩
              · rw [if_neg e', if_neg (fun q => e' (by rw [← y1]; exact q.2))]
          · have r2 := r2 q3
            rw [ha] at q1
            rw [if_neg q1]
            refine ⟨h2, m2, _, fin h2 m2 hx2 F2 r1 (fun q => by omega), z2, F2, ?_⟩
            show (if _ then _ else _) = 0
            rw [if_neg (fun q => by omega)]
        · obtain ⟨m2, e2, f2, r0, r1, r2, r3⟩ := s97g (L := L) (xs := xs) hx hl1 (by omega) b1
          have F2 : zfr zfR m m2 := zfr_tr F1 f2 (fun _ q => q) (by decide)
          have hl2 := zLC_fr hl F2
          rw [p118_182_2 hx hl1 (Nat.lt_of_not_le k10) (Nat.lt_of_not_le k4) e2]
          have B : m2 522 132 0 = 0 ↔ (c p = 32 ∧ 97 ≤ c (p + 1) ∧ c (p + 1) ≤ 100) := by
            rcases g1 with ⟨q1, q2, q3⟩ | ⟨q1, q2, q3⟩
            · have r3 := r3 (by omega)
              rw [q2, ha] at r3
              rw [ha] at q1
              rcases r3 with ⟨w1, w2, w3, w4⟩ | ⟨w1, w2⟩
              · exact ⟨fun _ => ⟨q1, w1, w2⟩, fun _ => w3⟩
              · exact ⟨fun z => by omega, fun z => absurd z.2 w1⟩
            · rw [ha] at q1
              exact ⟨(fun z => by have := r2 q3; omega), fun z => absurd z.1 q1⟩
          have B2 : m2 522 132 0 = 0 → m2 521 132 0 = p + 2 ∧ m2 526 132 0 = c (p + 1) - 97 := by
            intro z
            rcases g1 with ⟨q1, q2, q3⟩ | ⟨q1, q2, q3⟩
            · have r3 := r3 (by omega)
              rw [q2, ha] at r3
              rcases r3 with ⟨w1, w2, w3, w4⟩ | ⟨w1, w2⟩
              · exact ⟨by omega, w4⟩
              · omega
            · have := r2 q3; omega
          by_cases k9 : zcmd x = 9
          · -- APPEND
            obtain ⟨m3, e3, f3, g3⟩ := s96g (L := L) (xs := xs) hx hl2 32 (by omega)
            have F3 : zfr zfR m m3 := zfr_tr F2 f3 (fun _ q => q) (by decide)
            have hl3 := zLC_fr hl F3
            have a3 : m3 521 132 0 ≤ 55 := by rcases g3 with g | g <;> omega
            have b3 : m3 522 132 0 ≤ 1 := by rcases g3 with g | g <;> omega
            obtain ⟨m4, e4, f4, v1, v2, v3, v4⟩ := s99 (L := L) (xs := xs) hx hl3 (by omega) b3
            have F4 : zfr zfR m m4 := zfr_tr F3 f4 (fun _ q => q) (by decide)
            have hl4 := zLC_fr hl F4
            obtain ⟨m5, e5, f5, g5⟩ := s96g (L := L) (xs := xs) hx hl4 32 (by omega)
            have F5 : zfr zfR m m5 := zfr_tr F4 f5 (fun _ q => q) (by decide)
            have hl5 := zLC_fr hl F5
            have a5 : m5 521 132 0 ≤ 71 := by rcases g5 with g | g <;> omega
            have b5 : m5 522 132 0 ≤ 1 := by rcases g5 with g | g <;> omega
            obtain ⟨m6, e6, f6, t1, t2, t3, t4, t5, t6⟩ := s100g (L := L) (xs := xs) hx hl5 (by omega) b5
            have F6 : zfr zfR m m6 := zfr_tr F5 f6 (fun _ q => q) (by decide)
            have hl6 := zLC_fr hl F6
            have a6 : m6 521 132 0 ≤ 71 := by rw [t2]; exact zre_b hc rfl (by decide) a5
            rw [p118_205_1 hx hl2 k9 e3 e4 e5 e6]
            refine ⟨h, m6, _, fin h m6 hx F6 t4 (fun _ => by omega), Or.inl rfl, F6, ?_⟩
            have up3 : m3 522 132 0 = 0 → m2 522 132 0 = 0 ∧ c (p + 2) = 32 ∧ m3 521 132 0 = p + 3 := fun z => by
              have hz : m2 522 132 0 = 0 := Decidable.byContradiction fun q => by rcases g3 with g | g <;> omega
              rcases g3 with ⟨w1, w2, w3⟩ | ⟨w1, w2, w3⟩
              · have := (B2 hz).1; rw [this] at w1 w2; exact ⟨hz, w1, w2⟩
              · omega
            have up4 : m4 522 132 0 = 0 → m3 522 132 0 = 0 ∧ ∃ f e, zfls c (p + 3) = some (f, e) ∧ m4 521 132 0 = e ∧ m4 529 132 0 = f := fun z => by
              have hz : m3 522 132 0 = 0 := Decidable.byContradiction fun q => by have := v3 (by omega); omega
              have v4 := v4 hz
              rw [(up3 hz).2.2] at v4
              cases hf : zfls c (p + 3) with
              | none => rw [hf] at v4; have v4 : m4 522 132 0 = 1 := v4; omega
              | some r => obtain ⟨f, e⟩ := r; rw [hf] at v4; exact ⟨hz, f, e, rfl, v4.2.1, v4.2.2⟩
            have up5 : m5 522 132 0 = 0 → m4 522 132 0 = 0 ∧ c (m4 521 132 0) = 32 ∧ m5 521 132 0 = m4 521 132 0 + 1 := fun z => by
              have hz : m4 522 132 0 = 0 := Decidable.byContradiction fun q => by rcases g5 with g | g <;> omega
              rcases g5 with ⟨w1, w2, w3⟩ | ⟨w1, w2, w3⟩
              · exact ⟨hz, w1, w2⟩
              · omega
            have up6 : m6 522 132 0 = 0 → m5 522 132 0 = 0 := fun z => Decidable.byContradiction fun q => by have := t5 (by omega); omega
            have no : ∀ (P : Prop), (m6 522 132 0 = 0 → P) → ¬ P → (if m6 522 132 0 = 0 ∧ m6 521 132 0 = m 0 148 (m 520 132 0) then zcmd x else 0) = 0 := fun P hP nP => if_neg fun q => nP (hP q.1)
            by_cases c32 : c p = 32
            · rw [if_pos c32, if_pos (by omega)]
              by_cases cb : 97 ≤ c (p + 1) ∧ c (p + 1) ≤ 100
              · rw [if_pos cb, if_pos k9]
                have bd2 := B.mpr ⟨c32, cb⟩
                by_cases d32 : c (p + 2) = 32
                · rw [if_pos d32]
                  have h3 : m3 522 132 0 = 0 := by
                    rcases g3 with ⟨w1, w2, w3⟩ | ⟨w1, w2, w3⟩
                    · omega
                    · rw [(B2 bd2).1] at w1; exact absurd d32 w1
                  have v4 := v4 h3
                  rw [(up3 h3).2.2] at v4
                  cases hf : zfls c (p + 3) with
                  | none =>
                    rw [hf] at v4
                    have v4 : m4 522 132 0 = 1 := v4
                    exact no (m4 522 132 0 = 0) (fun q => (up5 (up6 q)).1) (by omega)
                  | some r =>
                    obtain ⟨f, e⟩ := r
                    rw [hf] at v4
                    obtain ⟨w1, w2, w3⟩ := v4
                    have ok := zfls_ok hc hf
                    dsimp only
                    by_cases ce : c e = 32
                    · have h5 : m5 522 132 0 = 0 ∧ m5 521 132 0 = e + 1 := by
                        rcases g5 with ⟨y1, y2, y3⟩ | ⟨y1, y2, y3⟩
                        · exact ⟨by omega, by omega⟩
                        · rw [w2] at y1; exact absurd ce y1
                      have t6 := t6 h5.1
                      rw [h5.2] at t1 t2 t3 t6
                      by_cases ct : 1 ≤ zre zsml c (e + 1) - (e + 1) ∧ zre zsml c (e + 1) - (e + 1) ≤ 6
                      · rw [if_pos ct] at t6
                        rw [if_pos ⟨ce, ct⟩]
                        dsimp only
                        by_cases e' : zre zsml c (e + 1) = m 0 148 (m 520 132 0)
                        · rw [if_pos e', if_pos ⟨t6, by rw [t2]; exact e'⟩]
                          have mk : m6 529 132 0 = f := (f6 _ _ _ (by decide)).trans ((f5 _ _ _ (by decide)).trans w3)
                          have bx : m6 526 132 0 = c (p + 1) - 97 := (f6 _ _ _ (by decide)).trans ((f5 _ _ _ (by decide)).trans ((f4 _ _ _ (by decide)).trans ((f3 _ _ _ (by decide)).trans (B2 bd2).2)))
                          exact ⟨rfl, t6, fun _ => ⟨bx, by show c (p + 1) - 97 < 4; omega⟩, fun _ => ⟨mk, ok.2.1⟩, fun q => by omega, fun _ => ⟨t1, t3, by omega, ct.1, ct.2⟩, fun q => by omega, fun q => by omega, fun q => by omega⟩
                        · rw [if_neg e', if_neg (fun q => e' (by rw [← t2]; exact q.2))]
                      · rw [if_neg ct] at t6
                        rw [if_neg (fun q => ct q.2)]
                        exact no False (fun q => by omega) (fun q => q)
                    · rw [if_neg (fun q => ce q.1)]
                      exact no (c e = 32) (fun q => by have := (up5 (up6 q)).2.1; rw [w2] at this; exact this) ce
                · rw [if_neg d32]
                  exact no (c (p + 2) = 32) (fun q => (up3 (up4 (up5 (up6 q)).1).1).2.1) d32
              · rw [if_neg cb]
                exact no (m2 522 132 0 = 0) (fun q => (up3 (up4 (up5 (up6 q)).1).1).1) (fun q => cb (B.mp q).2)
            · rw [if_neg c32]
              exact no (m2 522 132 0 = 0) (fun q => (up3 (up4 (up5 (up6 q)).1).1).1) (fun q => c32 (B.mp q).1)
          · rw [p118_205_2 hx hl2 k9]
            refine ⟨h, m2, _, fin h m2 hx F2 r1 (fun _ => by omega), Or.inl rfl, F2, ?_⟩
            by_cases c32 : c p = 32
            · rw [if_pos c32, if_pos (by omega)]
              by_cases cb : 97 ≤ c (p + 1) ∧ c (p + 1) ≤ 100
              · rw [if_pos cb, if_neg k9]
                have bd2 := B.mpr ⟨c32, cb⟩
                dsimp only
                by_cases e' : p + 2 = m 0 148 (m 520 132 0)
                · rw [if_pos e', if_pos ⟨bd2, by rw [(B2 bd2).1]; exact e'⟩]
                  exact ⟨rfl, bd2, fun _ => ⟨(B2 bd2).2, by show c (p + 1) - 97 < 4; omega⟩, fun q => by omega, fun q => by omega, fun q => by omega, fun q => by omega, fun q => by omega, fun q => by omega⟩
                · rw [if_neg e', if_neg (fun q => e' (by rw [← (B2 bd2).1]; exact q.2))]
              · rw [if_neg cb]
                show (if _ then _ else _) = 0
                rw [if_neg (fun q => cb (B.mp q.1).2)]
            · rw [if_neg c32]
              show (if _ then _ else _) = 0
              rw [if_neg (fun q => c32 (B.mp q.1).1)]
/-- a whole line -/
theorem s118 (hx : zFx h) (hl : zLC m c) (hp : znp m ≤ 40) : ∃ (h' : zH) (m' : zMm) (k : Nat), zCl (zPr L xs) 118 [.ref 132] (zMH h m) = some (.inl (some (.int (nI k))), zMH h' m') ∧ zhL h h' ∧ zfr zfQ m m' ∧ (match zread c (zenv m c) (m 0 148 (m 520 132 0)) with
    | none => k = 0
    | some (k', u, t, a) => k = k' ∧ 1 ≤ k' ∧ k' ≤ 13 ∧ (u = true → 10 ≤ k') ∧ m' 524 132 0 = t ∧ t ≤ 2 ∧ m' 525 132 0 = u.toNat ∧ m' 522 132 0 = 0 ∧ zAR h' m' c (zenv m c) u k' a) := by
  obtain ⟨m1, e1, f1, a1, a2, a3, a4⟩ := s118a (L := L) (xs := xs) hx hl
  have hl1 := zLC_fr hl f1
  obtain ⟨m2, x, e2, f2, b1, b2, b3, b4, b5⟩ := s118b (L := L) (xs := xs) hx hl1 a1 a4
  have F2 : zfr zfQ m m2 := zfr_tr f1 f2 (fun _ q => q) (by decide)
  have hl2 := zLC_fr hl F2
  have en := zenv_fr (c := c) F2
  have t2 : m2 524 132 0 = zre ztg c 0 := (f2 _ _ _ (by decide)).trans a2
  have es : m2 520 132 0 = m 520 132 0 := F2 _ _ _ (by decide)
  have el : m2 0 148 (m2 520 132 0) = m 0 148 (m 520 132 0) := by rw [es]; exact F2 _ _ _ (by decide)
  rw [en_118, e1, e2]
  unfold zread
  by_cases b : m2 522 132 0 = 0
  · cases hz : zhead c with
    | none => rw [hz] at b5; have b5 : m2 522 132 0 = 1 := b5; omega
    | some r =>
      obtain ⟨u, x', p⟩ := r
      rw [hz] at b5
      obtain ⟨q1, q2, q3, q4⟩ := b5
      have tt : zre ztg c 0 ≤ 2 := by
        unfold zhead at hz
        split at hz
        · rename_i g; exact g.2.1
        · cases hz
      obtain ⟨h', m', k, e3, z3, f3, g⟩ := s118c (L := L) (xs := xs) (u := u) (p := p) hx hl2 b1 (by rw [en.2.2.2]; exact hp) q3 (by omega) b q4
      have F3 : zfr zfQ m m' := zfr_tr F2 f3 (fun _ q => q) (by decide)
      refine ⟨h', m', k, e3, z3, F3, ?_⟩
      rw [en.1, el, q2] at g
      dsimp only
      by_cases c1 : zcmd x' = 0 ∨ u = true ∧ zcmd x' < 10
      · rw [if_pos c1] at g ⊢
        exact g
      · rw [if_neg c1] at g ⊢
        cases hr : zrest c (zenv m c) u (zcmd x') p with
        | none => rw [hr] at g; exact g
        | some r =>
          obtain ⟨e, a⟩ := r
          rw [hr] at g
          dsimp only at g ⊢
          by_cases ee : e = m 0 148 (m 520 132 0)
          · rw [if_pos ee] at g ⊢
            obtain ⟨g1, g0, g2⟩ := g
            rw [g1] at g2
            exact ⟨g1, Nat.pos_of_ne_zero fun q => c1 (Or.inl q), zcmd_le _, fun q => Nat.le_of_not_lt fun w => c1 (Or.inr ⟨q, w⟩), (f3 _ _ _ (by decide)).trans t2, tt, (f3 _ _ _ (by decide)).trans q4, g0, g2⟩
          · rw [if_neg ee] at g ⊢
            exact g
  · have e0 := s116 (L := L) (xs := xs) (h := h) hx hl2 b1
    have hcm := zcmd_le x
    refine ⟨h, m2, 0, ?_, Or.inl rfl, F2, ?_⟩
    · rw [p118_139_5 (w3 := .unset) hx hl2 e0 b]; exact p118_169_1 hx hl2
    · cases hz : zhead c with
      | none => rfl
      | some r =>
        rw [hz] at b5
        obtain ⟨u, x', p⟩ := r
        exact absurd b5.1 b
end
