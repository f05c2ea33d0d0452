/-! ===== the reference reads the rest of a line, and a line ===== -/
/-- box, mask, sign, where a text is, its length, item, wrong, places -/
abbrev zArg : Type := Nat × Nat × Nat × Nat × Nat × Nat × Bool × zHd
def zitem (w : Nat) : Option Nat := if w = 6846401536 then some 0 else if w = 22854762496 then some 1 else if w = 21668429824 then some 2 else none
def zsgn (x : Nat) : Nat := if x = 43 then 1 else if x = 45 then 2 else 0
def zrest2 (c : Nat → Nat) (E : zEnv) (u : Bool) (k p : Nat) : Option (Nat × zArg) :=
  if k = 13 then (match zks c E 130 true 0 p with
    | none => none
    | some (e, w, P) => some (e, (0, 0, 0, 0, 0, 0, w, P)))
  else match zset c 64 p with
    | none => none
    | some (l, e) =>
      if c e = 32 then
        (if k = 10 then (match zfls c (if zsgn (c (e + 1)) = 0 then e + 1 else e + 2) with
          | none => none
          | some (f, e2) => some (e2, (0, f, zsgn (c (e + 1)), 0, 0, 0, (!u && zrsw l E.1), fun n => zrsin l (if u then E.2.2.1 n else n) (if u then E.2.1 else E.1))))
        else if k = 11 then (match zitem (zwn c (e + 1)) with
          | none => none
          | some i => some (zre zlrg c (e + 1), (0, 0, 0, 0, 0, i, (!u && zrsw l E.1), fun n => zrsin l (if u then E.2.2.1 n else n) (if u then E.2.1 else E.1))))
        else if 97 ≤ c (e + 1) ∧ c (e + 1) ≤ 100 then some (e + 2, (c (e + 1) - 97, 0, 0, 0, 0, 0, (!u && zrsw l E.1), fun n => zrsin l (if u then E.2.2.1 n else n) (if u then E.2.1 else E.1)))
        else none)
      else none
def zrest (c : Nat → Nat) (E : zEnv) (u : Bool) (k p : Nat) : Option (Nat × zArg) :=
  if k ≤ 4 then some (p, (0, 0, 0, 0, 0, 0, false, fun _ => false))
  else if c p = 32 then
    (if k ≤ 9 then
      (if 97 ≤ c (p + 1) ∧ c (p + 1) ≤ 100 then
        (if k = 9 then
          (if c (p + 2) = 32 then (match zfls c (p + 3) with
            | none => none
            | some (f, e) => if c e = 32 ∧ 1 ≤ zre zsml c (e + 1) - (e + 1) ∧ zre zsml c (e + 1) - (e + 1) ≤ 6 then some (zre zsml c (e + 1), (c (p + 1) - 97, f, 0, e + 1, zre zsml c (e + 1) - (e + 1), 0, false, fun _ => false)) else none)
          else none)
        else some (p + 2, (c (p + 1) - 97, 0, 0, 0, 0, 0, false, fun _ => false)))
      else none)
    else zrest2 c E u k (p + 1))
  else none
/-- what the reference keeps of a line that was read -/
def zAR (h : zH) (m : zMm) (c : Nat → Nat) (E : zEnv) (u : Bool) (k : Nat) (a : zArg) : Prop :=
  ((5 ≤ k ∧ k ≤ 9 ∨ k = 12) → m 526 132 0 = a.1 ∧ a.1 < 4) ∧
  (k = 9 ∨ k = 10 → m 529 132 0 = a.2.1 ∧ a.2.1 < 16) ∧
  (k = 10 → m 530 132 0 = (if a.2.2.1 = 0 then 0 else if a.2.2.1 = 1 then 1 else 4294967295) ∧ a.2.2.1 ≤ 2) ∧
  (k = 9 → m 531 132 0 = a.2.2.2.1 ∧ m 532 132 0 = a.2.2.2.2.1 ∧ m 531 132 0 ≤ 64 ∧ 1 ≤ a.2.2.2.2.1 ∧ a.2.2.2.2.1 ≤ 6) ∧
  (k = 11 → ∃ w, zL h 533 132 0 = nL w ∧ w < 18446744073709551616 ∧ zitem w = some a.2.2.2.2.2.1) ∧
  (10 ≤ k → k ≤ 12 → ∃ l, zset c 64 (m 527 132 0) = some (l, m 528 132 0) ∧ m 527 132 0 ≤ 64 ∧ a.2.2.2.2.2.2.1 = (!u && zrsw l E.1) ∧ a.2.2.2.2.2.2.2 = fun n => zrsin l (if u then E.2.2.1 n else n) (if u then E.2.1 else E.1)) ∧
  (k = 13 → m 534 132 0 ≤ 64 ∧ m 523 132 0 = a.2.2.2.2.2.2.1.toNat ∧ ∃ e, zks c E 130 true 0 (m 534 132 0) = some (e, a.2.2.2.2.2.2.1, a.2.2.2.2.2.2.2) ∧ (m 522 132 0 = 0 → m 0 148 (m 520 132 0) ≤ e))
def zhL (h h' : zH) : Prop := h' = h ∨ ∃ x, h' = zsL h 533 132 0 x
theorem zhL_fx {h h' : zH} (hx : zFx h) (hz : zhL h h') : zFx h' := by
  rcases hz with rfl | ⟨x, rfl⟩
  · exact hx
  · exact hx
abbrev zfR : List (Nat × Nat) := [(521, 132), (522, 132), (523, 132), (527, 132), (528, 132), (531, 132), (532, 132), (535, 132), (0, 151), (0, 152), (0, 153), (529, 132), (530, 132), (526, 132), (534, 132)]
section
variable {L : Nat} {xs : Nat → Int32} {h : zH} {m : zMm} {c : Nat → Nat}
theorem zbool2 {x : Nat} (hx : x < 2) : ∃ b : Bool, x = b.toNat := by
  rcases Nat.lt_or_ge x 1 with g | g
  · exact ⟨false, by show x = 0; omega⟩
  · exact ⟨true, by show x = 1; omega⟩
/-- a search when the line is bad already -/
theorem s115b (hx : zFx h) (hl : zLC m c) {n : Nat} (hb : m 522 132 0 = 1) : ∃ (m' : zMm) (b : Bool), zCl (zPr L xs) 115 [.ref 132, .int (nI n)] (zMH h m) = some (.inl (some (.int (nI b.toNat))), zMH h m') ∧ m' 522 132 0 = 1 ∧ zfr zfS m m' := by
  have F0 : zfr zfS m (u3 (u3 m 521 132 0 (m 534 132 0)) 535 132 0 4294967295) := zfr_u (zfr_u (zfr_rf _ _) (by decide)) (by decide)
  have hl0 := zLC_fr hl F0
  obtain ⟨m1, e1, f1, g1, g2, g3, g4, -⟩ := s112 (L := L) (xs := xs) (k := 0) (t := 0) hx hl0 (by show nI 4294967295 + nI 1 = nI 0; decide) (by decide) (by decide)
  have F1 : zfr zfS m m1 := zfr_tr F0 f1 (fun _ q => q) (by decide)
  have hl1 := zLC_fr hl F1
  rw [if_neg (by decide)] at g4
  have b1 : m1 522 132 0 = 1 := (f1 _ _ _ (by decide)).trans hb
  rw [en_115, p115_0_1 hx hl e1, zHead hx hl1, zDs_bad hx hl1 b1]
  exact ⟨m1, true, by rw [zFD_bad hx hl1 (by decide) (by decide) b1 (by rw [g4]; decide), g4]; rfl, b1, F1⟩
/-- a set and the blank behind it -/
theorem s117a (hx : zFx h) (hl : zLC m c) (ha : m 521 132 0 ≤ 60) (hb : m 522 132 0 ≤ 1) : ∃ (m1 m2 : zMm), zCl (zPr L xs) 102 [.ref 132] (zMH h m) = some (.inl none, zMH h m1) ∧ zCl (zPr L xs) 96 [.ref 132, .int (nI 32)] (zMH h m1) = some (.inl none, zMH h m2) ∧ zfr [(521, 132), (522, 132), (527, 132), (528, 132)] m m2 ∧ m2 521 132 0 ≤ 66 ∧ m2 522 132 0 ≤ 1 ∧ m2 527 132 0 = m 521 132 0 ∧ (m 522 132 0 = 1 → m2 522 132 0 = 1) ∧ (m 522 132 0 = 0 → match zset c 64 (m 521 132 0) with
    | none => m2 522 132 0 = 1
    | some (_, e) => if c e = 32 then m2 522 132 0 = 0 ∧ m2 521 132 0 = e + 1 ∧ m2 528 132 0 = e else m2 522 132 0 = 1) := by
  obtain ⟨m1, e1, f1, g1, g2, g3, g4, g5, g6⟩ := s102 (L := L) (xs := xs) hx hl (by omega) hb
  have hl1 := zLC_fr hl f1
  obtain ⟨m2, e2, f2, k1⟩ := s96g (L := L) (xs := xs) hx hl1 32 (by omega)
  have s2 : m2 528 132 0 = m1 528 132 0 := f2 _ _ _ (by decide)
  refine ⟨m1, m2, e1, e2, zfr_tr f1 f2 (fun _ q => q) (by decide), by rcases k1 with k1 | k1 <;> omega, by rcases k1 with k1 | k1 <;> omega, (f2 _ _ _ (by decide)).trans g3, fun q => by rcases k1 with k1 | k1 <;> omega, fun q => ?_⟩
  have g := g6 q
  cases hz : zset c 64 (m 521 132 0) with
  | none => rw [hz] at g; show m2 522 132 0 = 1; rcases k1 with k1 | k1 <;> omega
  | some r =>
    obtain ⟨l, e⟩ := r
    rw [hz] at g
    obtain ⟨ga, gb⟩ := g
    show if c e = 32 then _ else _
    rw [← gb]
    rcases k1 with ⟨a1, a2, a3⟩ | ⟨a1, a2, a3⟩
    · rw [if_pos a1]; exact ⟨by omega, a2, by omega⟩
    · rw [if_neg a1]; exact a3
theorem zfls_ok {c : Nat → Nat} (hc : zCh c) {p f e : Nat} (h : zfls c p = some (f, e)) : p < 48 ∧ f < 16 ∧ p < e ∧ e ≤ 48 := by
  unfold zfls at h
  split at h
  · rename_i q
    injection h with h; injection h with h1 h2
    have p48 : p < 48 := Nat.lt_of_not_le fun z => by have := q.1; rw [hc.1 _ z] at this; cases this
    have g := zre_ge hc (f := zflg) rfl (p + 1)
    have e48 : zre zflg c (p + 1) < 48 := Nat.lt_of_not_le fun z => by have := q.2; rw [hc.1 _ z] at this; cases this
    refine ⟨p48, ?_, by omega, by omega⟩
    rw [← h1]; exact zmk_lt _ _ _ _ (by decide)
  · cases h
theorem zc_lt {c : Nat → Nat} (hc : zCh c) {p x : Nat} (h : c p = x) (hx : x ≠ 0 := by decide) : p < 48 := Nat.lt_of_not_le fun z => hx (by rw [← h, hc.1 _ z])
/-- the rest of a command with a set or a search -/
theorem s117 (hx : zFx h) (hl : zLC m c) {k : Nat} (hk : 10 ≤ k ∧ k ≤ 13) (ha : m 521 132 0 ≤ 60) (hb : m 522 132 0 ≤ 1) (hp : znp m ≤ 40) (u : Bool) : ∃ (h' : zH) (m' : zMm), zCl (zPr L xs) 117 [.ref 132, .int (nI k)] (zMH h m) = some (.inl none, zMH h' m') ∧ zhL h h' ∧ zfr zfR m m' ∧ m' 522 132 0 ≤ 1 ∧ (m 522 132 0 = 1 → m' 522 132 0 = 1) ∧ (m 522 132 0 = 0 → match zrest2 c (zenv m c) u k (m 521 132 0) with
    | none => m' 522 132 0 = 1
    | some (e, a) => m' 521 132 0 = e ∧ e ≤ 99 ∧ (m' 522 132 0 = 1 → e < m 0 148 (m 520 132 0)) ∧ zAR h' m' c (zenv m c) u k a) := by
  have hc := hl.2.2
  rw [en_117]
  by_cases k13 : k = 13
  · have F0 : zfr zfR m (u3 (u3 m 534 132 0 (m 521 132 0)) 523 132 0 0) := zfr_u (zfr_u (zfr_rf _ _) (by decide)) (by decide)
    have hl0 := zLC_fr hl F0
    have en := zenv_fr (c := c) F0
    by_cases b : m 522 132 0 = 0
    · have S := s115 (L := L) (xs := xs) (n := 0) hx hl0 (by decide) (fun q => absurd rfl q) (by rw [en.2.2.2]; exact hp) (by show m 521 132 0 ≤ 64; omega) b (by show (0 : Nat) ≤ 1; decide) (fun q => absurd rfl q) (fun q => absurd rfl q)
      have hs : u3 (u3 m 534 132 0 (m 521 132 0)) 523 132 0 0 534 132 0 = m 521 132 0 := rfl
      rw [hs, en.1] at S
      unfold zrest2
      cases hz : zks c (zenv m c) 130 true 0 (m 521 132 0) with
      | none =>
        rw [hz] at S
        obtain ⟨m', x, e1, x2, q1, q2⟩ := S
        obtain ⟨y, rfl⟩ := zbool2 x2
        refine ⟨h, m', p117_0_1 hx hl k13 e1, Or.inl rfl, zfr_tr F0 q2 (fun _ q => q) (by decide), by omega, fun _ => q1, fun _ => ?_⟩
        rw [if_pos k13]
        exact q1
      | some r =>
        obtain ⟨e, w, P⟩ := r
        rw [hz] at S
        obtain ⟨m', y, e1, q2, g1, g2, g3, g4, -⟩ := S
        refine ⟨h, m', p117_0_1 hx hl k13 e1, Or.inl rfl, zfr_tr F0 q2 (fun _ q => q) (by decide), by rw [g3]; split <;> omega, fun q => by omega, fun _ => ?_⟩
        rw [if_pos k13]
        refine ⟨g1, by omega, fun q => ?_, fun q => by omega, fun q => by omega, fun q => by omega, fun q => by omega, fun q => by omega, fun q => by omega, fun _ => ?_⟩
        · rw [g3] at q
          show e < m 0 148 (m 520 132 0)
          have q : (if e < m 0 148 (m 520 132 0) then 1 else 0) = 1 := q
          exact Decidable.byContradiction fun z => by rw [if_neg z] at q; cases q
        · have s1 : m' 534 132 0 = m 521 132 0 := q2 _ _ _ (by decide)
          refine ⟨by omega, ?_, e, by rw [s1]; exact hz, fun q => ?_⟩
          rotate_left
          · have s5 : m' 520 132 0 = m 520 132 0 := q2 _ _ _ (by decide)
            have s6 : m' 0 148 (m 520 132 0) = m 0 148 (m 520 132 0) := q2 _ _ _ (by decide)
            rw [s5, s6]
            rw [g3] at q
            have q : (if e < m 0 148 (m 520 132 0) then 1 else 0) = 0 := q
            exact Nat.le_of_not_lt fun z => by rw [if_pos z] at q; cases q
          rw [g4]
          cases w <;> rfl
    · have b1 : m 522 132 0 = 1 := by omega
      obtain ⟨m', y, e1, q1, q2⟩ := s115b (L := L) (xs := xs) (n := 0) hx hl0 b1
      exact ⟨h, m', p117_0_1 hx hl k13 e1, Or.inl rfl, zfr_tr F0 q2 (fun _ q => q) (by decide), by omega, fun _ => q1, fun q => by omega⟩
  · obtain ⟨m1, m2, e1, e2, f2, g1, g2, g3, g4, g5⟩ := s117a (L := L) (xs := xs) hx hl ha hb
    have hl2 := zLC_fr hl f2
    have F2 : zfr zfR m m2 := zfr_w f2 (by decide)
    unfold zrest2
    rw [if_neg k13]
    by_cases k10 : k = 10
    · -- STORE
      have key : ∃ x p2 m3, p2 = (if zsgn (c (m2 521 132 0)) = 0 then m2 521 132 0 else m2 521 132 0 + 1) ∧ x = (if zsgn (c (m2 521 132 0)) = 0 then 0 else if zsgn (c (m2 521 132 0)) = 1 then 1 else 4294967295) ∧ zCl (zPr L xs) 99 [.ref 132] (zMH h (u3 (u3 m2 530 132 0 x) 521 132 0 p2)) = some (.inl none, zMH h m3) ∧ zEv (zPr L xs) 6 117 0 [.val (.ref 132), .val (.int (nI k))] [] (zMH h m) = some (.inl none, zMH h m3) ∧ zfr [(521, 132), (522, 132), (529, 132)] (u3 (u3 m2 530 132 0 x) 521 132 0 p2) m3 ∧ m3 522 132 0 ≤ 1 ∧ (m2 522 132 0 = 1 → m3 522 132 0 = 1) ∧ (m2 522 132 0 = 0 → match zfls c p2 with
          | none => m3 522 132 0 = 1
          | some (f, e) => m3 522 132 0 = 0 ∧ m3 521 132 0 = e ∧ m3 529 132 0 = f) := by
        by_cases c3 : c (m2 521 132 0) = 43
        · have z : zsgn (c (m2 521 132 0)) = 1 := by unfold zsgn; rw [if_pos c3]
          have F3 : zfr [(530, 132), (521, 132)] m2 (u3 (u3 m2 530 132 0 1) 521 132 0 (m2 521 132 0 + 1)) := zfr_u (zfr_u (zfr_rf _ _) (by decide)) (by decide)
          obtain ⟨m3, e3, f3, r1, r2, r3, r4⟩ := s99 (L := L) (xs := xs) hx (zLC_fr hl2 F3) (by show m2 521 132 0 + 1 ≤ 68; omega) g2
          exact ⟨1, m2 521 132 0 + 1, m3, by rw [z]; rfl, by rw [z]; rfl, e3, p117_0_2 hx hl k13 e1 e2 k10 hl2 c3 e3, f3, r2, r3, r4⟩
        · by_cases c4 : c (m2 521 132 0) = 45
          · have z : zsgn (c (m2 521 132 0)) = 2 := by unfold zsgn; rw [if_neg c3, if_pos c4]
            have F3 : zfr [(530, 132), (521, 132)] m2 (u3 (u3 m2 530 132 0 4294967295) 521 132 0 (m2 521 132 0 + 1)) := zfr_u (zfr_u (zfr_rf _ _) (by decide)) (by decide)
            obtain ⟨m3, e3, f3, r1, r2, r3, r4⟩ := s99 (L := L) (xs := xs) hx (zLC_fr hl2 F3) (by show m2 521 132 0 + 1 ≤ 68; omega) g2
            exact ⟨4294967295, m2 521 132 0 + 1, m3, by rw [z]; rfl, by rw [z]; rfl, e3, p117_0_3 hx hl k13 e1 e2 k10 hl2 c3 c4 e3, f3, r2, r3, r4⟩
          · have z : zsgn (c (m2 521 132 0)) = 0 := by unfold zsgn; rw [if_neg c3, if_neg c4]
            have F3 : zfr [(530, 132), (521, 132)] m2 (u3 (u3 m2 530 132 0 0) 521 132 0 (m2 521 132 0)) := zfr_u (zfr_u (zfr_rf _ _) (by decide)) (by decide)
            obtain ⟨m3, e3, f3, r1, r2, r3, r4⟩ := s99 (L := L) (xs := xs) hx (zLC_fr hl2 F3) (by show m2 521 132 0 ≤ 68; omega) g2
            exact ⟨0, m2 521 132 0, m3, by rw [z]; rfl, by rw [z]; rfl, e3, p117_0_4 hx hl k13 e1 e2 k10 hl2 c3 c4 e3, f3, r2, r3, r4⟩
      obtain ⟨x, p2, m3, hp2, hx2, e3, ev, f3, r2, r3, r4⟩ := key
      have F3 : zfr zfR m m3 := zfr_tr F2 (zfr_tr (l := zfR) (zfr_u (l := [(530, 132), (521, 132)]) (zfr_u (zfr_rf _ m2) (by decide)) (by decide)) f3 (by decide) (by decide)) (fun _ q => q) (fun _ q => q)
      refine ⟨h, m3, ev, Or.inl rfl, F3, r2, fun q => r3 (g4 q), fun q => ?_⟩
      have g := g5 q
      cases hz : zset c 64 (m 521 132 0) with
      | none => rw [hz] at g; exact r3 g
      | some r =>
        obtain ⟨l, e⟩ := r
        rw [hz] at g
        dsimp only at g ⊢
        by_cases c32 : c e = 32
        · rw [if_pos c32] at g
          obtain ⟨ga, gb, gc⟩ := g
          rw [if_pos c32, if_pos k10]
          rw [gb] at hp2 hx2
          rw [show (if zsgn (c (e + 1)) = 0 then e + 1 else e + 2) = p2 from hp2.symm]
          have g := r4 ga
          cases hf : zfls c p2 with
          | none => rw [hf] at g; exact g
          | some r =>
            obtain ⟨f, e4⟩ := r
            rw [hf] at g
            obtain ⟨q1, q2, q3⟩ := g
            have ok := zfls_ok hc hf
            have s1 : m3 530 132 0 = x := f3 _ _ _ (by decide)
            have s2 : m3 527 132 0 = m 521 132 0 := (f3 _ _ _ (by decide)).trans g3
            have s3 : m3 528 132 0 = e := (f3 _ _ _ (by decide)).trans gc
            refine ⟨q2, by omega, fun z => by omega, fun z => by omega, fun _ => ⟨q3, ok.2.1⟩, fun _ => ⟨s1.trans hx2, ?_⟩, fun z => by omega, fun z => by omega, fun _ _ => ⟨l, by rw [s2, s3]; exact hz, by omega, rfl, rfl⟩, fun z => by omega⟩
            show zsgn _ ≤ 2
            unfold zsgn; split
            · omega
            · split <;> omega
        · rw [if_neg c32] at g
          rw [if_neg c32]
          exact r3 g
    · by_cases k11 : k = 11
      · -- FETCH
        obtain ⟨m3, e3, f3, r1⟩ := s95 (L := L) (xs := xs) hx hl2 (by omega)
        have hw : zwn c (m2 521 132 0) < 18446744073709551616 := zwn_lt hc _
        have b3 : m3 522 132 0 = m2 522 132 0 := f3 _ _ _ (by decide)
        have F3 : ∀ z, zfr zfR m (u3 m3 522 132 0 z) := fun z => zfr_u (zfr_tr F2 f3 (fun _ q => q) (by decide)) (by decide)
        have fin : ∀ z, m3 522 132 0 = 0 → (z = 0 ∨ z = 1) → (z = 1 ↔ zitem (zwn c (m2 521 132 0)) = none) → zEv (zPr L xs) 6 117 0 [.val (.ref 132), .val (.int (nI k))] [] (zMH h m) = some (.inl none, zMH (zsL h 533 132 0 (nL (zwn c (m2 521 132 0)))) (u3 m3 522 132 0 z)) → ∃ (h' : zH) (m' : zMm), zEv (zPr L xs) 6 117 0 [.val (.ref 132), .val (.int (nI k))] [] (zMH h m) = some (.inl none, zMH h' m') ∧ zhL h h' ∧ zfr zfR m m' ∧ m' 522 132 0 ≤ 1 ∧ (m 522 132 0 = 1 → m' 522 132 0 = 1) ∧ (m 522 132 0 = 0 → match (match zset c 64 (m 521 132 0) with
            | none => none
            | some (l, e) =>
              if c e = 32 then
                (if k = 10 then (match zfls c (if zsgn (c (e + 1)) = 0 then e + 1 else e + 2) with
                  | none => none
                  | some (f, e2) => some (e2, (0, f, zsgn (c (e + 1)), 0, 0, 0, (!u && zrsw l (zenv m c).1), fun n => zrsin l (if u then (zenv m c).2.2.1 n else n) (if u then (zenv m c).2.1 else (zenv m c).1))))
                else if k = 11 then (match zitem (zwn c (e + 1)) with
                  | none => none
                  | some i => some (zre zlrg c (e + 1), (0, 0, 0, 0, 0, i, (!u && zrsw l (zenv m c).1), fun n => zrsin l (if u then (zenv m c).2.2.1 n else n) (if u then (zenv m c).2.1 else (zenv m c).1))))
                else if 97 ≤ c (e + 1) ∧ c (e + 1) ≤ 100 then some (e + 2, (c (e + 1) - 97, 0, 0, 0, 0, 0, (!u && zrsw l (zenv m c).1), fun n => zrsin l (if u then (zenv m c).2.2.1 n else n) (if u then (zenv m c).2.1 else (zenv m c).1)))
                else none)
              else none : Option (Nat × zArg)) with
            | none => m' 522 132 0 = 1
            | some (e, a) => m' 521 132 0 = e ∧ e ≤ 99 ∧ (m' 522 132 0 = 1 → e < m 0 148 (m 520 132 0)) ∧ zAR h' m' c (zenv m c) u k a) := by
          intro z hz0 hz1 hzi ev
          refine ⟨_, _, ev, Or.inr ⟨_, rfl⟩, F3 z, ?_, fun q => ?_, fun q => ?_⟩
          · show z ≤ 1; omega
          · have := g4 q; omega
          · have g := g5 q
            have b2 : m2 522 132 0 = 0 := by omega
            cases hz : zset c 64 (m 521 132 0) with
            | none => rw [hz] at g; have : m2 522 132 0 = 1 := g; omega
            | some r =>
              obtain ⟨l, e⟩ := r
              rw [hz] at g
              dsimp only at g ⊢
              by_cases c32 : c e = 32
              · rw [if_pos c32] at g
                obtain ⟨ga, gb, gc⟩ := g
                rw [if_pos c32, if_neg k10, if_pos k11]
                rw [gb] at hzi ⊢
                cases hi : zitem (zwn c (e + 1)) with
                | none => exact hzi.mpr hi
                | some i =>
                  have hz0' : z = 0 := by
                    rcases hz1 with z0 | z1
                    · exact z0
                    · rw [hi] at hzi; have := hzi.mp z1; cases this
                  have ee := zc_lt hc c32
                  have zz := zre_ge hc (f := zlrg) rfl (e + 1)
                  have s2 : m3 527 132 0 = m 521 132 0 := (f3 _ _ _ (by decide)).trans g3
                  have s3 : m3 528 132 0 = e := (f3 _ _ _ (by decide)).trans gc
                  refine ⟨?_, by have := zz.2.1 (by omega); omega, fun q => ?_, fun q => by omega, fun q => by omega, fun q => by omega, fun q => by omega, fun _ => ⟨_, zsL_at _ _ _ _ _, by rw [← gb]; exact hw, hi⟩, fun _ _ => ⟨l, ?_, ?_, rfl, rfl⟩, fun q => by omega⟩
                  · show m3 521 132 0 = _; rw [r1, gb]
                  · have : z = 1 := q; omega
                  · show zset c 64 (m3 527 132 0) = some (l, m3 528 132 0); rw [s2, s3]; exact hz
                  · show m3 527 132 0 ≤ 64; omega
              · rw [if_neg c32] at g; omega
        by_cases cb : m3 522 132 0 = 0
        · by_cases i1 : zwn c (m2 521 132 0) = 6846401536
          · exact fin 0 cb (Or.inl rfl) ⟨(fun q => by cases q), fun q => by unfold zitem at q; rw [if_pos i1] at q; cases q⟩ (p117_0_8 hx hl k13 e1 e2 k10 k11 e3 cb i1)
          · by_cases i2 : zwn c (m2 521 132 0) = 22854762496
            · exact fin 0 cb (Or.inl rfl) ⟨(fun q => by cases q), fun q => by unfold zitem at q; rw [if_neg i1, if_pos i2] at q; cases q⟩ (p117_0_7 hx hl k13 e1 e2 k10 k11 e3 cb i1 i2)
            · by_cases i3 : zwn c (m2 521 132 0) = 21668429824
              · exact fin 0 cb (Or.inl rfl) ⟨(fun q => by cases q), fun q => by unfold zitem at q; rw [if_neg i1, if_neg i2, if_pos i3] at q; cases q⟩ (p117_0_6 hx hl k13 e1 e2 k10 k11 e3 cb i1 i2 i3)
              · exact fin 1 cb (Or.inr rfl) ⟨fun _ => by unfold zitem; rw [if_neg i1, if_neg i2, if_neg i3], fun _ => rfl⟩ (p117_0_5 hx hl k13 e1 e2 k10 k11 e3 cb i1 i2 i3)
        · refine ⟨_, _, p117_0_9 hx hl k13 e1 e2 k10 k11 e3 cb, Or.inr ⟨_, rfl⟩, F3 1, Nat.le_refl 1, fun _ => rfl, fun q => ?_⟩
          have b2 : m2 522 132 0 = 1 := by omega
          have g := g5 q
          cases hz : zset c 64 (m 521 132 0) with
          | none => exact (rfl : u3 m3 522 132 0 1 522 132 0 = 1)
          | some r =>
            obtain ⟨l, e⟩ := r
            rw [hz] at g
            dsimp only at g ⊢
            by_cases c32 : c e = 32
            · rw [if_pos c32] at g; omega
            · rw [if_neg c32]; exact (rfl : u3 m3 522 132 0 1 522 132 0 = 1)
      · -- COPY
        obtain ⟨m3, e3, f3, r1, r2, r3, r4⟩ := s97g (L := L) (xs := xs) hx hl2 (by omega) g2
        have F3 : zfr zfR m m3 := zfr_tr F2 f3 (fun _ q => q) (by decide)
        refine ⟨h, m3, p117_0_10 hx hl k13 e1 e2 k10 k11 e3, Or.inl rfl, F3, r2, fun q => r3 (g4 q), fun q => ?_⟩
        have g := g5 q
        cases hz : zset c 64 (m 521 132 0) with
        | none => rw [hz] at g; exact r3 g
        | some r =>
          obtain ⟨l, e⟩ := r
          rw [hz] at g
          dsimp only at g ⊢
          by_cases c32 : c e = 32
          · rw [if_pos c32] at g
            obtain ⟨ga, gb, gc⟩ := g
            rw [if_pos c32, if_neg k10, if_neg k11]
            have g := r4 ga
            rw [gb] at g
            have ee := zc_lt hc c32
            rcases g with ⟨q1, q2, q3, q4⟩ | ⟨q1, q2⟩
            · rw [if_pos ⟨q1, q2⟩]
              have s2 : m3 527 132 0 = m 521 132 0 := (f3 _ _ _ (by decide)).trans g3
              have s3 : m3 528 132 0 = e := (f3 _ _ _ (by decide)).trans gc
              exact ⟨by omega, by omega, fun z => by omega, fun _ => ⟨q4, by show c (e + 1) - 97 < 4; omega⟩, fun z => by omega, fun z => by omega, fun z => by omega, fun z => by omega, fun _ _ => ⟨l, by rw [s2, s3]; exact hz, by omega, rfl, rfl⟩, fun z => by omega⟩
            · rw [if_neg q1]; exact q2
          · rw [if_neg c32] at g
            rw [if_neg c32]
            exact r3 g
end
