/-! ===== the reference reads: sets, values, flags, texts, boxes, words ===== -/
/-- flags -/
def zflg (x : Nat) : Bool := decide (zbit x ≠ 0)
def zmk (c : Nat → Nat) : Nat → Nat → Nat → Nat
  | 0, _, v => v
  | n + 1, p, v => zmk c n (p + 1) (v ||| zbit (c p))
/-- ( flags ): the flags and where they end -/
def zfls (c : Nat → Nat) (p : Nat) : Option (Nat × Nat) := if c p = 40 ∧ c (zre zflg c (p + 1)) = 41 then some (zmk c (zre zflg c (p + 1) - (p + 1)) (p + 1) 0, zre zflg c (p + 1) + 1) else none
/-- a word's letters as a number -/
def zwl (c : Nat → Nat) : Nat → Nat → Nat → Nat → Nat
  | 0, _, _, v => v
  | k + 1, p, n, v => zwl c k (p + 1) (n + 1) (if n < 7 then v * 32 + zltr (c p) else v)
def zwn (c : Nat → Nat) (p : Nat) : Nat := if zre zlrg c p - p = 0 ∨ 7 < zre zlrg c p - p then 18446744073709551615 else zwl c (zre zlrg c p - p) p 0 0 * 32 ^ (7 - (zre zlrg c p - p))
theorem zbit_le (x : Nat) : zbit x ≤ 8 := by
  unfold zbit
  repeat' split
  all_goals omega
theorem zmk_lt (c : Nat → Nat) : ∀ n p v, v < 16 → zmk c n p v < 16 := by
  intro n
  induction n with
  | zero => exact fun p v h => h
  | succ n ih =>
    intro p v h
    refine ih _ _ ?_
    exact Nat.or_lt_two_pow (n := 4) h (Nat.lt_of_le_of_lt (zbit_le _) (by decide))
section
variable {L : Nat} {xs : Nat → Int32} {h : zH} {m : zMm} {c : Nat → Nat}
theorem s102i (hx : zFx h) (hl : zLC m c) (ha : m 521 132 0 ≤ 64) (hb : m 522 132 0 ≤ 1) : ∃ (m1 : zMm) (x : Nat), zEv (zPr L xs) 2 102 10 [.val (.ref 132), .val (.int (nI 1))] [] (zMH h m) = zEv (zPr L xs) 2 102 10 [.val (.ref 132), .val (.int (nI x))] [] (zMH h m1) ∧ zfr [(521, 132), (522, 132)] m m1 ∧ m1 521 132 0 ≤ 65 ∧ m1 522 132 0 ≤ 1 ∧ (m 522 132 0 = 1 → m1 522 132 0 = 1 ∧ x = 0) ∧ (m 522 132 0 = 0 → match zrg c (m 521 132 0) with
    | none => m1 522 132 0 = 1 ∧ x = 0
    | some (_, e) => m1 522 132 0 = 0 ∧ ((c e = 44 ∧ x = 1 ∧ m1 521 132 0 = e + 1) ∨ (c e ≠ 44 ∧ x = 0 ∧ m1 521 132 0 = e))) := by
  have hc := hl.2.2
  obtain ⟨m1, e1, f1, g1, g2, g3, g4, g5⟩ := s101 (L := L) (xs := xs) hx hl ha hb
  have hl1 := zLC_fr hl f1
  have sub : ∀ q ∈ [(521, 132), (522, 132)], q ∈ [(521, 132), (522, 132)] := fun _ q => q
  by_cases c2 : c (m1 521 132 0) = 58
  · have h48 : m1 521 132 0 < 48 := Nat.lt_of_not_le fun q => by rw [hc.1 _ q] at c2; cases c2
    have hl1' : zLC (u3 m1 521 132 0 (m1 521 132 0 + 1)) c := zLC_fr hl1 (zfr_u (l := [(521, 132)]) (zfr_rf _ _) (by decide))
    obtain ⟨m2, e2, f2, k1, k2, k3, k4, k5⟩ := s101 (L := L) (xs := xs) hx hl1' (by show m1 521 132 0 + 1 ≤ 64; omega) (by exact g3)
    have hl2 := zLC_fr hl1' f2
    have fr : zfr [(521, 132), (522, 132)] m m2 := zfr_tr f1 (zfr_tr (l := [(521, 132), (522, 132)]) (zfr_u (l := [(521, 132), (522, 132)]) (zfr_rf _ m1) (by decide)) f2 sub sub) sub sub
    rw [p102_10_1 (x1 := 1) hx hl (by decide) e1 hl1 c2]
    have bad : m1 522 132 0 = 1 → m2 522 132 0 = 1 := fun q => k4 q
    by_cases c3 : m2 522 132 0 = 0
    · have z1 : m1 522 132 0 = 0 := by
        rcases (by omega : m1 522 132 0 = 0 ∨ m1 522 132 0 = 1) with q | q
        · exact q
        · have := bad q; omega
      have z0 : m 522 132 0 = 0 := by
        rcases (by omega : m 522 132 0 = 0 ∨ m 522 132 0 = 1) with q | q
        · exact q
        · have := g4 q; omega
      have g5 := g5 z0
      have k5 := k5 z1
      have hz : zrg c (m 521 132 0) = some ((match zpt c (m 521 132 0) with | none => none | some (a, _) => a, match zpt c (m1 521 132 0 + 1) with | none => none | some (a, _) => a), m2 521 132 0) := by
        unfold zrg
        cases q1 : zpt c (m 521 132 0) with
        | none => rw [q1] at g5; dsimp only at g5; omega
        | some q =>
          obtain ⟨a, ee⟩ := q
          rw [q1] at g5
          dsimp only at g5 ⊢
          rw [← g5.2, if_pos c2]
          have k5 : match zpt c (m1 521 132 0 + 1) with
            | none => m2 522 132 0 = 1
            | some (_, e) => m2 522 132 0 = 0 ∧ m2 521 132 0 = e := k5
          cases q2 : zpt c (m1 521 132 0 + 1) with
          | none => rw [q2] at k5; dsimp only at k5; omega
          | some q3 =>
            obtain ⟨b, e3⟩ := q3
            rw [q2] at k5
            dsimp only at k5 ⊢
            rw [k5.2]
      by_cases c4 : c (m2 521 132 0) = 44
      · refine ⟨_, 1, p102_41_1 hx hl1' e2 c3 hl2 c4, zfr_u fr (by decide), ?_, by exact k3, fun q => by omega, fun _ => ?_⟩
        · have : m2 521 132 0 < 48 := Nat.lt_of_not_le fun q => by rw [hc.1 _ q] at c4; cases c4
          show m2 521 132 0 + 1 ≤ 65; omega
        · rw [hz]; exact ⟨c3, Or.inl ⟨c4, rfl, rfl⟩⟩
      · refine ⟨_, 0, p102_41_2 hx hl1' e2 c3 hl2 c4, zfr_u fr (by decide), by exact k2, by exact k3, fun q => by omega, fun _ => ?_⟩
        rw [hz]; exact ⟨c3, Or.inr ⟨c4, rfl, rfl⟩⟩
    · refine ⟨_, 0, p102_41_3 hx hl1' e2 c3, zfr_u fr (by decide), by exact k2, by exact k3, fun _ => ⟨by show m2 522 132 0 = 1; omega, rfl⟩, fun z0 => ?_⟩
      have g5 := g5 z0
      have hz : zrg c (m 521 132 0) = none := by
        unfold zrg
        cases q1 : zpt c (m 521 132 0) with
        | none => rfl
        | some q =>
          obtain ⟨a, ee⟩ := q
          rw [q1] at g5
          dsimp only at g5 ⊢
          rw [← g5.2, if_pos c2]
          have k5 : match zpt c (m1 521 132 0 + 1) with
            | none => m2 522 132 0 = 1
            | some (_, e) => m2 522 132 0 = 0 ∧ m2 521 132 0 = e := k5 g5.1
          cases q2 : zpt c (m1 521 132 0 + 1) with
          | none => rfl
          | some q3 =>
            obtain ⟨b, e3⟩ := q3
            rw [q2] at k5
            dsimp only at k5
            omega
      rw [hz]; exact ⟨by show m2 522 132 0 = 1; omega, rfl⟩
  · by_cases c3 : m1 522 132 0 = 0
    · have z0 : m 522 132 0 = 0 := by
        rcases (by omega : m 522 132 0 = 0 ∨ m 522 132 0 = 1) with q | q
        · exact q
        · have := g4 q; omega
      have g5 := g5 z0
      have hz : ∃ r, zrg c (m 521 132 0) = some (r, m1 521 132 0) := by
        unfold zrg
        cases q1 : zpt c (m 521 132 0) with
        | none => rw [q1] at g5; dsimp only at g5; omega
        | some q =>
          obtain ⟨a, ee⟩ := q
          rw [q1] at g5
          dsimp only at g5 ⊢
          rw [← g5.2, if_neg c2]
          exact ⟨_, rfl⟩
      obtain ⟨r, hz⟩ := hz
      by_cases c4 : c (m1 521 132 0) = 44
      · refine ⟨_, 1, p102_10_2 (x1 := 1) hx hl (by decide) e1 hl1 c2 c3 c4, zfr_u f1 (by decide), ?_, by exact g3, fun q => by omega, fun _ => ?_⟩
        · have : m1 521 132 0 < 48 := Nat.lt_of_not_le fun q => by rw [hc.1 _ q] at c4; cases c4
          show m1 521 132 0 + 1 ≤ 65; omega
        · rw [hz]; exact ⟨c3, Or.inl ⟨c4, rfl, rfl⟩⟩
      · refine ⟨_, 0, p102_10_3 (x1 := 1) hx hl (by decide) e1 hl1 c2 c3 c4, zfr_u f1 (by decide), by exact g2, by exact g3, fun q => by omega, fun _ => ?_⟩
        rw [hz]; exact ⟨c3, Or.inr ⟨c4, rfl, rfl⟩⟩
    · refine ⟨_, 0, p102_10_4 (x1 := 1) hx hl (by decide) e1 hl1 c2 c3, zfr_u f1 (by decide), by exact g2, by exact g3, fun _ => ⟨by show m1 522 132 0 = 1; omega, rfl⟩, fun z0 => ?_⟩
      have g5 := g5 z0
      have hz : zrg c (m 521 132 0) = none := by
        unfold zrg
        cases q1 : zpt c (m 521 132 0) with
        | none => rfl
        | some q =>
          obtain ⟨a, ee⟩ := q
          rw [q1] at g5
          dsimp only at g5
          omega
      rw [hz]; exact ⟨by show m1 522 132 0 = 1; omega, rfl⟩
theorem s102l (hx : zFx h) : ∀ (f : Nat) (m : zMm), zLC m c → m 521 132 0 ≤ 64 → 64 ≤ m 521 132 0 + f → m 522 132 0 ≤ 1 → ∃ m', zEv (zPr L xs) 2 102 10 [.val (.ref 132), .val (.int (nI 1))] [] (zMH h m) = some (.inl none, zMH h m') ∧ zfr [(521, 132), (522, 132), (528, 132)] m m' ∧ m' 521 132 0 ≤ 65 ∧ m' 522 132 0 ≤ 1 ∧ m' 528 132 0 = m' 521 132 0 ∧ (m 522 132 0 = 1 → m' 522 132 0 = 1) ∧ (m 522 132 0 = 0 → match zset c f (m 521 132 0) with
    | none => m' 522 132 0 = 1
    | some (_, e) => m' 522 132 0 = 0 ∧ m' 521 132 0 = e) := by
  intro f
  have sub : ∀ q ∈ [(521, 132), (522, 132)], q ∈ [(521, 132), (522, 132), (528, 132)] := by decide
  induction f with
  | zero =>
    intro m hl ha hf hb
    obtain ⟨m1, x, e1, f1, g2, g3, g4, g5⟩ := s102i (L := L) (xs := xs) hx hl ha hb
    have hz : zrg c (m 521 132 0) = none := by
      have h0 : c (m 521 132 0) = 0 := hl.2.2.1 _ (by omega)
      unfold zrg zpt
      rw [h0, if_neg (by decide), if_neg (by rw [zre_f (by rw [h0]; rfl)]; omega)]
    have hx0 : m1 522 132 0 = 1 ∧ x = 0 := by
      rcases (by omega : m 522 132 0 = 0 ∨ m 522 132 0 = 1) with q | q
      · have := g5 q; rw [hz] at this; exact this
      · exact g4 q
    obtain ⟨b1, rfl⟩ := hx0
    rw [e1]
    exact ⟨_, p102_10_5 (x1 := 0) hx (zLC_fr hl f1) rfl, zfr_u (zfr_w f1 sub) (by decide), g2, g3, rfl, fun _ => b1, fun _ => b1⟩
  | succ f ih =>
    intro m hl ha hf hb
    obtain ⟨m1, x, e1, f1, g2, g3, g4, g5⟩ := s102i (L := L) (xs := xs) hx hl ha hb
    have hl1 := zLC_fr hl f1
    have done : x = 0 → zEv (zPr L xs) 2 102 10 [.val (.ref 132), .val (.int (nI 1))] [] (zMH h m) = some (.inl none, zMH h (u3 m1 528 132 0 (m1 521 132 0))) := fun hx0 => by
      subst hx0; rw [e1]; exact p102_10_5 (x1 := 0) hx hl1 rfl
    have fr1 : zfr [(521, 132), (522, 132), (528, 132)] m (u3 m1 528 132 0 (m1 521 132 0)) := zfr_u (zfr_w f1 sub) (by decide)
    rcases (by omega : m 522 132 0 = 0 ∨ m 522 132 0 = 1) with q | q
    · have g5 := g5 q
      cases hz : zrg c (m 521 132 0) with
      | none =>
        rw [hz] at g5
        refine ⟨_, done g5.2, fr1, g2, g3, rfl, fun _ => g5.1, fun _ => ?_⟩
        unfold zset; rw [hz]; exact g5.1
      | some r =>
        obtain ⟨r, e⟩ := r
        rw [hz] at g5
        dsimp only at g5
        have hge := zrg_ge hl.2.2 hz
        rcases g5.2 with ⟨c4, rfl, a4⟩ | ⟨c4, x0, a4⟩
        · have h48 : e < 48 := Nat.lt_of_not_le fun q => by rw [hl.2.2.1 _ q] at c4; cases c4
          obtain ⟨m2, e2, f2, k2, k3, k6, k4, k5⟩ := ih m1 hl1 (by omega) (by omega) g3
          refine ⟨m2, e1.trans e2, zfr_tr f1 f2 sub (fun _ q => q), k2, k3, k6, fun z => by omega, fun _ => ?_⟩
          have k5 := k5 g5.1
          unfold zset
          rw [hz]
          dsimp only
          rw [if_pos c4, ← a4]
          cases hs : zset c f (m1 521 132 0) with
          | none => rw [hs] at k5; exact k5
          | some l => obtain ⟨l, e3⟩ := l; rw [hs] at k5; exact k5
        · refine ⟨_, done x0, fr1, g2, g3, rfl, fun z => by omega, fun _ => ?_⟩
          unfold zset
          rw [hz]
          dsimp only
          rw [if_neg c4]
          exact ⟨g5.1, a4⟩
    · exact ⟨_, done (g4 q).2, fr1, g2, g3, rfl, fun _ => (g4 q).1, fun z => by omega⟩
/-- a set -/
theorem s102 (hx : zFx h) (hl : zLC m c) (ha : m 521 132 0 ≤ 64) (hb : m 522 132 0 ≤ 1) : ∃ m', zCl (zPr L xs) 102 [.ref 132] (zMH h m) = some (.inl none, zMH h m') ∧ zfr [(521, 132), (522, 132), (527, 132), (528, 132)] m m' ∧ m' 521 132 0 ≤ 65 ∧ m' 522 132 0 ≤ 1 ∧ m' 527 132 0 = m 521 132 0 ∧ m' 528 132 0 = m' 521 132 0 ∧ (m 522 132 0 = 1 → m' 522 132 0 = 1) ∧ (m 522 132 0 = 0 → match zset c 64 (m 521 132 0) with
    | none => m' 522 132 0 = 1
    | some (_, e) => m' 522 132 0 = 0 ∧ m' 521 132 0 = e) := by
  rw [en_102, p102_0_1 hx hl]
  have f0 : zfr [(521, 132), (522, 132), (527, 132), (528, 132)] m (u3 m 527 132 0 (m 521 132 0)) := zfr_u (zfr_rf _ _) (by decide)
  obtain ⟨m', e, f, g1, g2, g3, g4, g5⟩ := s102l (L := L) (xs := xs) hx 64 (u3 m 527 132 0 (m 521 132 0)) (zLC_fr hl f0) ha (by omega) hb
  exact ⟨m', e, zfr_tr f0 f (fun _ q => q) (by decide), g1, g2, (f _ _ _ (by decide)).trans rfl, g3, g4, g5⟩
/-- the value of a point, and what is behind it -/
theorem s103 (hx : zFx h) (hl : zLC m c) {p q e : Nat} {a : Option Nat} (hz : zpt c p = some (a, e)) (hp : p ≤ 64) (hq : q < 2147483648) : zCl (zPr L xs) 103 [.ref 132, .int (nI p), .int (nI q)] (zMH h m) = some (.inl (some (.int (nI (a.getD q)))), zMH h m) := by
  have hc := hl.2.2
  rw [en_103]
  by_cases c1 : c p = 42
  · rw [p103_0_1 hx hl c1]
    unfold zpt at hz
    rw [if_pos c1] at hz
    injection hz with hz; injection hz with e1 e2
    subst e1; rfl
  · rw [p103_0_2 hx hl c1]
    unfold zpt at hz
    rw [if_neg c1] at hz
    by_cases c2 : p < zre zdig c p ∧ zre zdig c p - p ≤ 3
    · rw [if_pos c2] at hz
      injection hz with hz; injection hz with e1 e2
      subst e1
      have loop : ∀ p', p' ≤ 64 → ∀ v, (zre zdig c p' - p' = 0 → v < 10000) ∧ (zre zdig c p' - p' = 1 → v < 1000) ∧ (zre zdig c p' - p' = 2 → v < 100) ∧ (zre zdig c p' - p' = 3 → v < 10) → zre zdig c p' - p' ≤ 3 → ∀ w1 w2 : Slot, w1 ≠ .second → w2 ≠ .second → zEv (zPr L xs) 1 103 17 [.val (.ref 132), w1, w2, .val (.int (nI v)), .val (.int (nI p'))] [] (zMH h m) = some (.inl (some (.int (nI (zdv c (zre zdig c p' - p') p' v)))), zMH h m) := by
        refine zrun_ind hc (f := zdig) rfl ?_ ?_
        · intro p' hd hp' ih h64 v hv h3 w1 w2 hw1 hw2
          have hd2 : 48 ≤ c p' ∧ c p' ≤ 57 := of_decide_eq_true hd
          rw [zre_t hc rfl hd] at h3 hv ⊢
          have hg := (zre_ge hc (f := zdig) rfl (p' + 1)).1
          have e9 : zre zdig c (p' + 1) - p' = (zre zdig c (p' + 1) - (p' + 1)) + 1 := by omega
          rw [p103_17_1 (x3 := v) (x4 := p') hx hl hd (by omega) (by omega)]
          rw [e9] at hv h3 ⊢
          generalize zre zdig c (p' + 1) - (p' + 1) = k at *
          rw [ih (by omega) (10 * v + c p' - 48) (by omega) (by omega) w1 w2 hw1 hw2]
          rfl
        · intro p' hd h64 v hv h3 w1 w2 hw1 hw2
          rw [zre_f hd, Nat.sub_self]
          exact p103_17_2 (x3 := v) (x4 := p') hx hl hd (by omega)
      rw [loop p hp 0 (by omega) c2.2 _ _ (fun q => by cases q) (fun q => by cases q)]
      rfl
    · rw [if_neg c2] at hz; cases hz
theorem s104 (hx : zFx h) (hl : zLC m c) {p e : Nat} {a : Option Nat} (hz : zpt c p = some (a, e)) (hp : p ≤ 64) : zCl (zPr L xs) 104 [.ref 132, .int (nI p)] (zMH h m) = some (.inl (some (.int (nI e))), zMH h m) := by
  have hc := hl.2.2
  rw [en_104]
  by_cases c1 : c p = 42
  · rw [p104_0_1 hx hl c1]
    unfold zpt at hz
    rw [if_pos c1] at hz
    injection hz with hz; injection hz with e1 e2
    subst e2; rfl
  · rw [p104_0_2 hx hl c1]
    unfold zpt at hz
    rw [if_neg c1] at hz
    have loop : ∀ p', p' ≤ 64 → ∀ w1 : Slot, w1 ≠ .second → zEv (zPr L xs) 1 104 16 [.val (.ref 132), w1, .val (.int (nI p'))] [] (zMH h m) = some (.inl (some (.int (nI (zre zdig c p')))), zMH h m) := by
      refine zrun_ind hc (f := zdig) rfl ?_ ?_
      · intro p' hd hp' ih h64 w1 hw1
        rw [p104_16_1 (x2 := p') hx hl hd, ih (by omega) w1 hw1, zre_t hc rfl hd]
      · intro p' hd h64 w1 hw1
        rw [zre_f hd]
        exact p104_16_2 (x2 := p') hx hl hd
    rw [loop p hp _ (fun q => by cases q)]
    by_cases c2 : p < zre zdig c p ∧ zre zdig c p - p ≤ 3
    · rw [if_pos c2] at hz
      injection hz with hz; injection hz with e1 e2
      subst e2; rfl
    · rw [if_neg c2] at hz; cases hz
end
