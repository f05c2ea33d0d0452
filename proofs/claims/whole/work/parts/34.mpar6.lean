/-! ===== searches: what is read, and the reference's stack ===== -/
def zks (c : Nat → Nat) (E : zEnv) : Nat → Bool → Nat → Nat → Option (Nat × Bool × zHd)
  | 0, _, _, _ => none
  | f + 1, true, d, p => match zks c E f false d p with
    | none => none
    | some (e, w, k) => if c e = 32 then (match zks c E f true d (e + 1) with
      | none => none
      | some (e2, w2, k2) => some (e2, w || w2, fun n => k n && k2 n)) else some (e, w, k)
  | f + 1, false, d, p =>
    if 8 < d then none
    else if c p = 40 then (match zks c E f true (d + 1) (p + 1) with
      | none => none
      | some (e, w, k) => if c e = 41 then some (e + 1, w, k) else none)
    else if zwn c p = 15556673536 then (if c (zre zlrg c p) = 32 then (match zks c E f false (d + 1) (zre zlrg c p + 1) with
      | none => none
      | some (e, w, k) => some (e, w, fun n => !k n)) else none)
    else if zwn c p = 16710107136 then (if c (zre zlrg c p) = 32 then (match zks c E f false (d + 1) (zre zlrg c p + 1) with
      | none => none
      | some (e, w, k) => if c e = 32 then (match zks c E f false (d + 1) (e + 1) with
        | none => none
        | some (e2, w2, k2) => some (e2, w || w2, fun n => k n || k2 n)) else none) else none)
    else zleaf c E p
theorem zCont_h {P : zP} {rec : zRec} {r y pc a : Nat} {b : List Slot} {d : List Value} {H H' : zH} {q : Option zRes} : zCont P rec r y pc (a, b, d, H) q = zCont P rec r y pc (a, b, d, H') q := rfl
theorem k_cvc {P : zP} {r y pc : Nat} {ls : List Slot} {st : List Value} {H : zH} {y' n nl u w k a : Nat} {as rest : List Value} (ho : P.1 y pc = o_cv y' n nl u w) (hg : st[n]? = some (.ref a)) (hb : (Nat.ble (st.length - (n + 1)) 4 && Nat.ble (lg_sl (st.take (n + 1)).reverse).length nl) = true) (ht : zT H a = u ∨ zT H a = w) (ha : (st.take (n + 1)).reverse = as) (hd : st.drop (n + 1) = rest) (hr : P.2.1 y' as = k) (hk : k < r) : zEv P r y pc ls st H = zCont P (zEv P) r y pc (pc + 3, ls, rest, H) (zCl P y' as H) := by
  refine zEv_call (as := as) ho ?_ (by rw [hr]; exact hk)
  unfold o_cv
  rw [hb]
  dsimp only
  rw [hg]
  dsimp only
  rw [if_pos ht, ha, hd]
/-- the cells that a search changes -/
abbrev zfS : List (Nat × Nat) := [(521, 132), (522, 132), (523, 132), (527, 132), (528, 132), (531, 132), (532, 132), (535, 132), (0, 151), (0, 152), (0, 153)]
/-- the stack up to d -/
def zkp (d : Nat) (m m' : zMm) : Prop := ∀ i, i ≤ d → m' 0 151 i = m 0 151 i ∧ m' 0 152 i = m 0 152 i ∧ m' 0 153 i = m 0 153 i
theorem zkp_rf (d : Nat) (m : zMm) : zkp d m m := fun _ _ => ⟨rfl, rfl, rfl⟩
theorem zkp_tr {d : Nat} {m m1 m2 : zMm} (h1 : zkp d m m1) (h2 : zkp d m1 m2) : zkp d m m2 := fun i hi => ⟨(h2 i hi).1.trans (h1 i hi).1, (h2 i hi).2.1.trans (h1 i hi).2.1, (h2 i hi).2.2.trans (h1 i hi).2.2⟩
theorem zkp_w {d d' : Nat} {m m1 : zMm} (h : zkp d m m1) (hd : d' ≤ d) : zkp d' m m1 := fun i hi => h i (by omega)
theorem zkp_fr {l : List (Nat × Nat)} {m m' : zMm} (hf : zfr l m m') (d : Nat) (h1 : (0, 151) ∉ l := by decide) (h2 : (0, 152) ∉ l := by decide) (h3 : (0, 153) ∉ l := by decide) : zkp d m m' := fun _ _ => ⟨hf _ _ _ h1, hf _ _ _ h2, hf _ _ _ h3⟩
section
variable {L : Nat} {xs : Nat → Int32} {h : zH} {m : zMm} {c : Nat → Nat}
theorem s112 (hx : zFx h) (hl : zLC m c) {k t : Nat} (hv : nI (m 535 132 0) + nI 1 = nI t) (ht : t < 12) (hk : k ≤ 3) : ∃ m', zCl (zPr L xs) 112 [.ref 132, .int (nI k)] (zMH h m) = some (.inl none, zMH h m') ∧ zfr [(535, 132), (0, 151), (0, 152), (0, 153)] m m' ∧ m' 535 132 0 = t ∧ m' 0 151 t = k ∧ m' 0 152 t = 0 ∧ m' 0 153 t = (if k = 2 then 0 else 1) ∧ ∀ d, d < t → zkp d m m' := by
  rw [en_112]
  have fr : ∀ z, zfr [(535, 132), (0, 151), (0, 152), (0, 153)] m (u3 (u3 (u3 (u3 m 535 132 0 t) 0 151 t k) 0 152 t 0) 0 153 t z) := fun z => zfr_u (zfr_u (zfr_u (zfr_u (zfr_rf _ _) (by decide)) (by decide)) (by decide)) (by decide)
  have kp : ∀ z d, d < t → zkp d m (u3 (u3 (u3 (u3 m 535 132 0 t) 0 151 t k) 0 152 t 0) 0 153 t z) := fun z d hd i hi => by
    refine ⟨?_, ?_, ?_⟩
    · show u3 (u3 (u3 (u3 m 535 132 0 t) 0 151 t k) 0 152 t 0) 0 153 t z 0 151 i = _
      rw [u3_a (by decide), u3_a (by decide), u3_i (by omega), u3_g (by decide)]
    · show u3 (u3 (u3 (u3 m 535 132 0 t) 0 151 t k) 0 152 t 0) 0 153 t z 0 152 i = _
      rw [u3_a (by decide), u3_i (by omega), u3_a (by decide), u3_g (by decide)]
    · show u3 (u3 (u3 (u3 m 535 132 0 t) 0 151 t k) 0 152 t 0) 0 153 t z 0 153 i = _
      rw [u3_i (by omega), u3_a (by decide), u3_a (by decide), u3_g (by decide)]
  have r1 : ∀ z, u3 (u3 (u3 (u3 m 535 132 0 t) 0 151 t k) 0 152 t 0) 0 153 t z 0 151 t = k := fun z => by rw [u3_a (by decide), u3_a (by decide), u3_eq]
  have r2 : ∀ z, u3 (u3 (u3 (u3 m 535 132 0 t) 0 151 t k) 0 152 t 0) 0 153 t z 0 152 t = 0 := fun z => by rw [u3_a (by decide), u3_eq]
  by_cases c1 : k = 2
  · refine ⟨_, p112_0_2 hx hl hv c1, fr _, rfl, r1 _, r2 _, ?_, kp _⟩
    rw [if_pos c1, u3_eq]
  · refine ⟨_, p112_0_1 hx hl hv c1, fr _, rfl, r1 _, r2 _, ?_, kp _⟩
    rw [if_neg c1, u3_eq]
theorem zadd1 {m : zMm} {d : Nat} (h : m 535 132 0 = d) : nI (m 535 132 0) + nI 1 = nI (d + 1) := by rw [h, zi_add]
/-- rise, by its kinds of step -/
noncomputable def zRi (L : Nat) (xs : Nat → Int32) (h : zH) (v : Bool) (m : zMm) (w1 w3 : Slot) : Option zRes := zEv (zPr L xs) 2 114 2 [.val (.ref 132), w1, .val (.int (nI v.toNat)), w3] [] (zMH h m)
theorem zRi_bad (hx : zFx h) (hl : zLC m c) {v : Bool} {w1 w3 : Slot} (hb : m 522 132 0 = 1) : zRi L xs h v m w1 w3 = some (.inl (some (.int (nI 0))), zMH h m) := p114_2_21 hx hl (by rw [hb]; decide) (by rw [hb]; decide)
theorem zRi_not (hx : zFx h) (hl : zLC m c) {v : Bool} {w1 w3 : Slot} {t : Nat} (hb : m 522 132 0 = 0) (ht : m 535 132 0 = t + 1) (h10 : t ≤ 10) (hk : m 0 151 (t + 1) = 1) (hw : w3 ≠ .second) : ∃ w, w ≠ Slot.second ∧ zRi L xs h v m w1 w3 = zRi L xs h (!v) (u3 m 535 132 0 t) w1 w := by
  refine ⟨.val (.int (nI (m 0 151 (m 535 132 0)))), zsecn, ?_⟩
  unfold zRi
  have e : m 535 132 0 - 1 = t := by omega
  cases v with
  | true => rw [p114_2_2 hx hl hb (by rw [ht]; exact hk) rfl, e]; rfl
  | false => rw [p114_2_1 hx hl hb (by rw [ht]; exact hk) rfl, e]; rfl
theorem zRi_or1 (hx : zFx h) (hl : zLC m c) {v : Bool} {w1 w3 : Slot} {t : Nat} (hb : m 522 132 0 = 0) (ha : m 521 132 0 ≤ 64) (ht : m 535 132 0 = t) (h10 : t ≤ 10) (hk : m 0 151 t = 2) (hd : m 0 152 t = 0) (hh : m 0 153 t = 0) (hw : w3 ≠ .second) : ∃ m', zRi L xs h v m w1 w3 = some (.inl (some (.int (nI 1))), zMH h m') ∧ zfr [(521, 132), (522, 132), (0, 152), (0, 153)] m m' ∧ m' 0 152 t = 1 ∧ m' 0 153 t = v.toNat ∧ (∀ i, i < t → m' 0 152 i = m 0 152 i ∧ m' 0 153 i = m 0 153 i) ∧ ((c (m 521 132 0) = 32 ∧ m' 521 132 0 = m 521 132 0 + 1 ∧ m' 522 132 0 = 0) ∨ (c (m 521 132 0) ≠ 32 ∧ m' 522 132 0 = 1)) := by
  have hl1 : ∀ z, zLC (u3 (u3 m 0 153 (m 535 132 0) z) 0 152 (m 535 132 0) (m 0 152 (m 535 132 0) + 1)) c := fun z => zLC_fr hl (zfr_u (l := [(0, 152), (0, 153)]) (zfr_u (zfr_rf _ _) (by decide)) (by decide))
  have run : ∃ m', zRi L xs h v m w1 w3 = some (.inl (some (.int (nI 1))), zMH h m') ∧ zfr [(521, 132), (522, 132)] (u3 (u3 m 0 153 (m 535 132 0) v.toNat) 0 152 (m 535 132 0) (m 0 152 (m 535 132 0) + 1)) m' ∧ ((c (m 521 132 0) = 32 ∧ m' 521 132 0 = m 521 132 0 + 1 ∧ m' 522 132 0 = 0) ∨ (c (m 521 132 0) ≠ 32 ∧ m' 522 132 0 = 1)) := by
    obtain ⟨m', e, f, g⟩ := s96 (L := L) (xs := xs) hx (hl1 v.toNat) 32 ha
    have g : (c (m 521 132 0) = 32 ∧ m' 521 132 0 = m 521 132 0 + 1 ∧ m' 522 132 0 = m 522 132 0) ∨ (c (m 521 132 0) ≠ 32 ∧ m' 521 132 0 = m 521 132 0 ∧ m' 522 132 0 = 1) := g
    refine ⟨m', ?_, f, by rcases g with g | g <;> omega⟩
    unfold zRi
    cases v with
    | true => exact p114_2_3 hx hl hb (by rw [ht, hk]; decide) (by rw [ht]; exact hk) (by rw [ht]; exact hh) rfl (by rw [ht, hd]) e (b1 := by omega) (b2 := by rw [ht, hk]; decide)
    | false => exact p114_2_5 hx hl hb (by rw [ht, hk]; decide) (by rw [ht]; exact hk) (by rw [ht]; exact hh) rfl (by rw [ht, hd]) e (b1 := by omega) (b2 := by rw [ht, hk]; decide)
  obtain ⟨m', e, f, g⟩ := run
  rw [ht, hd] at f
  refine ⟨m', e, zfr_tr (l := [(521, 132), (522, 132), (0, 152), (0, 153)]) (zfr_u (l := [(521, 132), (522, 132), (0, 152), (0, 153)]) (zfr_u (zfr_rf _ m) (by decide)) (by decide)) f (fun _ q => q) (by decide), ?_, ?_, fun i hi => ⟨?_, ?_⟩, g⟩
  · rw [f _ _ _ (by decide), u3_eq]
  · rw [f _ _ _ (by decide), u3_a (by decide), u3_eq]
  · rw [f _ _ _ (by decide), u3_i (by omega), u3_a (by decide)]
  · rw [f _ _ _ (by decide), u3_a (by decide), u3_i (by omega)]
theorem zRi_or2 (hx : zFx h) (hl : zLC m c) {v b : Bool} {w1 w3 : Slot} {t : Nat} (hb : m 522 132 0 = 0) (ht : m 535 132 0 = t + 1) (h10 : t ≤ 9) (hk : m 0 151 (t + 1) = 2) (hd : m 0 152 (t + 1) = 1) (hh : m 0 153 (t + 1) = b.toNat) (hw : w3 ≠ .second) : ∃ w, w ≠ Slot.second ∧ zRi L xs h v m w1 w3 = zRi L xs h (b || v) (u3 (u3 (u3 m 0 153 (t + 1) (b || v).toNat) 0 152 (t + 1) 2) 535 132 0 t) w1 w := by
  refine ⟨.val (.int (nI (m 0 151 (m 535 132 0)))), zsecn, ?_⟩
  unfold zRi
  have e : m 535 132 0 - 1 = t := by omega
  have k1 : m 0 151 (m 535 132 0) ≠ 1 := by rw [ht, hk]; decide
  have k2 : m 0 151 (m 535 132 0) = 2 := by rw [ht]; exact hk
  have k3 : m 0 152 (m 535 132 0) + 1 ≠ 1 := by rw [ht, hd]; decide
  have k4 : m 0 152 (m 535 132 0) + 1 = 2 := by rw [ht, hd]
  have b3 : m 0 152 (m 535 132 0) + 1 < 2147483648 := by omega
  cases b with
  | true =>
    have k5 : m 0 153 (m 535 132 0) ≠ 0 := by rw [ht, hh]; decide
    rw [p114_2_8 hx hl hb k1 k2 k5 k3 hw (by omega) (by omega) (by rw [ht, hh]; decide) b3, e, ht, hd]; rfl
  | false =>
    have k5 : m 0 153 (m 535 132 0) = 0 := by rw [ht, hh]; rfl
    cases v with
    | true => rw [p114_2_4 hx hl hb k1 k2 k5 rfl k3 hw (by omega) (by omega) b3, e, ht, hd]; rfl
    | false => rw [p114_2_6 hx hl hb k1 k2 k5 rfl k3 hw (by omega) (by omega) b3, e, ht, hd]; rfl
theorem zRi_sp (hx : zFx h) (hl : zLC m c) {v b : Bool} {w1 w3 : Slot} {t : Nat} (hb : m 522 132 0 = 0) (ha : m 521 132 0 ≤ 64) (ht : m 535 132 0 = t) (h10 : t ≤ 10) (hk : m 0 151 t = 0 ∨ m 0 151 t = 3) (hh : m 0 153 t = b.toNat) (h32 : c (m 521 132 0) = 32) (hw : w3 ≠ .second) : zRi L xs h v m w1 w3 = some (.inl (some (.int (nI 1))), zMH h (u3 (u3 m 0 153 t (b && v).toNat) 521 132 0 (m 521 132 0 + 1))) := by
  unfold zRi
  have k1 : m 0 151 (m 535 132 0) ≠ 1 := by rw [ht]; omega
  have k2 : m 0 151 (m 535 132 0) ≠ 2 := by rw [ht]; omega
  have kb : m 0 151 (m 535 132 0) < 2147483648 := by rw [ht]; omega
  cases b with
  | true =>
    have k5 : m 0 153 (m 535 132 0) ≠ 0 := by rw [ht, hh]; decide
    have k6 : m 0 153 (m 535 132 0) < 2147483648 := by rw [ht, hh]; decide
    cases v with
    | true => rw [p114_2_9 hx hl hb k1 k2 k5 rfl h32 hw (by omega) kb k6 (by omega), ht]; rfl
    | false => rw [p114_2_13 hx hl hb k1 k2 k5 rfl h32 hw (by omega) kb k6 (by omega), ht]; rfl
  | false =>
    have k5 : m 0 153 (m 535 132 0) = 0 := by rw [ht, hh]; rfl
    rw [p114_2_17 hx hl hb k1 k2 k5 h32 hw (by omega) kb (by omega), ht]; rfl
theorem zRi_and (hx : zFx h) (hl : zLC m c) {v b : Bool} {w1 w3 : Slot} {t : Nat} (hb : m 522 132 0 = 0) (ha : m 521 132 0 ≤ 64) (ht : m 535 132 0 = t) (h10 : t ≤ 10) (hk : m 0 151 t = 0) (hh : m 0 153 t = b.toNat) (h32 : c (m 521 132 0) ≠ 32) (hw : w3 ≠ .second) : zRi L xs h v m w1 w3 = some (.inl (some (.int (nI 0))), zMH h (u3 (u3 m 0 153 t (b && v).toNat) 522 132 0 (if m 521 132 0 < m 0 148 (m 520 132 0) then 1 else 0))) := by
  unfold zRi
  have k1 : m 0 151 (m 535 132 0) ≠ 1 := by rw [ht]; omega
  have k2 : m 0 151 (m 535 132 0) ≠ 2 := by rw [ht]; omega
  have k3 : m 0 151 (m 535 132 0) = 0 := by rw [ht]; exact hk
  have kb : m 0 151 (m 535 132 0) < 2147483648 := by rw [ht]; omega
  have s3 := hl.1.1
  have ll := hl.1.2
  by_cases q : m 521 132 0 < m 0 148 (m 520 132 0)
  · rw [if_pos q]
    cases b with
    | true =>
      have k5 : m 0 153 (m 535 132 0) ≠ 0 := by rw [ht, hh]; decide
      have k6 : m 0 153 (m 535 132 0) < 2147483648 := by rw [ht, hh]; decide
      cases v with
      | true => rw [p114_2_10 hx hl hb k1 k2 k5 rfl h32 k3 q, ht]; rfl
      | false => rw [p114_2_14 hx hl hb k1 k2 k5 rfl h32 k3 q, ht]; rfl
    | false =>
      have k5 : m 0 153 (m 535 132 0) = 0 := by rw [ht, hh]; rfl
      rw [p114_2_18 hx hl hb k1 k2 k5 h32 k3 q, ht]; rfl
  · rw [if_neg q]
    have q : m 0 148 (m 520 132 0) ≤ m 521 132 0 := by omega
    cases b with
    | true =>
      have k5 : m 0 153 (m 535 132 0) ≠ 0 := by rw [ht, hh]; decide
      have k6 : m 0 153 (m 535 132 0) < 2147483648 := by rw [ht, hh]; decide
      cases v with
      | true => rw [p114_2_11 hx hl hb k1 k2 k5 rfl h32 k3 q, ht]; rfl
      | false => rw [p114_2_15 hx hl hb k1 k2 k5 rfl h32 k3 q, ht]; rfl
    | false =>
      have k5 : m 0 153 (m 535 132 0) = 0 := by rw [ht, hh]; rfl
      rw [p114_2_19 hx hl hb k1 k2 k5 h32 k3 q, ht]; rfl
theorem zRi_br (hx : zFx h) (hl : zLC m c) {v b : Bool} {w1 w3 : Slot} {t : Nat} (hb : m 522 132 0 = 0) (ha : m 521 132 0 ≤ 64) (ht : m 535 132 0 = t + 1) (h10 : t ≤ 9) (hk : m 0 151 (t + 1) = 3) (hh : m 0 153 (t + 1) = b.toNat) (h32 : c (m 521 132 0) ≠ 32) (hw : w3 ≠ .second) : ∃ (m' : zMm) (w : Slot), w ≠ .second ∧ zRi L xs h v m w1 w3 = zRi L xs h (b && v) m' w1 w ∧ zfr [(521, 132), (522, 132), (0, 153), (535, 132)] m m' ∧ m' 535 132 0 = t ∧ (∀ i, i ≤ t → m' 0 153 i = m 0 153 i) ∧ ((c (m 521 132 0) = 41 ∧ m' 521 132 0 = m 521 132 0 + 1 ∧ m' 522 132 0 = 0) ∨ (c (m 521 132 0) ≠ 41 ∧ m' 522 132 0 = 1)) := by
  have hl1 : zLC (u3 m 0 153 (m 535 132 0) (b && v).toNat) c := zLC_fr hl (zfr_u (l := [(0, 153)]) (zfr_rf _ _) (by decide))
  obtain ⟨m1, e, f, g⟩ := s96 (L := L) (xs := xs) hx hl1 41 ha
  have g : (c (m 521 132 0) = 41 ∧ m1 521 132 0 = m 521 132 0 + 1 ∧ m1 522 132 0 = m 522 132 0) ∨ (c (m 521 132 0) ≠ 41 ∧ m1 521 132 0 = m 521 132 0 ∧ m1 522 132 0 = 1) := g
  have t1 : m1 535 132 0 = t + 1 := (f _ _ _ (by decide)).trans ht
  have h1 : m1 0 153 (m1 535 132 0) = (b && v).toNat := by rw [t1, f _ _ _ (by decide), ht, u3_eq]
  have k1 : m 0 151 (m 535 132 0) ≠ 1 := by rw [ht]; omega
  have k2 : m 0 151 (m 535 132 0) ≠ 2 := by rw [ht]; omega
  have k3 : m 0 151 (m 535 132 0) ≠ 0 := by rw [ht]; omega
  have kb : m 0 151 (m 535 132 0) < 2147483648 := by rw [ht]; omega
  have e1 : m1 535 132 0 - 1 = t := by omega
  have run : zRi L xs h v m w1 w3 = zRi L xs h (b && v) (u3 m1 535 132 0 t) w1 (.val (.int (nI (m 0 151 (m 535 132 0))))) := by
    unfold zRi
    rw [← h1, ← e1]
    cases b with
    | true =>
      have k5 : m 0 153 (m 535 132 0) ≠ 0 := by rw [ht, hh]; decide
      have k6 : m 0 153 (m 535 132 0) < 2147483648 := by rw [ht, hh]; decide
      cases v with
      | true => exact p114_2_12 hx hl hb k1 k2 k5 rfl h32 k3 e
      | false => exact p114_2_16 hx hl hb k1 k2 k5 rfl h32 k3 e
    | false =>
      have k5 : m 0 153 (m 535 132 0) = 0 := by rw [ht, hh]; rfl
      exact p114_2_20 hx hl hb k1 k2 k5 h32 k3 e
  refine ⟨_, _, zsecn, run, zfr_u (zfr_tr (l := [(521, 132), (522, 132), (0, 153), (535, 132)]) (zfr_u (l := [(521, 132), (522, 132), (0, 153), (535, 132)]) (zfr_rf _ m) (by decide)) f (fun _ q => q) (by decide)) (by decide), rfl, fun i hi => ?_, ?_⟩
  · show m1 0 153 i = _
    rw [f _ _ _ (by decide), ht, u3_i (by omega)]
  · rcases g with g | g
    · exact Or.inl ⟨g.1, g.2.1, by show m1 522 132 0 = 0; omega⟩
    · exact Or.inr ⟨g.1, g.2.2⟩
end
