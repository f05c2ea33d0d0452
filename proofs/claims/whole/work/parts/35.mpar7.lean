/-! ===== the reference's searches ===== -/
theorem zwl_pos {c : Nat → Nat} : ∀ k p n v, 1 ≤ v → 1 ≤ zwl c k p n v := by
  intro k
  induction k with
  | zero => exact fun p n v h => h
  | succ k ih =>
    intro p n v h
    show 1 ≤ zwl c k (p + 1) (n + 1) (if n < 7 then v * 32 + zltr (c p) else v)
    refine ih _ _ _ ?_
    split
    · omega
    · exact h
theorem zwn_ne0 {c : Nat → Nat} (hc : zCh c) (p : Nat) : zwn c p ≠ 0 := by
  unfold zwn
  split
  · decide
  · rename_i q
    have h1 : zlrg (c (p + 0)) = true := zre_all hc rfl p 0 (by omega)
    rw [Nat.add_zero] at h1
    have h2 : 65 ≤ c p ∧ c p ≤ 90 := of_decide_eq_true h1
    have h3 : 1 ≤ zwl c (zre zlrg c p - p) p 0 0 := by
      rw [show zre zlrg c p - p = (zre zlrg c p - p - 1) + 1 by omega]
      show 1 ≤ zwl c (zre zlrg c p - p - 1) (p + 1) 1 (if 0 < 7 then 0 * 32 + zltr (c p) else 0)
      refine zwl_pos _ _ _ _ ?_
      rw [if_pos (by decide)]
      unfold zltr
      rw [if_neg (by omega)]
      omega
    have h4 : 0 < (32 : Nat) ^ (7 - (zre zlrg c p - p)) := Nat.pow_pos (by decide)
    exact Nat.ne_of_gt (Nat.mul_pos h3 h4)
section
variable {L : Nat} {xs : Nat → Int32} {h : zH} {m : zMm} {c : Nat → Nat}
noncomputable def zDs (L : Nat) (xs : Nat → Int32) (h : zH) (m : zMm) (w2 w3 w4 : Slot) : Option zRes := zEv (zPr L xs) 2 113 2 [.val (.ref 132), .val (.int (nI true.toNat)), w2, w3, w4] [] (zMH h m)
theorem zDs_bad (hx : zFx h) (hl : zLC m c) {w2 w3 w4 : Slot} (hb : m 522 132 0 = 1) : zDs L xs h m w2 w3 w4 = some (.inl none, zMH h m) := p113_2_11 (x1 := true) hx hl rfl (by rw [hb]; decide) (by rw [hb]; decide)
theorem zDs_br (hx : zFx h) (hl : zLC m c) {w2 w3 w4 : Slot} {t : Nat} (h2 : w2 ≠ .second) (h3 : w3 ≠ .second) (hb : m 522 132 0 = 0) (ha : m 521 132 0 ≤ 64) (ht : m 535 132 0 = t) (h9 : t ≤ 9) (h40 : c (m 521 132 0) = 40) : ∃ (m' : zMm) (u2 u3 u4 : Slot), u2 ≠ .second ∧ u3 ≠ .second ∧ zDs L xs h m w2 w3 w4 = zDs L xs h m' u2 u3 u4 ∧ zfr [(521, 132), (522, 132), (535, 132), (0, 151), (0, 152), (0, 153)] m m' ∧ zkp t m m' ∧ m' 521 132 0 = m 521 132 0 + 1 ∧ m' 535 132 0 = t + 1 ∧ m' 0 151 (t + 1) = 3 ∧ m' 0 152 (t + 1) = 0 ∧ m' 0 153 (t + 1) = 1 ∧ m' 522 132 0 = (if 8 < t then 1 else 0) := by
  have fr : ∀ z, zfr [(521, 132), (522, 132)] m (u3 (u3 m 522 132 0 z) 521 132 0 (m 521 132 0 + 1)) := fun z => zfr_u (zfr_u (zfr_rf _ _) (by decide)) (by decide)
  by_cases c3 : 8 < t
  · obtain ⟨m1, e, f, g1, g2, g3, g4, g5⟩ := s112 (L := L) (xs := xs) (k := 3) (t := t + 1) hx (zLC_fr hl (fr 1)) (zadd1 ht) (by omega) (by decide)
    refine ⟨m1, _, _, _, zsecn, zsecn, p113_2_1 (x1 := true) hx hl rfl hb (by omega) h40 e, zfr_tr (fr 1) f (by decide) (by decide), zkp_tr (zkp_fr (fr 1) t) (g5 t (by omega)), f _ _ _ (by decide), g1, g2, g3, g4, ?_⟩
    rw [if_pos c3, f _ _ _ (by decide)]; rfl
  · obtain ⟨m1, e, f, g1, g2, g3, g4, g5⟩ := s112 (L := L) (xs := xs) (k := 3) (t := t + 1) hx (zLC_fr hl (fr 0)) (zadd1 ht) (by omega) (by decide)
    refine ⟨m1, _, _, _, zsecn, zsecn, p113_2_6 (x1 := true) hx hl rfl hb (by omega) h40 e, zfr_tr (fr 0) f (by decide) (by decide), zkp_tr (zkp_fr (fr 0) t) (g5 t (by omega)), f _ _ _ (by decide), g1, g2, g3, g4, ?_⟩
    rw [if_neg c3, f _ _ _ (by decide)]; rfl
/-- NOT (kind 1), OR (kind 2) -/
theorem zDs_no (hx : zFx h) (hl : zLC m c) {w2 w3 w4 : Slot} {t k : Nat} (h2 : w2 ≠ .second) (h3 : w3 ≠ .second) (hb : m 522 132 0 = 0) (ha : m 521 132 0 ≤ 64) (ht : m 535 132 0 = t) (h9 : t ≤ 9) (h40 : c (m 521 132 0) ≠ 40) (hk : (k = 1 ∧ zwn c (m 521 132 0) = 15556673536) ∨ (k = 2 ∧ zwn c (m 521 132 0) = 16710107136)) : ∃ (m' : zMm) (u2 u3 u4 : Slot), u2 ≠ .second ∧ u3 ≠ .second ∧ zDs L xs h m w2 w3 w4 = zDs L xs h m' u2 u3 u4 ∧ zfr [(521, 132), (522, 132), (535, 132), (0, 151), (0, 152), (0, 153)] m m' ∧ zkp t m m' ∧ m' 535 132 0 = t + 1 ∧ m' 0 151 (t + 1) = k ∧ m' 0 152 (t + 1) = 0 ∧ m' 0 153 (t + 1) = (if k = 2 then 0 else 1) ∧ ((8 < t ∧ m' 522 132 0 = 1) ∨ (c (zre zlrg c (m 521 132 0)) ≠ 32 ∧ m' 522 132 0 = 1) ∨ (t ≤ 8 ∧ c (zre zlrg c (m 521 132 0)) = 32 ∧ m' 522 132 0 = 0 ∧ m' 521 132 0 = zre zlrg c (m 521 132 0) + 1)) := by
  have hc := hl.2.2
  have h48 : m 521 132 0 < 48 := by
    refine Nat.lt_of_not_le fun q => ?_
    have h0 : c (m 521 132 0) = 0 := hc.1 _ q
    have : zwn c (m 521 132 0) = 18446744073709551615 := by
      unfold zwn
      rw [zre_f (by rw [h0]; rfl), if_pos (Or.inl (Nat.sub_self _))]
    omega
  have hr := (zre_ge hc (f := zlrg) rfl (m 521 132 0)).2.1 (by omega)
  have main : ∀ z : Nat, (z = if 8 < t then 1 else 0) → ∃ m1 m2 m3 : zMm, zCl (zPr L xs) 95 [.ref 132] (zMH h (u3 m 522 132 0 z)) = some (.inl (some (.long (nL (zwn c (m 521 132 0))))), zMH h m1) ∧ zCl (zPr L xs) 96 [.ref 132, .int (nI 32)] (zMH h m1) = some (.inl none, zMH h m2) ∧ zCl (zPr L xs) 112 [.ref 132, .int (nI k)] (zMH h m2) = some (.inl none, zMH h m3) ∧ zfr [(521, 132), (522, 132), (535, 132), (0, 151), (0, 152), (0, 153)] m m3 ∧ zkp t m m3 ∧ m3 535 132 0 = t + 1 ∧ m3 0 151 (t + 1) = k ∧ m3 0 152 (t + 1) = 0 ∧ m3 0 153 (t + 1) = (if k = 2 then 0 else 1) ∧ ((8 < t ∧ m3 522 132 0 = 1) ∨ (c (zre zlrg c (m 521 132 0)) ≠ 32 ∧ m3 522 132 0 = 1) ∨ (t ≤ 8 ∧ c (zre zlrg c (m 521 132 0)) = 32 ∧ m3 522 132 0 = 0 ∧ m3 521 132 0 = zre zlrg c (m 521 132 0) + 1)) := by
    intro z hz
    have f0 : zfr [(521, 132), (522, 132)] m (u3 m 522 132 0 z) := zfr_u (zfr_rf _ _) (by decide)
    obtain ⟨m1, e1, f1, g1⟩ := s95 (L := L) (xs := xs) hx (zLC_fr hl f0) (by show m 521 132 0 ≤ 66; omega)
    have g1 : m1 521 132 0 = zre zlrg c (m 521 132 0) := g1
    have F1 : zfr [(521, 132), (522, 132)] m m1 := zfr_tr f0 f1 (fun _ q => q) (by decide)
    obtain ⟨m2, e2, f2, g2⟩ := s96 (L := L) (xs := xs) hx (zLC_fr hl F1) 32 (by omega)
    have F2 : zfr [(521, 132), (522, 132)] m m2 := zfr_tr F1 f2 (fun _ q => q) (fun _ q => q)
    obtain ⟨m3, e3, f3, k1, k2, k3, k4, k5⟩ := s112 (L := L) (xs := xs) (k := k) (t := t + 1) hx (zLC_fr hl F2) (zadd1 ((F2 _ _ _ (by decide)).trans ht)) (by omega) (by omega)
    refine ⟨m1, m2, m3, e1, e2, e3, zfr_tr F2 f3 (by decide) (by decide), zkp_tr (zkp_fr F2 t) (k5 t (by omega)), k1, k2, k3, k4, ?_⟩
    have b3 : m3 522 132 0 = m2 522 132 0 := f3 _ _ _ (by decide)
    have a3 : m3 521 132 0 = m2 521 132 0 := f3 _ _ _ (by decide)
    have b1 : m1 522 132 0 = z := (f1 _ _ _ (by decide)).trans rfl
    rw [g1] at g2
    by_cases q : 8 < t
    · rw [if_pos q] at hz
      refine Or.inl ⟨q, ?_⟩
      rcases g2 with g | g <;> omega
    · rw [if_neg q] at hz
      refine Or.inr ?_
      rcases g2 with g | g
      · exact Or.inr ⟨by omega, g.1, by omega, by omega⟩
      · exact Or.inl ⟨g.1, by omega⟩
  have hy := zwn_lt hc (m 521 132 0)
  have hy0 := zwn_ne0 hc (m 521 132 0)
  by_cases c3 : 8 < t
  · obtain ⟨m1, m2, m3, e1, e2, e3, k1⟩ := main 1 (by rw [if_pos c3])
    rcases hk with ⟨rfl, hk⟩ | ⟨rfl, hk⟩
    · exact ⟨m3, _, _, _, zsecn, zsecn, p113_2_3 (x1 := true) hx hl rfl hb (by omega) h40 e1 hy0 hk e2 e3, k1⟩
    · exact ⟨m3, _, _, _, zsecn, zsecn, p113_2_4 (x1 := true) hx hl rfl hb (by omega) h40 e1 hy0 (by omega) hk e2 e3, k1⟩
  · obtain ⟨m1, m2, m3, e1, e2, e3, k1⟩ := main 0 (by rw [if_neg c3])
    rcases hk with ⟨rfl, hk⟩ | ⟨rfl, hk⟩
    · exact ⟨m3, _, _, _, zsecn, zsecn, p113_2_8 (x1 := true) hx hl rfl hb (by omega) h40 e1 hy0 hk e2 e3, k1⟩
    · exact ⟨m3, _, _, _, zsecn, zsecn, p113_2_9 (x1 := true) hx hl rfl hb (by omega) h40 e1 hy0 (by omega) hk e2 e3, k1⟩
theorem zDs_lf (hx : zFx h) (hl : zLC m c) {w2 w3 w4 : Slot} {t : Nat} (h2 : w2 ≠ .second) (h3 : w3 ≠ .second) (hb : m 522 132 0 = 0) (ha : m 521 132 0 ≤ 64) (ht : m 535 132 0 = t) (h9 : t ≤ 9) (h40 : c (m 521 132 0) ≠ 40) (hk1 : zwn c (m 521 132 0) ≠ 15556673536) (hk2 : zwn c (m 521 132 0) ≠ 16710107136) : ∃ m' : zMm, zDs L xs h m w2 w3 w4 = some (.inl none, zMH h m') ∧ zfr [(521, 132), (522, 132)] m m' ∧ m' 521 132 0 = m 521 132 0 ∧ m' 522 132 0 = (if 8 < t then 1 else 0) := by
  have hc := hl.2.2
  have hy := zwn_lt hc (m 521 132 0)
  have hy0 := zwn_ne0 hc (m 521 132 0)
  have main : ∀ z : Nat, ∃ m1 : zMm, zCl (zPr L xs) 95 [.ref 132] (zMH h (u3 m 522 132 0 z)) = some (.inl (some (.long (nL (zwn c (m 521 132 0))))), zMH h m1) ∧ zfr [(521, 132), (522, 132)] m m1 ∧ m1 522 132 0 = z := by
    intro z
    have f0 : zfr [(521, 132), (522, 132)] m (u3 m 522 132 0 z) := zfr_u (zfr_rf _ _) (by decide)
    obtain ⟨m1, e1, f1, g1⟩ := s95 (L := L) (xs := xs) hx (zLC_fr hl f0) (by show m 521 132 0 ≤ 66; omega)
    exact ⟨m1, e1, zfr_tr f0 f1 (fun _ q => q) (by decide), (f1 _ _ _ (by decide)).trans rfl⟩
  by_cases c3 : 8 < t
  · obtain ⟨m1, e1, f1, b1⟩ := main 1
    have f2 : zfr [(521, 132), (522, 132)] m (u3 m1 521 132 0 (m 521 132 0)) := zfr_u f1 (by decide)
    refine ⟨_, (p113_2_5 (x1 := true) hx hl rfl hb (by omega) h40 e1 hy0 hk1 hk2).trans (p113_2_12 (x1 := false) hx (zLC_fr hl f2) rfl), f2, rfl, ?_⟩
    rw [if_pos c3]; exact b1
  · obtain ⟨m1, e1, f1, b1⟩ := main 0
    have f2 : zfr [(521, 132), (522, 132)] m (u3 m1 521 132 0 (m 521 132 0)) := zfr_u f1 (by decide)
    refine ⟨_, (p113_2_10 (x1 := true) hx hl rfl hb (by omega) h40 e1 hy0 hk1 hk2).trans (p113_2_12 (x1 := false) hx (zLC_fr hl f2) rfl), f2, rfl, ?_⟩
    rw [if_neg c3]; exact b1
/-! in the midst of descend, of rise -/
noncomputable def zFD (L : Nat) (xs : Nat → Int32) (h : zH) (n : Nat) (w2 w3 : Slot) (q : Option zRes) : Option zRes := zCont (zPr L xs) (zEv (zPr L xs)) 5 115 25 (28, [.val (.ref 132), .val (.int (nI n)), w2, w3], [], h) q
noncomputable def zFR (L : Nat) (xs : Nat → Int32) (h : zH) (n : Nat) (w2 w3 : Slot) (q : Option zRes) : Option zRes := zCont (zPr L xs) (zEv (zPr L xs)) 5 115 58 (61, [.val (.ref 132), .val (.int (nI n)), w2, w3], [], h) q
/-- from the head of search's loop -/
theorem zHead (hx : zFx h) (hl : zLC m c) {n : Nat} {w3 : Slot} : zEv (zPr L xs) 5 115 20 [.val (.ref 132), .val (.int (nI n)), .val (.int (nI true.toNat)), w3] [] (zMH h m) = zFD L xs h n (.val (.int (nI true.toNat))) w3 (zDs L xs h m .unset .unset .unset) := by
  rw [p115_20_1 (x2 := true) hx hl rfl]
  refine Eq.trans (k_cvc (a := 132) (as := [.ref 132]) (rest := []) lk_115_25 rfl rfl (Or.inl (show zT (zMH h m) 132 = 10 from xT_132 hx)) rfl rfl (rk_113 _) (by decide)) ?_
  rw [en_113, p113_0_1 hx hl]
  rfl
theorem zStop (hx : zFx h) (hl : zLC m c) {n : Nat} {w3 : Slot} (hh : m 0 153 0 < 2) : zEv (zPr L xs) 5 115 20 [.val (.ref 132), .val (.int (nI n)), .val (.int (nI false.toNat)), w3] [] (zMH h m) = some (.inl (some (.int (nI (m 0 153 0)))), zMH h m) := p115_20_2 (x2 := false) hx hl rfl hh
theorem zFR_t (hx : zFx h) (hl : zLC m c) {n : Nat} {w2 w3 : Slot} (h2 : w2 ≠ .second) (h3 : w3 ≠ .second) : zFR L xs h n w2 w3 (some (.inl (some (.int (nI 1))), zMH h m)) = zFD L xs h n (.val (.int (nI true.toNat))) w3 (zDs L xs h m .unset .unset .unset) := by
  rw [← zHead hx hl]
  exact p115_61_1 (z0 := true) hx hl rfl
theorem zFR_f (hx : zFx h) (hl : zLC m c) {n : Nat} {w2 w3 : Slot} (h2 : w2 ≠ .second) (h3 : w3 ≠ .second) (hh : m 0 153 0 < 2) : zFR L xs h n w2 w3 (some (.inl (some (.int (nI 0))), zMH h m)) = some (.inl (some (.int (nI (m 0 153 0)))), zMH h m) := by
  rw [← zStop (n := n) (w3 := w3) hx hl hh]
  exact p115_61_2 (z0 := false) hx hl rfl
theorem zFD_bad (hx : zFx h) (hl : zLC m c) {n : Nat} {w2 w3 : Slot} (h2 : w2 ≠ .second) (h3 : w3 ≠ .second) (hb : m 522 132 0 = 1) (hh : m 0 153 0 < 2) : zFD L xs h n w2 w3 (some (.inl none, zMH h m)) = some (.inl (some (.int (nI (m 0 153 0)))), zMH h m) := by
  have hb0 : m 522 132 0 ≠ 0 := by omega
  have hb1 : m 522 132 0 < 2147483648 := by omega
  refine Eq.trans (b := zEv (zPr L xs) 5 115 28 [.val (.ref 132), .val (.int (nI n)), w2, w3] [] (zMH h m)) rfl ?_
  rw [p115_28_3 hx hl hb0, p115_49_2 (x3 := false) hx hl hb0]
  exact zStop hx hl hh
/-- what holds where a key or a search begins: place p, depth d -/
def zKc (c : Nat → Nat) (n : Nat) (m : zMm) (d p : Nat) : Prop := zLC m c ∧ (n ≠ 0 → zVB m) ∧ znp m ≤ 40 ∧ m 521 132 0 = p ∧ p ≤ 64 ∧ m 522 132 0 = 0 ∧ m 523 132 0 ≤ 1 ∧ m 535 132 0 = d ∧ (n ≠ 0 → ∃ j, zmt m n = some j) ∧ m 0 153 0 < 2
theorem zKc_nx {n d p d' p' : Nat} {m' : zMm} (hk : zKc c n m d p) (hf : zfr zfS m m') (h1 : m' 521 132 0 = p') (h2 : p' ≤ 64) (h3 : m' 522 132 0 = 0) (h4 : m' 523 132 0 ≤ 1) (h5 : m' 535 132 0 = d') (h6 : m' 0 153 0 < 2) : zKc c n m' d' p' := by
  obtain ⟨a1, a2, a3, a4, a5, a6, a7, a8, a9, a10⟩ := hk
  have e := zenv_fr (c := c) hf
  exact ⟨zLC_fr a1 hf, fun q => zVB_fr (a2 q) hf, by rw [e.2.2.2]; exact a3, h1, h2, h3, h4, h5, fun q => by rw [e.2.1]; exact a9 q, h6⟩
/-- the search has ended, the line being no command -/
def zKf (h : zH) (m : zMm) (q : Option zRes) : Prop := ∃ (mf : zMm) (x : Nat), q = some (.inl (some (.int (nI x))), zMH h mf) ∧ x < 2 ∧ mf 522 132 0 = 1 ∧ zfr zfS m mf
theorem zKf_bad (hx : zFx h) (hl : zLC m c) {m0 : zMm} {n : Nat} {w2 w3 : Slot} (h2 : w2 ≠ .second) (h3 : w3 ≠ .second) (hb : m 522 132 0 = 1) (hh : m 0 153 0 < 2) (hf : zfr zfS m0 m) : zKf h m0 (zFD L xs h n w2 w3 (some (.inl none, zMH h m))) := ⟨m, m 0 153 0, zFD_bad hx hl h2 h3 hb hh, hh, hb, hf⟩
/-- a key's value stands: rise takes it -/
def zKs (L : Nat) (xs : Nat → Int32) (h : zH) (c : Nat → Nat) (n : Nat) (m : zMm) (d e : Nat) (w : Bool) (q : Option zRes) (m' : zMm) (v : Bool) : Prop := ∃ (w2 w3 ra rb : Slot), w2 ≠ .second ∧ w3 ≠ .second ∧ rb ≠ .second ∧ q = zFR L xs h n w2 w3 (zRi L xs h v m' ra rb) ∧ zfr zfS m m' ∧ m' 521 132 0 = e ∧ e ≤ 64 ∧ m' 522 132 0 = 0 ∧ m' 523 132 0 = (if w then 1 else m 523 132 0) ∧ m' 535 132 0 = d
theorem zleaf_ge {c : Nat → Nat} (hc : zCh c) {E : zEnv} {p e : Nat} {w : Bool} {k : zHd} (hp : p ≤ 48) (h : zleaf c E p = some (e, w, k)) : p < e ∧ e ≤ 49 := by
  unfold zleaf at h
  have hr := zre_ge hc (f := zlrg) rfl p
  split at h
  · cases hz : zset c 64 p with
    | none => rw [hz] at h; cases h
    | some q =>
      obtain ⟨l, e1⟩ := q
      rw [hz] at h
      cases h
      have := zset_ge hc _ _ _ _ hz
      exact ⟨this.1, by have := this.2 hp; omega⟩
  · rename_i hq
    have hq : zlrg (c p) = true := by cases q : zlrg (c p) with | true => rfl | false => exact absurd q hq
    have h1 : p < zre zlrg c p := by
      rw [zre_t hc rfl hq]
      have := (zre_ge hc (f := zlrg) rfl (p + 1)).1
      omega
    have h2 := hr.2.1 hp
    split at h
    · cases h; omega
    · split at h
      · split at h
        · rename_i q
          cases h
          have : zre zlrg c p < 48 := Nat.lt_of_not_le fun z => by rw [hc.1 _ z] at q; have := q.1; omega
          omega
        · cases h
      · split at h
        · split at h
          · rename_i q
            cases h
            have : zre zlrg c p < 48 := Nat.lt_of_not_le fun z => by rw [hc.1 _ z] at q; have := q.1; omega
            have g := (zre_ge hc (f := zsml) rfl (zre zlrg c p + 1)).2.1 (by omega)
            omega
          · cases h
        · split at h
          · split at h
            · rename_i q
              have h48 : zre zlrg c p < 48 := Nat.lt_of_not_le fun z => by rw [hc.1 _ z] at q; omega
              cases hz : zset c 64 (zre zlrg c p + 1) with
              | none => rw [hz] at h; cases h
              | some q =>
                obtain ⟨l, e1⟩ := q
                rw [hz] at h
                cases h
                have := zset_ge hc _ _ _ _ hz
                exact ⟨by omega, by have := this.2 (by omega); omega⟩
            · cases h
          · cases h
theorem zleaf_48 {c : Nat → Nat} (hc : zCh c) {E : zEnv} {p : Nat} (hp : 48 < p) : zleaf c E p = none := by
  have h0 : c p = 0 := hc.1 _ (by omega)
  unfold zleaf
  rw [if_pos (by rw [h0]; rfl)]
  have : zset c 64 p = none := by
    unfold zset zrg zpt
    rw [h0, if_neg (by decide), if_neg (by rw [zre_f (by rw [h0]; rfl)]; omega)]
  rw [this]
/-- a key without others in it, within a search -/
theorem zKleaf (hx : zFx h) {n d p : Nat} (hn : n ≤ 40) (hk : zKc c n m d p) (h9 : d ≤ 9) {w2 w3 u2 u3 u4 : Slot} (h2 : w2 ≠ .second) (h3 : w3 ≠ .second) (hu2 : u2 ≠ .second) (hu3 : u3 ≠ .second) (h40 : c p ≠ 40) (hk1 : zwn c p ≠ 15556673536) (hk2 : zwn c p ≠ 16710107136) (hok : n ≠ 0 → d ≤ 8 ∧ zleaf c (zenv m c) p ≠ none) :
    match (if 8 < d then none else zleaf c (zenv m c) p) with
    | none => zKf h m (zFD L xs h n w2 w3 (zDs L xs h m u2 u3 u4))
    | some (e, w, k) => ∃ m' v, zKs L xs h c n m d e w (zFD L xs h n w2 w3 (zDs L xs h m u2 u3 u4)) m' v ∧ zkp d m m' ∧ (n ≠ 0 → v = k n) := by
  obtain ⟨hl, a2, a3, a4, a5, a6, a7, a8, a9, a10⟩ := hk
  have hc := hl.2.2
  obtain ⟨m1, e1, f1, g1, g2⟩ := zDs_lf (L := L) (xs := xs) (w2 := u2) (w3 := u3) (w4 := u4) (t := d) hx hl hu2 hu3 a6 (by omega) a8 h9 (by rw [a4]; exact h40) (by rw [a4]; exact hk1) (by rw [a4]; exact hk2)
  have hl1 := zLC_fr hl f1
  have F1 : zfr zfS m m1 := zfr_w f1 (by decide)
  have hh1 : m1 0 153 0 < 2 := by rw [f1 _ _ _ (by decide)]; exact a10
  rw [e1]
  by_cases c3 : 8 < d
  · rw [if_pos c3] at g2 ⊢
    exact zKf_bad hx hl1 h2 h3 g2 hh1 F1
  · rw [if_neg c3] at g2 ⊢
    have en := zenv_fr (c := c) F1
    have g1 : m1 521 132 0 = p := g1.trans a4
    obtain ⟨m2, v, e2, f2, b2, b3, b4⟩ := s111 (L := L) (xs := xs) hx hl1 hn (fun q => zVB_fr (a2 q) F1) (by rw [en.2.2.2]; exact a3) (by omega) g2 (by rw [f1 _ _ _ (by decide)]; exact a7) (fun q => by rw [en.2.1]; exact a9 q) (fun q => by rw [en.1, g1]; exact (hok q).2)
    rw [en.1, g1] at b4
    have hl2 := zLC_fr hl1 f2
    have F2 : zfr zfS m m2 := zfr_tr F1 f2 (fun _ q => q) (by decide)
    have hh2 : m2 0 153 0 < 2 := by rw [f2 _ _ _ (by decide)]; exact hh1
    have at49 : zFD L xs h n w2 w3 (some (.inl none, zMH h m1)) = zEv (zPr L xs) 5 115 49 [.val (.ref 132), .val (.int (nI n)), w2, .val (.int (nI v.toNat))] [] (zMH h m2) := by
      refine Eq.trans (b := zEv (zPr L xs) 5 115 28 [.val (.ref 132), .val (.int (nI n)), w2, w3] [] (zMH h m1)) rfl ?_
      cases v with
      | true => exact p115_28_1 hx hl1 g2 e2 rfl
      | false => exact p115_28_2 hx hl1 g2 e2 rfl
    rw [at49]
    cases hz : zleaf c (zenv m c) p with
    | none =>
      rw [hz] at b4
      dsimp only at b4 ⊢
      have b0 : m2 522 132 0 ≠ 0 := by omega
      have b1 : m2 522 132 0 < 2147483648 := by omega
      refine ⟨m2, m2 0 153 0, ?_, hh2, b4, F2⟩
      rw [p115_49_2 hx hl2 b0]
      exact zStop hx hl2 hh2
    | some r =>
      obtain ⟨e, w, k⟩ := r
      rw [hz] at b4
      dsimp only at b4 ⊢
      have hp48 : p ≤ 48 := Nat.le_of_not_lt fun q => by rw [zleaf_48 hc q] at hz; cases hz
      have hge := zleaf_ge hc hp48 hz
      refine ⟨m2, v, ⟨w2, .val (.int (nI v.toNat)), .val (.int (nI v.toNat)), .unset, h2, zsecn, zsecu, ?_, F2, b4.2.1, by omega, b4.1, ?_, ?_⟩, zkp_tr (zkp_fr f1 d) (zkp_fr f2 d), b4.2.2.2⟩
      · rw [p115_49_1 (x3 := v) hx hl2 b4.1]
        refine Eq.trans (k_cvc (a := 132) (as := [.ref 132, .int (nI v.toNat)]) (rest := []) lk_115_58 rfl rfl (Or.inl (show zT (zMH h m2) 132 = 10 from xT_132 hx)) rfl rfl (rk_114 _) (by decide)) ?_
        rw [en_114, p114_0_1 (p := v) hx hl2]
        rfl
      · rw [b4.2.2.1, f1 _ _ _ (by decide)]
      · rw [f2 _ _ _ (by decide), f1 _ _ _ (by decide)]; exact a8
end
