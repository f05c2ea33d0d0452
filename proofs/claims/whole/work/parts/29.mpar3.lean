/-! ===== the reference: what a set covers; flags, texts, boxes, words ===== -/
section
variable {L : Nat} {xs : Nat → Int32} {h : zH} {m : zMm} {c : Nat → Nat}
theorem zrg_cases {c : Nat → Nat} {p e : Nat} {r : zRg} (h : zrg c p = some (r, e)) : (∃ e1, zpt c p = some (r.1, e1) ∧ c e1 = 58 ∧ zpt c (e1 + 1) = some (r.2, e)) ∨ (zpt c p = some (r.1, e) ∧ c e ≠ 58 ∧ r.2 = r.1) := by
  unfold zrg at h
  cases h1 : zpt c p with
  | none => rw [h1] at h; cases h
  | some q =>
    obtain ⟨a, e1⟩ := q
    rw [h1] at h
    dsimp only at h
    split at h
    · rename_i h58
      cases h2 : zpt c (e1 + 1) with
      | none => rw [h2] at h; cases h
      | some q2 =>
        obtain ⟨b, e2⟩ := q2
        rw [h2] at h
        injection h with h; injection h with a1 a2
        subst a1; subst a2
        exact Or.inl ⟨e1, rfl, h58, h2⟩
    · rename_i h58
      injection h with h; injection h with a1 a2
      subst a1; subst a2
      exact Or.inr ⟨rfl, h58, rfl⟩
theorem s105a (hx : zFx h) (hl : zLC m c) {x2 x3 x4 x5 a b : Nat} {x6 : Bool} {w1 : Slot} (hw1 : w1 ≠ .second) (hv : x3 < 2147483648) (ha : a < 2147483648) (hb : b < 2147483648) :
    zEv (zPr L xs) 2 105 67 [.val (.ref 132), w1, .val (.int (nI x2)), .val (.int (nI x3)), .val (.int (nI x4)), .val (.int (nI x5)), .val (.int (nI x6.toNat)), .val (.int (nI a)), .val (.int (nI b))] [] (zMH h m) =
    zEv (zPr L xs) 2 105 6 [.val (.ref 132), w1, .val (.int (nI x2)), .val (.int (nI x3)), .val (.int (nI x4)), .val (.int (nI (x5 + 1))), .val (.int (nI (x6 || (if a < b then decide (a ≤ x3 ∧ x3 ≤ b) else decide (b ≤ x3 ∧ x3 ≤ a))).toNat)), .val (.int (nI a)), .val (.int (nI b))] [] (zMH h m) := by
  cases x6 with
  | true => rw [p105_67_7 hx hl rfl, p105_111_1 hx hl]; rfl
  | false =>
    rw [Bool.false_or]
    by_cases c2 : a < b
    · rw [if_pos c2]
      by_cases c3 : a ≤ x3
      · by_cases c4 : x3 ≤ b
        · rw [p105_67_1 hx hl rfl c2 c3 c4, p105_111_1 hx hl, decide_eq_true (And.intro c3 c4)]
        · rw [p105_67_2 hx hl rfl c2 c3 (by omega), p105_111_1 hx hl, decide_eq_false (fun q => c4 q.2)]
      · rw [p105_67_3 hx hl rfl c2 (by omega), p105_111_1 hx hl, decide_eq_false (fun q => c3 q.1)]
    · rw [if_neg c2]
      by_cases c3 : b ≤ x3
      · by_cases c4 : x3 ≤ a
        · rw [p105_67_4 hx hl rfl (by omega) c3 c4, p105_111_1 hx hl, decide_eq_true (And.intro c3 c4)]
        · rw [p105_67_5 hx hl rfl (by omega) c3 (by omega), p105_111_1 hx hl, decide_eq_false (fun q => c4 q.2)]
      · rw [p105_67_6 hx hl rfl (by omega) (by omega), p105_111_1 hx hl, decide_eq_false (fun q => c3 q.1)]
/-- whether a set covers a value -/
theorem s105 (hx : zFx h) (hl : zLC m c) {p e v last : Nat} {l : List zRg} {f : Nat} (hz : zset c f p = some (l, e)) (hp : p ≤ 64) (hv : v < 2147483648) (hla : last < 2147483648) :
    zCl (zPr L xs) 105 [.ref 132, .int (nI p), .int (nI e), .int (nI v), .int (nI last)] (zMH h m) = some (.inl (some (.int (nI (zrsin l v last).toNat))), zMH h m) := by
  have hc := hl.2.2
  rw [en_105, p105_0_1 hx hl]
  have loop : ∀ f p l, zset c f p = some (l, e) → p ≤ 64 → ∀ (x6 : Bool) (w1 w7 w8 : Slot), w1 ≠ .second → w7 ≠ .second → w8 ≠ .second → zEv (zPr L xs) 2 105 6 [.val (.ref 132), w1, .val (.int (nI e)), .val (.int (nI v)), .val (.int (nI last)), .val (.int (nI p)), .val (.int (nI x6.toNat)), w7, w8] [] (zMH h m) = some (.inl (some (.int (nI (x6 || zrsin l v last).toNat))), zMH h m) := by
    intro f
    induction f with
    | zero => intro p l h; cases h
    | succ f ih =>
      intro p l hz hp x6 w1 w7 w8 hw1 hw7 hw8
      have hge := zset_ge hc _ _ _ _ hz
      unfold zset at hz
      cases h1 : zrg c p with
      | none => rw [h1] at hz; cases hz
      | some q =>
        obtain ⟨r, e1⟩ := q
        rw [h1] at hz
        dsimp only at hz
        have g1 := zrg_ge hc h1
        have hA : r.1.getD last < 2147483648 := by
          cases q : r.1 with
          | none => exact hla
          | some v => have := g1.2.2.1 v q; show v < 2147483648; omega
        have hB : r.2.getD last < 2147483648 := by
          cases q : r.2 with
          | none => exact hla
          | some v => have := g1.2.2.2 v q; show v < 2147483648; omega
        have he1 : e ≤ 64 ∨ 64 < p := by
          by_cases q : p ≤ 48
          · have := hge.2 q; omega
          · have h0 : zrg c p = none := by
              have h0 : c p = 0 := hc.1 _ (by omega)
              unfold zrg zpt
              rw [h0, if_neg (by decide), if_neg (by rw [zre_f (by rw [h0]; rfl)]; omega)]
            rw [h0] at h1; cases h1
        have hp48 : p ≤ 48 := Nat.le_of_not_lt fun q => by
          have h0 : c p = 0 := hc.1 _ (by omega)
          unfold zrg zpt at h1
          rw [h0, if_neg (by decide), if_neg (by rw [zre_f (by rw [h0]; rfl)]; omega)] at h1
          cases h1
        have he48 := g1.2.1 hp48
        -- one range
        have hpe1 : p < e := hge.1
        have one : zEv (zPr L xs) 2 105 6 [.val (.ref 132), w1, .val (.int (nI e)), .val (.int (nI v)), .val (.int (nI last)), .val (.int (nI p)), .val (.int (nI x6.toNat)), w7, w8] [] (zMH h m) = zEv (zPr L xs) 2 105 6 [.val (.ref 132), w1, .val (.int (nI e)), .val (.int (nI v)), .val (.int (nI last)), .val (.int (nI (e1 + 1))), .val (.int (nI (x6 || zrin r v last).toNat)), .val (.int (nI (r.1.getD last))), .val (.int (nI (r.2.getD last)))] [] (zMH h m) := by
          rcases zrg_cases h1 with ⟨e0, k1, k2, k3⟩ | ⟨k1, k2, k3⟩
          · have g2 := zpt_ge hc k1
            have g3 := zpt_ge hc k3
            have h48 : e0 < 48 := Nat.lt_of_not_le fun q => by rw [hc.1 _ q] at k2; cases k2
            rw [p105_6_1 hx hl hpe1 (s103 hx hl k1 hp hla) (s104 hx hl k1 hp) k2 (s103 hx hl k3 (by omega) hla) (s104 hx hl k3 (by omega)) (by omega) (by omega) (by omega), s105a hx hl hw1 hv hA hB]
            rfl
          · have g2 := zpt_ge hc k1
            rw [p105_6_2 hx hl hpe1 (s103 hx hl k1 hp hla) (s104 hx hl k1 hp) k2 (by omega) (by omega) (by omega), s105a hx hl hw1 hv hA hA, k3]
            have : zrin r v last = (if r.1.getD last < r.1.getD last then decide (r.1.getD last ≤ v ∧ v ≤ r.1.getD last) else decide (r.1.getD last ≤ v ∧ v ≤ r.1.getD last)) := by unfold zrin; rw [k3]
            rw [this]
        rw [one]
        split at hz
        · rename_i h44
          cases h2 : zset c f (e1 + 1) with
          | none => rw [h2] at hz; cases hz
          | some q2 =>
            obtain ⟨l2, e2⟩ := q2
            rw [h2] at hz
            injection hz with hz; injection hz with a1 a2
            subst a1; subst a2
            have h48 : e1 < 48 := Nat.lt_of_not_le fun q => by rw [hc.1 _ q] at h44; cases h44
            rw [ih (e1 + 1) l2 h2 (by omega) _ w1 _ _ hw1 (fun q => by cases q) (fun q => by cases q)]
            rw [Bool.or_assoc]; rfl
        · injection hz with hz; injection hz with a1 a2
          subst a1; subst a2
          have e9 : zrsin [r] v last = zrin r v last := Bool.or_false _
          rw [e9]
          exact p105_6_3 (x2 := e1) (x5 := e1 + 1) hx hl (Nat.le_succ _)
  rw [loop f p l hz hp false _ _ _ (fun q => by cases q) (fun q => by cases q) (fun q => by cases q), Bool.false_or]
/-- whether a set of sequence numbers is wrong -/
theorem s106 (hx : zFx h) (hl : zLC m c) {p e n : Nat} {l : List zRg} {f : Nat} (hz : zset c f p = some (l, e)) (hp : p ≤ 64) (hn : m 0 144 (m 520 132 0) = n) (hn4 : n ≤ 40) :
    zCl (zPr L xs) 106 [.ref 132, .int (nI p), .int (nI e)] (zMH h m) = some (.inl (some (.int (nI (zrsw l n).toNat))), zMH h m) := by
  have hc := hl.2.2
  have h3 := hl.1.1
  -- one point
  have point : ∀ {p e0 : Nat} {a : Option Nat}, zpt c p = some (a, e0) → p < e → p ≤ 64 → e ≤ 64 → ∀ (x3 : Bool) (w1 w5 : Slot), w1 ≠ .second → w5 ≠ .second → ∃ w, w ≠ Slot.second ∧ zEv (zPr L xs) 2 106 21 [.val (.ref 132), w1, .val (.int (nI e)), .val (.int (nI x3.toNat)), .val (.int (nI p)), w5] [] (zMH h m) = zEv (zPr L xs) 2 106 21 [.val (.ref 132), w1, .val (.int (nI e)), .val (.int (nI (x3 || (decide (n = 0) || zpw n a)).toNat)), .val (.int (nI (e0 + 1))), w] [] (zMH h m) := by
    intro p e0 a hpt hpe hp64 he64 x3 w1 w5 hw1 hw5
    have g := zpt_ge hc hpt
    have e1 := s103 (L := L) (xs := xs) (q := 1) hx hl hpt hp64 (by decide)
    have e2 := s104 (L := L) (xs := xs) hx hl hpt hp64
    have ha : a.getD 1 < 10000 := by
      cases q : a with
      | none => show 1 < 10000; decide
      | some v => exact g.2.2 v q
    refine ⟨.val (.int (nI (a.getD 1))), (fun q => by cases q), ?_⟩
    cases x3 with
    | true => rw [p106_21_4 hx hl hpe e1 rfl e2]; rfl
    | false =>
      rw [Bool.false_or]
      by_cases k1 : 1 ≤ a.getD 1
      · by_cases k2 : a.getD 1 ≤ m 0 144 (m 520 132 0)
        · have : (decide (n = 0) || zpw n a) = false := by
            rw [Bool.or_eq_false_iff]
            refine ⟨decide_eq_false (by omega), ?_⟩
            cases a with
            | none => rfl
            | some v =>
              have k1 : 1 ≤ v := k1
              have k2 : v ≤ m 0 144 (m 520 132 0) := k2
              exact decide_eq_false (by omega)
          rw [p106_21_2 hx hl hpe e1 rfl k1 k2 e2, this]
        · have : (decide (n = 0) || zpw n a) = true := by
            rw [Bool.or_eq_true]
            cases a with
            | none =>
              have k2 : ¬ 1 ≤ m 0 144 (m 520 132 0) := k2
              exact Or.inl (decide_eq_true (by omega))
            | some v =>
              have k2 : ¬ v ≤ m 0 144 (m 520 132 0) := k2
              exact Or.inr (decide_eq_true (by omega))
          rw [p106_21_1 hx hl hpe e1 rfl k1 (by omega) e2, this]
      · have : (decide (n = 0) || zpw n a) = true := by
          rw [Bool.or_eq_true]
          cases a with
          | none => exact absurd (Nat.le_refl 1) k1
          | some v =>
            have k1 : ¬ 1 ≤ v := k1
            exact Or.inr (decide_eq_true (by omega))
        rw [p106_21_3 hx hl hpe e1 rfl (by omega) e2, this]
  have loop : ∀ f p l, zset c f p = some (l, e) → p ≤ 48 → ∀ (x3 : Bool) (w1 w5 : Slot), w1 ≠ .second → w5 ≠ .second → zEv (zPr L xs) 2 106 21 [.val (.ref 132), w1, .val (.int (nI e)), .val (.int (nI x3.toNat)), .val (.int (nI p)), w5] [] (zMH h m) = some (.inl (some (.int (nI (x3 || (decide (n = 0) || l.any (fun r => zpw n r.1 || zpw n r.2))).toNat))), zMH h m) := by
    intro f
    induction f with
    | zero => intro p l h; cases h
    | succ f ih =>
      intro p l hz hp48 x3 w1 w5 hw1 hw5
      have hge := zset_ge hc _ _ _ _ hz
      have he48 := hge.2 hp48
      unfold zset at hz
      cases h1 : zrg c p with
      | none => rw [h1] at hz; cases hz
      | some q =>
        obtain ⟨r, e1⟩ := q
        rw [h1] at hz
        dsimp only at hz
        have g1 := zrg_ge hc h1
        have he1 : e1 ≤ e := by
          split at hz
          · rename_i h44
            cases h2 : zset c f (e1 + 1) with
            | none => rw [h2] at hz; cases hz
            | some q2 =>
              obtain ⟨l2, e2⟩ := q2
              rw [h2] at hz
              injection hz with hz; injection hz with a1 a2
              have := (zset_ge hc _ _ _ _ h2).1
              omega
          · injection hz with hz; injection hz with a1 a2
            omega
        have one : ∃ w, w ≠ Slot.second ∧ zEv (zPr L xs) 2 106 21 [.val (.ref 132), w1, .val (.int (nI e)), .val (.int (nI x3.toNat)), .val (.int (nI p)), w5] [] (zMH h m) = zEv (zPr L xs) 2 106 21 [.val (.ref 132), w1, .val (.int (nI e)), .val (.int (nI (x3 || (decide (n = 0) || (zpw n r.1 || zpw n r.2))).toNat)), .val (.int (nI (e1 + 1))), w] [] (zMH h m) := by
          rcases zrg_cases h1 with ⟨e0, k1, k2, k3⟩ | ⟨k1, k2, k3⟩
          · have g2 := zpt_ge hc k1
            have g3 := zpt_ge hc k3
            obtain ⟨w, hw, q1⟩ := point k1 (by omega) (by omega) (by omega) x3 w1 w5 hw1 hw5
            obtain ⟨w', hw', q2⟩ := point k3 (by omega) (by omega) (by omega) (x3 || (decide (n = 0) || zpw n r.1)) w1 w hw1 hw
            refine ⟨w', hw', q1.trans (q2.trans ?_)⟩
            have : (x3 || (decide (n = 0) || zpw n r.1) || (decide (n = 0) || zpw n r.2)) = (x3 || (decide (n = 0) || (zpw n r.1 || zpw n r.2))) := by
              cases x3 <;> cases decide (n = 0) <;> cases zpw n r.1 <;> rfl
            rw [this]
          · obtain ⟨w, hw, q1⟩ := point k1 (by omega) (by omega) (by omega) x3 w1 w5 hw1 hw5
            refine ⟨w, hw, q1.trans ?_⟩
            rw [k3, Bool.or_self]
        obtain ⟨w, hw, one⟩ := one
        rw [one]
        split at hz
        · rename_i h44
          cases h2 : zset c f (e1 + 1) with
          | none => rw [h2] at hz; cases hz
          | some q2 =>
            obtain ⟨l2, e2⟩ := q2
            rw [h2] at hz
            injection hz with hz; injection hz with a1 a2
            subst a1; subst a2
            have h48 : e1 < 48 := Nat.lt_of_not_le fun q => by rw [hc.1 _ q] at h44; cases h44
            rw [ih (e1 + 1) l2 h2 (by omega) _ w1 _ hw1 hw]
            have : ∀ y : Bool, (x3 || (decide (n = 0) || (zpw n r.1 || zpw n r.2)) || (decide (n = 0) || y)) = (x3 || (decide (n = 0) || ((zpw n r.1 || zpw n r.2) || y))) := by
              intro y
              cases x3 <;> cases decide (n = 0) <;> cases (zpw n r.1 || zpw n r.2) <;> rfl
            rw [this]; rfl
        · injection hz with hz; injection hz with a1 a2
          subst a1; subst a2
          have e9 : [r].any (fun r => zpw n r.1 || zpw n r.2) = (zpw n r.1 || zpw n r.2) := Bool.or_false _
          rw [e9]
          exact p106_21_5 hx hl (Nat.le_succ _) (by omega) (by omega)
  have hp48 : p ≤ 48 := Nat.le_of_not_lt fun q => by
    have h0 : c p = 0 := hc.1 _ (by omega)
    cases f with
    | zero => cases hz
    | succ f =>
      unfold zset zrg zpt at hz
      rw [h0, if_neg (by decide), if_neg (by rw [zre_f (by rw [h0]; rfl)]; omega)] at hz
      cases hz
  rw [en_106]
  unfold zrsw
  by_cases c1 : n = 0
  · rw [p106_0_1 hx hl (by omega), loop f p l hz hp48 true _ _ (fun q => by cases q) (fun q => by cases q), decide_eq_true c1]; rfl
  · rw [p106_0_2 hx hl (by omega), loop f p l hz hp48 false _ _ (fun q => by cases q) (fun q => by cases q), Bool.false_or]
theorem s97g (hx : zFx h) (hl : zLC m c) (ha : m 521 132 0 ≤ 99) (hb : m 522 132 0 ≤ 1) : ∃ m', zCl (zPr L xs) 97 [.ref 132] (zMH h m) = some (.inl none, zMH h m') ∧ zfr [(521, 132), (522, 132), (526, 132)] m m' ∧ m' 521 132 0 = m 521 132 0 + 1 ∧ m' 522 132 0 ≤ 1 ∧ (m 522 132 0 = 1 → m' 522 132 0 = 1) ∧ (m 522 132 0 = 0 → (97 ≤ c (m 521 132 0) ∧ c (m 521 132 0) ≤ 100 ∧ m' 522 132 0 = 0 ∧ m' 526 132 0 = c (m 521 132 0) - 97) ∨ (¬ (97 ≤ c (m 521 132 0) ∧ c (m 521 132 0) ≤ 100) ∧ m' 522 132 0 = 1)) := by
  obtain ⟨x1, hx1, v1⟩ := zi_ex (nI (c (m 521 132 0)) - nI 97)
  have fr : ∀ y z, zfr [(521, 132), (522, 132), (526, 132)] m (u3 (u3 (u3 m 526 132 0 x1) 522 132 0 y) 521 132 0 z) := fun y z => zfr_u (zfr_u (zfr_u (zfr_rf _ _) (by decide)) (by decide)) (by decide)
  rw [en_97]
  by_cases c1 : m 522 132 0 = 0
  · by_cases c2 : 97 ≤ c (m 521 132 0)
    · by_cases c3 : c (m 521 132 0) ≤ 100
      · refine ⟨_, p97_0_2 hx hl v1 c1 c2 c3, fr _ _, rfl, Nat.zero_le 1, fun q => by omega, fun _ => Or.inl ⟨c2, c3, rfl, ?_⟩⟩
        rw [zi_sub c2] at v1
        have h1 := congrArg (fun x : Int32 => x.toBitVec.toNat) v1
        have h2 : ∀ n, n < 4294967296 → (nI n).toBitVec.toNat = n := fun n hn => by
          show (BitVec.ofNat 32 n).toNat = n
          rw [BitVec.toNat_ofNat, Nat.mod_eq_of_lt hn]
        have h3 : c (m 521 132 0) - 97 = x1 := by
          have h1 : (nI (c (m 521 132 0) - 97)).toBitVec.toNat = (nI x1).toBitVec.toNat := h1
          rw [h2 _ (by omega), h2 _ hx1] at h1
          exact h1
        exact h3.symm
      · exact ⟨_, p97_0_1 hx hl v1 c1 c2 (by omega), fr _ _, rfl, Nat.le_refl 1, fun _ => rfl, fun _ => Or.inr ⟨fun q => c3 q.2, rfl⟩⟩
    · exact ⟨_, p97_0_3 hx hl v1 c1 (by omega), fr _ _, rfl, Nat.le_refl 1, fun _ => rfl, fun _ => Or.inr ⟨fun q => c2 q.1, rfl⟩⟩
  · exact ⟨_, p97_0_4 hx hl v1 c1, fr _ _, rfl, Nat.le_refl 1, fun _ => rfl, fun q => absurd q c1⟩
theorem s97 (hx : zFx h) (hl : zLC m c) (ha : m 521 132 0 ≤ 64) (hb : m 522 132 0 ≤ 1) : ∃ m', zCl (zPr L xs) 97 [.ref 132] (zMH h m) = some (.inl none, zMH h m') ∧ zfr [(521, 132), (522, 132), (526, 132)] m m' ∧ m' 521 132 0 = m 521 132 0 + 1 ∧ m' 522 132 0 ≤ 1 ∧ (m 522 132 0 = 1 → m' 522 132 0 = 1) ∧ (m 522 132 0 = 0 → (97 ≤ c (m 521 132 0) ∧ c (m 521 132 0) ≤ 100 ∧ m' 522 132 0 = 0 ∧ m' 526 132 0 = c (m 521 132 0) - 97) ∨ (¬ (97 ≤ c (m 521 132 0) ∧ c (m 521 132 0) ≤ 100) ∧ m' 522 132 0 = 1)) := s97g hx hl (by omega) hb
theorem s100g (hx : zFx h) (hl : zLC m c) (ha : m 521 132 0 ≤ 80) (hb : m 522 132 0 ≤ 1) : ∃ m', zCl (zPr L xs) 100 [.ref 132] (zMH h m) = some (.inl none, zMH h m') ∧ zfr [(521, 132), (522, 132), (531, 132), (532, 132)] m m' ∧ m' 531 132 0 = m 521 132 0 ∧ m' 521 132 0 = zre zsml c (m 521 132 0) ∧ m' 532 132 0 = zre zsml c (m 521 132 0) - m 521 132 0 ∧ m' 522 132 0 ≤ 1 ∧ (m 522 132 0 = 1 → m' 522 132 0 = 1) ∧ (m 522 132 0 = 0 → m' 522 132 0 = if 1 ≤ zre zsml c (m 521 132 0) - m 521 132 0 ∧ zre zsml c (m 521 132 0) - m 521 132 0 ≤ 6 then 0 else 1) := by
  have hc := hl.2.2
  rw [en_100, p100_0_1 hx hl]
  have loop : ∀ (p : Nat), ∀ (m : zMm), zLC m c → m 521 132 0 = p → p ≤ 80 → zEv (zPr L xs) 1 100 8 [.val (.ref 132)] [] (zMH h m) = zEv (zPr L xs) 1 100 8 [.val (.ref 132)] [] (zMH h (u3 m 521 132 0 (zre zsml c p))) := by
    refine zrun_ind hc (f := zsml) rfl ?_ ?_
    · intro p hd hp ih m hl he h66
      rw [p100_8_1 hx hl (by rw [he]; exact hd), ih _ (zLC_fr hl (zfr_u (l := [(521, 132)]) (zfr_rf _ _) (by decide))) (by show m 521 132 0 + 1 = p + 1; omega) (by omega), u3_u3, zre_t hc rfl hd]
    · intro p hd m hl he h66
      rw [zre_f hd, u3_self he]
  have hg := zre_ge hc (f := zsml) rfl (m 521 132 0)
  have h66 : zre zsml c (m 521 132 0) ≤ 80 := by
    by_cases q : m 521 132 0 ≤ 48
    · have := hg.2.1 q; omega
    · rw [zre_f (by rw [hc.1 _ (by omega)]; rfl)]; exact ha
  have hl1 : zLC (u3 m 531 132 0 (m 521 132 0)) c := zLC_fr hl (zfr_u (l := [(531, 132)]) (zfr_rf _ _) (by decide))
  have hl2 : zLC (u3 (u3 m 531 132 0 (m 521 132 0)) 521 132 0 (zre zsml c (m 521 132 0))) c := zLC_fr hl1 (zfr_u (l := [(521, 132)]) (zfr_rf _ _) (by decide))
  rw [loop (m 521 132 0) _ hl1 rfl ha]
  have hd := hg.2.2
  have fr : ∀ y z, zfr [(521, 132), (522, 132), (531, 132), (532, 132)] m (u3 (u3 (u3 (u3 m 531 132 0 (m 521 132 0)) 521 132 0 (zre zsml c (m 521 132 0))) 532 132 0 y) 522 132 0 z) := fun y z => zfr_u (zfr_u (zfr_u (zfr_u (zfr_rf _ _) (by decide)) (by decide)) (by decide)) (by decide)
  have b1 : zre zsml c (m 521 132 0) < 2147483648 := by omega
  have b3 : zre zsml c (m 521 132 0) - m 521 132 0 < 2147483648 := by omega
  by_cases c1 : m 522 132 0 = 0
  · by_cases c2 : 1 ≤ zre zsml c (m 521 132 0) - m 521 132 0
    · by_cases c3 : zre zsml c (m 521 132 0) - m 521 132 0 ≤ 6
      · refine ⟨_, p100_8_3 hx hl2 hd c1 c2 c3 b1 hg.1 b3, fr _ _, rfl, rfl, rfl, Nat.zero_le 1, fun q => by omega, fun _ => ?_⟩
        rw [if_pos ⟨c2, c3⟩]; rfl
      · refine ⟨_, p100_8_2 hx hl2 hd c1 c2 (by show 6 < zre zsml c (m 521 132 0) - m 521 132 0; omega) b1 hg.1 b3, fr _ _, rfl, rfl, rfl, Nat.le_refl 1, fun _ => rfl, fun _ => ?_⟩
        rw [if_neg (fun q => c3 q.2)]; rfl
    · refine ⟨_, p100_8_4 hx hl2 hd c1 (by show zre zsml c (m 521 132 0) - m 521 132 0 < 1; omega) b1 hg.1 b3, fr _ _, rfl, rfl, rfl, Nat.le_refl 1, fun _ => rfl, fun _ => ?_⟩
      rw [if_neg (fun q => c2 q.1)]; rfl
  · exact ⟨_, p100_8_5 hx hl2 hd c1 b1 hg.1 (by show m 522 132 0 < _; omega), fr _ _, rfl, rfl, rfl, Nat.le_refl 1, fun _ => rfl, fun q => absurd q c1⟩
theorem s100 (hx : zFx h) (hl : zLC m c) (ha : m 521 132 0 ≤ 66) (hb : m 522 132 0 ≤ 1) : ∃ m', zCl (zPr L xs) 100 [.ref 132] (zMH h m) = some (.inl none, zMH h m') ∧ zfr [(521, 132), (522, 132), (531, 132), (532, 132)] m m' ∧ m' 531 132 0 = m 521 132 0 ∧ m' 521 132 0 = zre zsml c (m 521 132 0) ∧ m' 532 132 0 = zre zsml c (m 521 132 0) - m 521 132 0 ∧ m' 522 132 0 ≤ 1 ∧ (m 522 132 0 = 1 → m' 522 132 0 = 1) ∧ (m 522 132 0 = 0 → m' 522 132 0 = if 1 ≤ zre zsml c (m 521 132 0) - m 521 132 0 ∧ zre zsml c (m 521 132 0) - m 521 132 0 ≤ 6 then 0 else 1) := s100g hx hl (by omega) hb
end
