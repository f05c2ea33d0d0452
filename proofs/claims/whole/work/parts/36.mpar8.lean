/-! ===== the reference's searches: the whole ===== -/
theorem zks_ge {c : Nat → Nat} (hc : zCh c) {E : zEnv} : ∀ f b d p e w k, zks c E f b d p = some (e, w, k) → p < e ∧ p ≤ 48 ∧ e ≤ 49 := by
  intro f
  induction f with
  | zero => intro b d p e w k h; cases h
  | succ f ih =>
    intro b d p e w k h
    cases b with
    | true =>
      unfold zks at h
      cases h1 : zks c E f false d p with
      | none => rw [h1] at h; cases h
      | some q =>
        obtain ⟨e1, w1, k1⟩ := q
        rw [h1] at h
        have g := ih _ _ _ _ _ _ h1
        dsimp only at h
        split at h
        · cases h2 : zks c E f true d (e1 + 1) with
          | none => rw [h2] at h; cases h
          | some q2 =>
            obtain ⟨e2, w2, k2⟩ := q2
            rw [h2] at h
            cases h
            have g2 := ih _ _ _ _ _ _ h2
            omega
        · cases h; exact g
    | false =>
      unfold zks at h
      split at h
      · cases h
      · split at h
        · rename_i h40
          have h48 : p < 48 := Nat.lt_of_not_le fun q => by rw [hc.1 _ q] at h40; cases h40
          cases h1 : zks c E f true (d + 1) (p + 1) with
          | none => rw [h1] at h; cases h
          | some q =>
            obtain ⟨e1, w1, k1⟩ := q
            rw [h1] at h
            have g := ih _ _ _ _ _ _ h1
            dsimp only at h
            split at h
            · rename_i h41
              have : e1 < 48 := Nat.lt_of_not_le fun q => by rw [hc.1 _ q] at h41; cases h41
              cases h; omega
            · cases h
        · have hz := zre_ge hc (f := zlrg) rfl p
          split at h
          · split at h
            · rename_i h32
              have h48 : zre zlrg c p < 48 := Nat.lt_of_not_le fun q => by rw [hc.1 _ q] at h32; cases h32
              cases h1 : zks c E f false (d + 1) (zre zlrg c p + 1) with
              | none => rw [h1] at h; cases h
              | some q =>
                obtain ⟨e1, w1, k1⟩ := q
                rw [h1] at h
                cases h
                have g := ih _ _ _ _ _ _ h1
                omega
            · cases h
          · split at h
            · split at h
              · rename_i h32
                have h48 : zre zlrg c p < 48 := Nat.lt_of_not_le fun q => by rw [hc.1 _ q] at h32; cases h32
                cases h1 : zks c E f false (d + 1) (zre zlrg c p + 1) with
                | none => rw [h1] at h; cases h
                | some q =>
                  obtain ⟨e1, w1, k1⟩ := q
                  rw [h1] at h
                  have g := ih _ _ _ _ _ _ h1
                  dsimp only at h
                  split at h
                  · cases h2 : zks c E f false (d + 1) (e1 + 1) with
                    | none => rw [h2] at h; cases h
                    | some q2 =>
                      obtain ⟨e2, w2, k2⟩ := q2
                      rw [h2] at h
                      cases h
                      have g2 := ih _ _ _ _ _ _ h2
                      omega
                  · cases h
              · cases h
            · have hp48 : p ≤ 48 := Nat.le_of_not_lt fun q => by rw [zleaf_48 hc q] at h; cases h
              have := zleaf_ge hc hp48 h
              omega
section
variable {L : Nat} {xs : Nat → Int32} {h : zH} {c : Nat → Nat}
/-- keys (false) and searches (true) -/
def zKst (L : Nat) (xs : Nat → Int32) (h : zH) (c : Nat → Nat) (n f : Nat) : Prop :=
  (∀ (m : zMm) (d p : Nat) (w2 w3 u2 u3 u4 : Slot), zKc c n m d p → d ≤ 9 → w2 ≠ .second → w3 ≠ .second → u2 ≠ .second → u3 ≠ .second → 129 ≤ f + 2 * p → (n ≠ 0 → zks c (zenv m c) f false d p ≠ none) →
    match zks c (zenv m c) f false d p with
    | none => zKf h m (zFD L xs h n w2 w3 (zDs L xs h m u2 u3 u4))
    | some (e, w, k) => ∃ m' v, zKs L xs h c n m d e w (zFD L xs h n w2 w3 (zDs L xs h m u2 u3 u4)) m' v ∧ zkp d m m' ∧ (n ≠ 0 → v = k n)) ∧
  (∀ (m : zMm) (d p : Nat) (b : Bool) (w2 w3 u2 u3 u4 : Slot), zKc c n m d p → d ≤ 9 → (m 0 151 d = 0 ∨ m 0 151 d = 3) → m 0 153 d = b.toNat → w2 ≠ .second → w3 ≠ .second → u2 ≠ .second → u3 ≠ .second → 130 ≤ f + 2 * p → (n ≠ 0 → zks c (zenv m c) f true d p ≠ none) →
    match zks c (zenv m c) f true d p with
    | none => zKf h m (zFD L xs h n w2 w3 (zDs L xs h m u2 u3 u4))
    | some (e, w, k) => ∃ m' v b', zKs L xs h c n m d e w (zFD L xs h n w2 w3 (zDs L xs h m u2 u3 u4)) m' v ∧ (∀ i, i ≤ d → m' 0 151 i = m 0 151 i ∧ m' 0 152 i = m 0 152 i ∧ (i < d → m' 0 153 i = m 0 153 i)) ∧ m' 0 153 d = b'.toNat ∧ c e ≠ 32 ∧ (n ≠ 0 → (b' && v) = (b && k n)))
theorem zKall (hx : zFx h) {n : Nat} (hn : n ≤ 40) : ∀ f, zKst L xs h c n f := by
  intro f
  induction f with
  | zero =>
    refine ⟨?_, ?_⟩
    · intro m d p w2 w3 u2 u3 u4 hk h9 h2 h3 hu2 hu3 hf hok
      have := hk.2.2.2.2.1
      omega
    · intro m d p b w2 w3 u2 u3 u4 hk h9 hkd hh h2 h3 hu2 hu3 hf hok
      have := hk.2.2.2.2.1
      omega
  | succ f ih =>
    obtain ⟨ihk, ihs⟩ := ih
    refine ⟨?_, ?_⟩
    · intro m d p w2 w3 u2 u3 u4 hk h9 h2 h3 hu2 hu3 hf hok
      have hk0 := hk
      obtain ⟨hl, a2, a3, a4, a5, a6, a7, a8, a9, a10⟩ := hk
      have hc := hl.2.2
      by_cases c40 : c p = 40
      · -- brackets
        obtain ⟨m1, v2, v3, v4, hv2, hv3, e1, f1, kp1, t1, t2, t3, t4, t5, t6⟩ := zDs_br (L := L) (xs := xs) (w2 := u2) (w3 := u3) (w4 := u4) (t := d) hx hl hu2 hu3 a6 (by omega) a8 h9 (by rw [a4]; exact c40)
        have F1 : zfr zfS m m1 := zfr_w f1 (by decide)
        have hl1 := zLC_fr hl F1
        have hh1 : m1 0 153 0 < 2 := by rw [(kp1 0 (Nat.zero_le d)).2.2]; exact a10
        rw [e1]
        by_cases c3 : 8 < d
        · rw [if_pos c3] at t6
          have hz : zks c (zenv m c) (f + 1) false d p = none := by unfold zks; rw [if_pos c3]
          rw [hz, zDs_bad hx hl1 t6]
          exact zKf_bad hx hl1 h2 h3 t6 hh1 F1
        · rw [if_neg c3] at t6
          have h48 : p < 48 := Nat.lt_of_not_le fun q => by rw [hc.1 _ q] at c40; cases c40
          have en := (zenv_fr (c := c) F1).1
          have hz : zks c (zenv m c) (f + 1) false d p = (match zks c (zenv m1 c) f true (d + 1) (p + 1) with
            | none => none
            | some (e, w, k) => if c e = 41 then some (e + 1, w, k) else none) := by
            rw [en]; conv => lhs; unfold zks
            rw [if_neg c3, if_pos c40]
          have w1 : m1 523 132 0 = m 523 132 0 := f1 _ _ _ (by decide)
          have hk1 : zKc c n m1 (d + 1) (p + 1) := zKc_nx hk0 F1 (by omega) (by omega) t6 (by omega) t2 hh1
          have sub := ihs m1 (d + 1) (p + 1) true w2 w3 v2 v3 v4 hk1 (by omega) (Or.inr t3) t5 h2 h3 hv2 hv3 (by omega) (fun q z => hok q (by rw [hz, z]))
          rw [hz] at hok ⊢
          cases hs : zks c (zenv m1 c) f true (d + 1) (p + 1) with
          | none =>
            rw [hs] at sub
            obtain ⟨mf, x, q1, q2, q3, q4⟩ := sub
            exact ⟨mf, x, q1, q2, q3, zfr_tr F1 q4 (fun _ q => q) (fun _ q => q)⟩
          | some r =>
            obtain ⟨e, w, k⟩ := r
            rw [hs] at sub hok
            obtain ⟨m2, v, b', ⟨y2, y3, ra, rb, hy2, hy3, hrb, eq, F2, r1, r2, r3, r4, r5⟩, kp2, hh2, hne, hval⟩ := sub
            have F12 : zfr zfS m m2 := zfr_tr F1 F2 (fun _ q => q) (fun _ q => q)
            have hl2 := zLC_fr hl F12
            have h20 : m2 0 153 0 = m 0 153 0 := ((kp2 0 (by omega)).2.2 (by omega)).trans (kp1 0 (Nat.zero_le d)).2.2
            obtain ⟨m3, w', hw', eq3, f3, s1, s2, s3⟩ := zRi_br (L := L) (xs := xs) (v := v) (b := b') (w1 := ra) (w3 := rb) (t := d) hx hl2 r3 (by omega) r5 h9 (by rw [(kp2 (d + 1) (Nat.le_refl _)).1]; exact t3) hh2 (by rw [r1]; exact hne) hrb
            have F3 : zfr zfS m m3 := zfr_tr F12 f3 (fun _ q => q) (by decide)
            have hl3 := zLC_fr hl F3
            rw [r1] at s3
            have w3e : m3 523 132 0 = (if w then 1 else m 523 132 0) := by rw [f3 _ _ _ (by decide), r4, w1]
            have kpd : zkp d m m3 := fun i hi => ⟨by rw [f3 _ _ _ (by decide), (kp2 i (by omega)).1, (kp1 i hi).1], by rw [f3 _ _ _ (by decide), (kp2 i (by omega)).2.1, (kp1 i hi).2.1], by rw [s2 i hi, (kp2 i (by omega)).2.2 (by omega), (kp1 i hi).2.2]⟩
            rw [eq, eq3]
            dsimp only at hok ⊢
            rcases s3 with ⟨z1, z2, z3⟩ | ⟨z1, z3⟩
            · rw [if_pos z1]
              have : e < 48 := Nat.lt_of_not_le fun q => by rw [hc.1 _ q] at z1; cases z1
              refine ⟨m3, b' && v, ⟨y2, y3, ra, w', hy2, hy3, hw', rfl, F3, z2, by omega, z3, w3e, s1⟩, kpd, fun q => ?_⟩
              rw [hval q, Bool.true_and]
            · rw [if_neg z1]
              rw [zRi_bad hx hl3 z3]
              have hh3 : m3 0 153 0 < 2 := by rw [(kpd 0 (Nat.zero_le d)).2.2]; exact a10
              exact ⟨m3, m3 0 153 0, zFR_f hx hl3 hy2 hy3 hh3, hh3, z3, F3⟩
      · by_cases cn : zwn c p = 15556673536
        · sorry
        · by_cases co : zwn c p = 16710107136
          · sorry
          · have hz : zks c (zenv m c) (f + 1) false d p = if 8 < d then none else zleaf c (zenv m c) p := by
              conv => lhs; unfold zks
              rw [if_neg c40, if_neg cn, if_neg co]
            rw [hz] at hok ⊢
            refine zKleaf hx hn hk0 h9 h2 h3 hu2 hu3 c40 cn co (fun q => ?_)
            by_cases c3 : 8 < d
            · exact absurd (if_pos c3) (hok q)
            · have := hok q
              rw [if_neg c3] at this
              exact ⟨by omega, this⟩
    · intro m d p b w2 w3 u2 u3 u4 hk h9 hkd hh h2 h3 hu2 hu3 hf hok
      sorry
end
