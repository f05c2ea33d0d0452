/-! ===== the reference's searches: the whole ===== -/
theorem zks_ge {c : Nat → Nat} (hc : zCh c) {E : zEnv} : ∀ f b d p e w k, zks c E f b d p = some (e, w, k) → p < e ∧ p ≤ 48 ∧ e ≤ 49 := by
  intro f
  induction f with
  | zero => intro b d p e w k h; cases h
  | succ f ih =>
    intro b d p e w k h
    cases b with
    | true =>
      unfold zks at h
      cases h1 : zks c E f false d p with
      | none => rw [h1] at h; cases h
      | some q =>
        obtain ⟨e1, w1, k1⟩ := q
        rw [h1] at h
        have g := ih _ _ _ _ _ _ h1
        dsimp only at h
        split at h
        · cases h2 : zks c E f true d (e1 + 1) with
          | none => rw [h2] at h; cases h
          | some q2 =>
            obtain ⟨e2, w2, k2⟩ := q2
            rw [h2] at h
            cases h
            have g2 := ih _ _ _ _ _ _ h2
            omega
        · cases h; exact g
    | false =>
      unfold zks at h
      split at h
      · cases h
      · split at h
        · rename_i h40
          have h48 : p < 48 := Nat.lt_of_not_le fun q => by rw [hc.1 _ q] at h40; cases h40
          cases h1 : zks c E f true (d + 1) (p + 1) with
          | none => rw [h1] at h; cases h
          | some q =>
            obtain ⟨e1, w1, k1⟩ := q
            rw [h1] at h
            have g := ih _ _ _ _ _ _ h1
            dsimp only at h
            split at h
            · rename_i h41
              have : e1 < 48 := Nat.lt_of_not_le fun q => by rw [hc.1 _ q] at h41; cases h41
              cases h; omega
            · cases h
        · have hz := zre_ge hc (f := zlrg) rfl p
          split at h
          · split at h
            · rename_i h32
              have h48 : zre zlrg c p < 48 := Nat.lt_of_not_le fun q => by rw [hc.1 _ q] at h32; cases h32
              cases h1 : zks c E f false (d + 1) (zre zlrg c p + 1) with
              | none => rw [h1] at h; cases h
              | some q =>
                obtain ⟨e1, w1, k1⟩ := q
                rw [h1] at h
                cases h
                have g := ih _ _ _ _ _ _ h1
                omega
            · cases h
          · split at h
            · split at h
              · rename_i h32
                have h48 : zre zlrg c p < 48 := Nat.lt_of_not_le fun q => by rw [hc.1 _ q] at h32; cases h32
                cases h1 : zks c E f false (d + 1) (zre zlrg c p + 1) with
                | none => rw [h1] at h; cases h
                | some q =>
                  obtain ⟨e1, w1, k1⟩ := q
                  rw [h1] at h
                  have g := ih _ _ _ _ _ _ h1
                  dsimp only at h
                  split at h
                  · cases h2 : zks c E f false (d + 1) (e1 + 1) with
                    | none => rw [h2] at h; cases h
                    | some q2 =>
                      obtain ⟨e2, w2, k2⟩ := q2
                      rw [h2] at h
                      cases h
                      have g2 := ih _ _ _ _ _ _ h2
                      omega
                  · cases h
              · cases h
            · have hp48 : p ≤ 48 := Nat.le_of_not_lt fun q => by rw [zleaf_48 hc q] at h; cases h
              have := zleaf_ge hc hp48 h
              omega
section
variable {L : Nat} {xs : Nat → Int32} {h : zH} {c : Nat → Nat}
/-- keys (false) and searches (true) -/
def zKst (L : Nat) (xs : Nat → Int32) (h : zH) (c : Nat → Nat) (n f : Nat) : Prop :=
  (∀ (m : zMm) (d p : Nat) (w2 w3 q2 q3 q4 : Slot), zKc c n m d p → d ≤ 9 → w2 ≠ .second → w3 ≠ .second → q2 ≠ .second → q3 ≠ .second → 129 ≤ f + 2 * p → (n ≠ 0 → zks c (zenv m c) f false d p ≠ none) →
    match zks c (zenv m c) f false d p with
    | none => zKf h m (zFD L xs h n w2 w3 (zDs L xs h m q2 q3 q4))
    | some (e, w, k) => ∃ m' v, zKs L xs h c n m d e w (zFD L xs h n w2 w3 (zDs L xs h m q2 q3 q4)) m' v ∧ zkp d m m' ∧ (n ≠ 0 → v = k n)) ∧
  (∀ (m : zMm) (d p : Nat) (b : Bool) (w2 w3 q2 q3 q4 : Slot), zKc c n m d p → d ≤ 9 → (m 0 151 d = 0 ∨ m 0 151 d = 3) → m 0 153 d = b.toNat → w2 ≠ .second → w3 ≠ .second → q2 ≠ .second → q3 ≠ .second → 130 ≤ f + 2 * p → (n ≠ 0 → zks c (zenv m c) f true d p ≠ none) →
    match zks c (zenv m c) f true d p with
    | none => zKf h m (zFD L xs h n w2 w3 (zDs L xs h m q2 q3 q4))
    | some (e, w, k) => ∃ m' v b', zKs L xs h c n m d e w (zFD L xs h n w2 w3 (zDs L xs h m q2 q3 q4)) m' v ∧ (∀ i, i ≤ d → m' 0 151 i = m 0 151 i ∧ m' 0 152 i = m 0 152 i ∧ (i < d → m' 0 153 i = m 0 153 i)) ∧ m' 0 153 d = b'.toNat ∧ c e ≠ 32 ∧ (n ≠ 0 → (b' && v) = (b && k n)))
theorem zKall (hx : zFx h) {n : Nat} (hn : n ≤ 40) : ∀ f, zKst L xs h c n f := by
  intro f
  induction f with
  | zero =>
    refine ⟨?_, ?_⟩
    · intro m d p w2 w3 q2 q3 q4 hk h9 h2 h3 hq2 hq3 hf hok
      have := hk.2.2.2.2.1
      omega
    · intro m d p b w2 w3 q2 q3 q4 hk h9 hkd hh h2 h3 hq2 hq3 hf hok
      have := hk.2.2.2.2.1
      omega
  | succ f ih =>
    obtain ⟨ihk, ihs⟩ := ih
    refine ⟨?_, ?_⟩
    · intro m d p w2 w3 q2 q3 q4 hk h9 h2 h3 hq2 hq3 hf hok
      have hk0 := hk
      obtain ⟨hl, a2, a3, a4, a5, a6, a7, a8, a9, a10⟩ := hk
      have hc := hl.2.2
      by_cases c40 : c p = 40
      · -- brackets
        obtain ⟨m1, v2, v3, v4, hv2, hv3, e1, f1, kp1, t1, t2, t3, t4, t5, t6⟩ := zDs_br (L := L) (xs := xs) (w2 := q2) (w3 := q3) (w4 := q4) (t := d) hx hl hq2 hq3 a6 (by omega) a8 h9 (by rw [a4]; exact c40)
        have F1 : zfr zfS m m1 := zfr_w f1 (by decide)
        have hl1 := zLC_fr hl F1
        have hh1 : m1 0 153 0 < 2 := by rw [(kp1 0 (Nat.zero_le d)).2.2]; exact a10
        rw [e1]
        by_cases c3 : 8 < d
        · rw [if_pos c3] at t6
          have hz : zks c (zenv m c) (f + 1) false d p = none := by unfold zks; rw [if_pos c3]
          rw [hz, zDs_bad hx hl1 t6]
          exact zKf_bad hx hl1 h2 h3 t6 hh1 F1
        · rw [if_neg c3] at t6
          have h48 : p < 48 := Nat.lt_of_not_le fun q => by rw [hc.1 _ q] at c40; cases c40
          have en := (zenv_fr (c := c) F1).1
          have hz : zks c (zenv m c) (f + 1) false d p = (match zks c (zenv m1 c) f true (d + 1) (p + 1) with
            | none => none
            | some (e, w, k) => if c e = 41 then some (e + 1, w, k) else none) := by
            rw [en]; conv => lhs; unfold zks
            rw [if_neg c3, if_pos c40]
            rfl
          have w1 : m1 523 132 0 = m 523 132 0 := f1 _ _ _ (by decide)
          have hk1 : zKc c n m1 (d + 1) (p + 1) := zKc_nx hk0 F1 (by omega) (by omega) t6 (by omega) t2 hh1
          have sub := ihs m1 (d + 1) (p + 1) true w2 w3 v2 v3 v4 hk1 (by omega) (Or.inr t3) t5 h2 h3 hv2 hv3 (by omega) (fun q z => hok q (by rw [hz, z]))
          rw [hz] at hok ⊢
          cases hs : zks c (zenv m1 c) f true (d + 1) (p + 1) with
          | none =>
            rw [hs] at sub
            obtain ⟨mf, x, q1, q2, q3, q4⟩ := sub
            exact ⟨mf, x, q1, q2, q3, zfr_tr F1 q4 (fun _ q => q) (fun _ q => q)⟩
          | some r =>
            obtain ⟨e, w, k⟩ := r
            rw [hs] at sub hok
            obtain ⟨m2, v, b', ⟨y2, y3, ra, rb, hy2, hy3, hrb, eq, F2, r1, r2, r3, r4, r5⟩, kp2, hh2, hne, hval⟩ := sub
            have F12 : zfr zfS m m2 := zfr_tr F1 F2 (fun _ q => q) (fun _ q => q)
            have hl2 := zLC_fr hl F12
            have h20 : m2 0 153 0 = m 0 153 0 := ((kp2 0 (by omega)).2.2 (by omega)).trans (kp1 0 (Nat.zero_le d)).2.2
            obtain ⟨m3, w', hw', eq3, f3, s1, s2, s3⟩ := zRi_br (L := L) (xs := xs) (v := v) (b := b') (w1 := ra) (w3 := rb) (t := d) hx hl2 r3 (by omega) r5 h9 (by rw [(kp2 (d + 1) (Nat.le_refl _)).1]; exact t3) hh2 (by rw [r1]; exact hne) hrb
            have F3 : zfr zfS m m3 := zfr_tr F12 f3 (fun _ q => q) (by decide)
            have hl3 := zLC_fr hl F3
            rw [r1] at s3
            have w3e : m3 523 132 0 = (if w then 1 else m 523 132 0) := by rw [f3 _ _ _ (by decide), r4, w1]
            have kpd : zkp d m m3 := fun i hi => ⟨by rw [f3 _ _ _ (by decide), (kp2 i (by omega)).1, (kp1 i hi).1], by rw [f3 _ _ _ (by decide), (kp2 i (by omega)).2.1, (kp1 i hi).2.1], by rw [s2 i hi, (kp2 i (by omega)).2.2 (by omega), (kp1 i hi).2.2]⟩
            rw [eq, eq3]
            dsimp only at hok ⊢
            rcases s3 with ⟨z1, z2, z3⟩ | ⟨z1, z3⟩
            · rw [if_pos z1]
              have : e < 48 := Nat.lt_of_not_le fun q => by rw [hc.1 _ q] at z1; cases z1
              refine ⟨m3, b' && v, ⟨y2, y3, ra, w', hy2, hy3, hw', rfl, F3, z2, by omega, z3, w3e, s1⟩, kpd, fun q => ?_⟩
              rw [hval q, Bool.true_and]
            · rw [if_neg z1]
              rw [zRi_bad hx hl3 z3]
              have hh3 : m3 0 153 0 < 2 := by rw [(kpd 0 (Nat.zero_le d)).2.2]; exact a10
              exact ⟨m3, m3 0 153 0, zFR_f hx hl3 hy2 hy3 hh3, hh3, z3, F3⟩
      · by_cases cn : zwn c p = 15556673536
        · -- NOT
          obtain ⟨m1, v2, v3, v4, hv2, hv3, e1, f1, kp1, t2, t3, t4, t5, t6⟩ := zDs_no (L := L) (xs := xs) (w2 := q2) (w3 := q3) (w4 := q4) (t := d) (k := 1) hx hl hq2 hq3 a6 (by omega) a8 h9 (by rw [a4]; exact c40) (Or.inl ⟨rfl, by rw [a4]; exact cn⟩)
          rw [a4] at t6
          have F1 : zfr zfS m m1 := zfr_w f1 (by decide)
          have hl1 := zLC_fr hl F1
          have hh1 : m1 0 153 0 < 2 := by rw [(kp1 0 (Nat.zero_le d)).2.2]; exact a10
          have en := (zenv_fr (c := c) F1).1
          have w1 : m1 523 132 0 = m 523 132 0 := f1 _ _ _ (by decide)
          have hz : zks c (zenv m c) (f + 1) false d p = (if 8 < d then none else if c (zre zlrg c p) = 32 then (match zks c (zenv m1 c) f false (d + 1) (zre zlrg c p + 1) with
            | none => none
            | some (e, w, k) => some (e, w, fun n => !k n)) else none) := by
            rw [en]; conv => lhs; unfold zks
            rw [if_neg c40, if_pos cn]
            rfl
          rw [hz] at hok ⊢
          rw [e1]
          have hbad : m1 522 132 0 = 1 → zKf h m (zFD L xs h n w2 w3 (zDs L xs h m1 v2 v3 v4)) := fun q => by
            rw [zDs_bad hx hl1 q]
            exact zKf_bad hx hl1 h2 h3 q hh1 F1
          rcases t6 with ⟨z1, z2⟩ | ⟨z1, z2⟩ | ⟨z0, z1, z2, z3⟩
          · rw [if_pos z1]; exact hbad z2
          · rw [if_neg z1]
            by_cases c3 : 8 < d
            · rw [if_pos c3]; exact hbad z2
            · rw [if_neg c3]; exact hbad z2
          · have c3 : ¬ 8 < d := by omega
            rw [if_neg c3, if_pos z1] at hok ⊢
            have h48 : zre zlrg c p < 48 := Nat.lt_of_not_le fun q => by rw [hc.1 _ q] at z1; cases z1
            have hpz := (zre_ge hc (f := zlrg) rfl p).1
            have hk1 : zKc c n m1 (d + 1) (zre zlrg c p + 1) := zKc_nx hk0 F1 z3 (by omega) z2 (by omega) t2 hh1
            have sub := ihk m1 (d + 1) (zre zlrg c p + 1) w2 w3 v2 v3 v4 hk1 (by omega) h2 h3 hv2 hv3 (by omega) (fun q z => hok q (by rw [z]))
            cases hs : zks c (zenv m1 c) f false (d + 1) (zre zlrg c p + 1) with
            | none =>
              rw [hs] at sub
              obtain ⟨mf, x, q1, q2, q3, q4⟩ := sub
              exact ⟨mf, x, q1, q2, q3, zfr_tr F1 q4 (fun _ q => q) (fun _ q => q)⟩
            | some r =>
              obtain ⟨e, w, k⟩ := r
              rw [hs] at sub
              obtain ⟨m2, v, ⟨y2, y3, ra, rb, hy2, hy3, hrb, eq, F2, r1, r2, r3, r4, r5⟩, kp2, hval⟩ := sub
              have F12 : zfr zfS m m2 := zfr_tr F1 F2 (fun _ q => q) (fun _ q => q)
              have hl2 := zLC_fr hl F12
              obtain ⟨w', hw', eq3⟩ := zRi_not (L := L) (xs := xs) (h := h) (v := v) (w1 := ra) (w3 := rb) (t := d) hx hl2 r3 r5 (by omega) (by rw [(kp2 (d + 1) (Nat.le_refl _)).1]; exact t3) hrb
              dsimp only
              refine ⟨u3 m2 535 132 0 d, !v, ⟨y2, y3, ra, w', hy2, hy3, hw', by rw [eq, eq3], zfr_u F12 (by decide), r1, r2, r3, by rw [← w1]; exact r4, rfl⟩, fun i hi => ⟨?_, ?_, ?_⟩, fun q => by rw [hval q]⟩
              · exact ((kp2 i (by omega)).1).trans (kp1 i hi).1
              · exact ((kp2 i (by omega)).2.1).trans (kp1 i hi).2.1
              · exact ((kp2 i (by omega)).2.2).trans (kp1 i hi).2.2
        · by_cases co : zwn c p = 16710107136
          · -- OR
            obtain ⟨m1, v2, v3, v4, hv2, hv3, e1, f1, kp1, t2, t3, t4, t5, t6⟩ := zDs_no (L := L) (xs := xs) (w2 := q2) (w3 := q3) (w4 := q4) (t := d) (k := 2) hx hl hq2 hq3 a6 (by omega) a8 h9 (by rw [a4]; exact c40) (Or.inr ⟨rfl, by rw [a4]; exact co⟩)
            rw [a4] at t6
            have F1 : zfr zfS m m1 := zfr_w f1 (by decide)
            have hl1 := zLC_fr hl F1
            have hh1 : m1 0 153 0 < 2 := by rw [(kp1 0 (Nat.zero_le d)).2.2]; exact a10
            have en := (zenv_fr (c := c) F1).1
            have w1 : m1 523 132 0 = m 523 132 0 := f1 _ _ _ (by decide)
            have hz : zks c (zenv m c) (f + 1) false d p = (if 8 < d then none else if c (zre zlrg c p) = 32 then (match zks c (zenv m c) f false (d + 1) (zre zlrg c p + 1) with
              | none => none
              | some (e, w, k) => if c e = 32 then (match zks c (zenv m c) f false (d + 1) (e + 1) with
                | none => none
                | some (e2, w2, k2) => some (e2, w || w2, fun n => k n || k2 n)) else none) else none) := by
              conv => lhs; unfold zks
              rw [if_neg c40, if_neg cn, if_pos co]
              rfl
            rw [hz] at hok ⊢
            rw [e1]
            have hbad : m1 522 132 0 = 1 → zKf h m (zFD L xs h n w2 w3 (zDs L xs h m1 v2 v3 v4)) := fun q => by
              rw [zDs_bad hx hl1 q]
              exact zKf_bad hx hl1 h2 h3 q hh1 F1
            rcases t6 with ⟨z1, z2⟩ | ⟨z1, z2⟩ | ⟨z0, z1, z2, z3⟩
            · rw [if_pos z1]; exact hbad z2
            · rw [if_neg z1]
              by_cases c3 : 8 < d
              · rw [if_pos c3]; exact hbad z2
              · rw [if_neg c3]; exact hbad z2
            · have c3 : ¬ 8 < d := by omega
              rw [if_neg c3, if_pos z1] at hok ⊢
              have h48 : zre zlrg c p < 48 := Nat.lt_of_not_le fun q => by rw [hc.1 _ q] at z1; cases z1
              have hpz := (zre_ge hc (f := zlrg) rfl p).1
              have hk1 : zKc c n m1 (d + 1) (zre zlrg c p + 1) := zKc_nx hk0 F1 z3 (by omega) z2 (by omega) t2 hh1
              have sub := ihk m1 (d + 1) (zre zlrg c p + 1) w2 w3 v2 v3 v4 hk1 (by omega) h2 h3 hv2 hv3 (by omega) (fun q z => hok q (by rw [← en, z]))
              rw [en] at sub
              cases hs : zks c (zenv m c) f false (d + 1) (zre zlrg c p + 1) with
              | none =>
                rw [hs] at sub
                obtain ⟨mf, x, q1, q2, q3, q4⟩ := sub
                exact ⟨mf, x, q1, q2, q3, zfr_tr F1 q4 (fun _ q => q) (fun _ q => q)⟩
              | some r =>
                obtain ⟨e, w, k⟩ := r
                rw [hs] at sub hok
                have hge := zks_ge hc _ _ _ _ _ _ _ hs
                obtain ⟨m2, v, ⟨y2, y3, ra, rb, hy2, hy3, hrb, eq, F2, r1, r2, r3, r4, r5⟩, kp2, hval⟩ := sub
                have F12 : zfr zfS m m2 := zfr_tr F1 F2 (fun _ q => q) (fun _ q => q)
                have hl2 := zLC_fr hl F12
                have K2 := kp2 (d + 1) (Nat.le_refl _)
                obtain ⟨m3, eq3, f3, s1, s2, s3, s4⟩ := zRi_or1 (L := L) (xs := xs) (h := h) (v := v) (w1 := ra) (w3 := rb) (t := d + 1) hx hl2 r3 (by omega) r5 (by omega) (by rw [K2.1]; exact t3) (by rw [K2.2.1]; exact t4) (by rw [K2.2.2]; exact t5) hrb
                rw [r1] at s4
                have F3 : zfr zfS m m3 := zfr_tr F12 f3 (fun _ q => q) (by decide)
                have hl3 := zLC_fr hl F3
                have k3 : m3 0 151 (d + 1) = 2 := by rw [f3 _ _ _ (by decide), K2.1]; exact t3
                have kpd3 : zkp d m m3 := fun i hi => ⟨by rw [f3 _ _ _ (by decide), (kp2 i (by omega)).1, (kp1 i hi).1], by rw [(s3 i (by omega)).1, (kp2 i (by omega)).2.1, (kp1 i hi).2.1], by rw [(s3 i (by omega)).2, (kp2 i (by omega)).2.2, (kp1 i hi).2.2]⟩
                have hh3 : m3 0 153 0 < 2 := by rw [(kpd3 0 (Nat.zero_le d)).2.2]; exact a10
                have w3e : m3 523 132 0 = (if w then 1 else m 523 132 0) := by rw [f3 _ _ _ (by decide), r4, w1]
                have t3e : m3 535 132 0 = d + 1 := by rw [f3 _ _ _ (by decide)]; exact r5
                rw [eq, eq3, zFR_t hx hl3 hy2 hy3]
                dsimp only at hok ⊢
                rcases s4 with ⟨x1, x2, x3⟩ | ⟨x1, x3⟩
                · rw [if_pos x1] at hok ⊢
                  have e48 : e < 48 := Nat.lt_of_not_le fun q => by rw [hc.1 _ q] at x1; cases x1
                  have en3 := (zenv_fr (c := c) F3).1
                  have hk3 : zKc c n m3 (d + 1) (e + 1) := zKc_nx hk0 F3 x2 (by omega) x3 (by rw [w3e]; split <;> omega) t3e hh3
                  have sub2 := ihk m3 (d + 1) (e + 1) (.val (.int (nI true.toNat))) y3 .unset .unset .unset hk3 (by omega) zsecn hy3 zsecu zsecu (by omega) (fun q z => hok q (by rw [← en3, z]))
                  rw [en3] at sub2
                  cases hs2 : zks c (zenv m c) f false (d + 1) (e + 1) with
                  | none =>
                    rw [hs2] at sub2
                    obtain ⟨mf, x, q1, q2, q3, q4⟩ := sub2
                    exact ⟨mf, x, q1, q2, q3, zfr_tr F3 q4 (fun _ q => q) (fun _ q => q)⟩
                  | some r9 =>
                    obtain ⟨ee, ww, kk⟩ := r9
                    rw [hs2] at sub2
                    obtain ⟨m4, v4, ⟨z2, z3, sa, sb, hz2, hz3, hsb, eq4, F4, l1, l2, l3, l4, l5⟩, kp4, hval4⟩ := sub2
                    have F34 : zfr zfS m m4 := zfr_tr F3 F4 (fun _ q => q) (fun _ q => q)
                    have hl4 := zLC_fr hl F34
                    have K4 := kp4 (d + 1) (Nat.le_refl _)
                    obtain ⟨w', hw', eq5⟩ := zRi_or2 (L := L) (xs := xs) (h := h) (v := v4) (b := v) (w1 := sa) (w3 := sb) (t := d) hx hl4 l3 l5 (by omega) (by rw [K4.1]; exact k3) (by rw [K4.2.1]; exact s1) (by rw [K4.2.2]; exact s2) hsb
                    dsimp only
                    refine ⟨u3 (u3 (u3 m4 0 153 (d + 1) (v || v4).toNat) 0 152 (d + 1) 2) 535 132 0 d, v || v4, ⟨z2, z3, sa, w', hz2, hz3, hw', by rw [eq4, eq5], zfr_u (zfr_u (zfr_u F34 (by decide)) (by decide)) (by decide), l1, l2, l3, ?_, rfl⟩, fun i hi => ⟨?_, ?_, ?_⟩, fun q => by rw [hval q, hval4 q]⟩
                    · show m4 523 132 0 = _
                      rw [l4, w3e]
                      cases w <;> cases ww <;> rfl
                    · show m4 0 151 i = _
                      exact ((kp4 i (by omega)).1).trans (kpd3 i hi).1
                    · show u3 (u3 m4 0 153 (d + 1) (v || v4).toNat) 0 152 (d + 1) 2 0 152 i = _
                      rw [u3_i (by omega), u3_a (by decide)]
                      exact ((kp4 i (by omega)).2.1).trans (kpd3 i hi).2.1
                    · show u3 (u3 m4 0 153 (d + 1) (v || v4).toNat) 0 152 (d + 1) 2 0 153 i = _
                      rw [u3_a (by decide), u3_i (by omega)]
                      exact ((kp4 i (by omega)).2.2).trans (kpd3 i hi).2.2
                · rw [if_neg x1]
                  rw [zDs_bad hx hl3 x3]
                  exact zKf_bad hx hl3 zsecn hy3 x3 hh3 F3
          · have hz : zks c (zenv m c) (f + 1) false d p = if 8 < d then none else zleaf c (zenv m c) p := by
              conv => lhs; unfold zks
              rw [if_neg c40, if_neg cn, if_neg co]
            rw [hz] at hok ⊢
            refine zKleaf hx hn hk0 h9 h2 h3 hq2 hq3 c40 cn co (fun q => ?_)
            by_cases c3 : 8 < d
            · exact absurd (if_pos c3) (hok q)
            · have := hok q
              rw [if_neg c3] at this
              exact ⟨by omega, this⟩
    · intro m d p b w2 w3 q2 q3 q4 hk h9 hkd hh h2 h3 hq2 hq3 hf hok
      have hk0 := hk
      obtain ⟨hl, a2, a3, a4, a5, a6, a7, a8, a9, a10⟩ := hk
      have hc := hl.2.2
      have hz : zks c (zenv m c) (f + 1) true d p = (match zks c (zenv m c) f false d p with
        | none => none
        | some (e, w, k) => if c e = 32 then (match zks c (zenv m c) f true d (e + 1) with
          | none => none
          | some (e2, w2, k2) => some (e2, w || w2, fun n => k n && k2 n)) else some (e, w, k)) := by
        conv => lhs; unfold zks
        rfl
      rw [hz] at hok ⊢
      have sub := ihk m d p w2 w3 q2 q3 q4 hk0 h9 h2 h3 hq2 hq3 (by omega) (fun q z => hok q (by rw [z]))
      cases hs : zks c (zenv m c) f false d p with
      | none =>
        rw [hs] at sub
        exact sub
      | some r =>
        obtain ⟨e, w, k⟩ := r
        rw [hs] at sub hok
        have hge := zks_ge hc _ _ _ _ _ _ _ hs
        obtain ⟨m2, v, ⟨y2, y3, ra, rb, hy2, hy3, hrb, eq, F2, r1, r2, r3, r4, r5⟩, kp2, hval⟩ := sub
        have hl2 := zLC_fr hl F2
        dsimp only at hok ⊢
        by_cases c32 : c e = 32
        · rw [if_pos c32] at hok ⊢
          have e48 : e < 48 := Nat.lt_of_not_le fun q => by rw [hc.1 _ q] at c32; cases c32
          have K2 := kp2 d (Nat.le_refl _)
          have eq3 := zRi_sp (L := L) (xs := xs) (h := h) (v := v) (b := b) (w1 := ra) (w3 := rb) (t := d) hx hl2 r3 (by omega) r5 (by omega) (by rw [K2.1]; exact hkd) (by rw [K2.2.2]; exact hh) (by rw [r1]; exact c32) hrb
          have F3 : zfr zfS m (u3 (u3 m2 0 153 d (b && v).toNat) 521 132 0 (m2 521 132 0 + 1)) := zfr_u (zfr_u F2 (by decide)) (by decide)
          have hl3 := zLC_fr hl F3
          have hd3 : u3 (u3 m2 0 153 d (b && v).toNat) 521 132 0 (m2 521 132 0 + 1) 0 153 d = (b && v).toNat := by rw [u3_g (by decide), u3_eq]
          have hi3 : ∀ i, i < d → u3 (u3 m2 0 153 d (b && v).toNat) 521 132 0 (m2 521 132 0 + 1) 0 153 i = m 0 153 i := fun i hi => by rw [u3_g (by decide), u3_i (by omega), (kp2 i (by omega)).2.2]
          have hk3i : ∀ i, i ≤ d → u3 (u3 m2 0 153 d (b && v).toNat) 521 132 0 (m2 521 132 0 + 1) 0 151 i = m 0 151 i := fun i hi => by rw [u3_g (by decide), u3_a (by decide), (kp2 i hi).1]
          have hd3i : ∀ i, i ≤ d → u3 (u3 m2 0 153 d (b && v).toNat) 521 132 0 (m2 521 132 0 + 1) 0 152 i = m 0 152 i := fun i hi => by rw [u3_g (by decide), u3_a (by decide), (kp2 i hi).2.1]
          have hh3 : u3 (u3 m2 0 153 d (b && v).toNat) 521 132 0 (m2 521 132 0 + 1) 0 153 0 < 2 := by
            by_cases q : d = 0
            · have hd3' := hd3; rw [q] at hd3' ⊢; rw [hd3']; cases (b && v) <;> decide
            · rw [hi3 0 (by omega)]; exact a10
          have w3e : u3 (u3 m2 0 153 d (b && v).toNat) 521 132 0 (m2 521 132 0 + 1) 523 132 0 = (if w then 1 else m 523 132 0) := r4
          have at3 : u3 (u3 m2 0 153 d (b && v).toNat) 521 132 0 (m2 521 132 0 + 1) 521 132 0 = e + 1 := by show m2 521 132 0 + 1 = e + 1; omega
          have bd3 : u3 (u3 m2 0 153 d (b && v).toNat) 521 132 0 (m2 521 132 0 + 1) 522 132 0 = 0 := r3
          have tp3 : u3 (u3 m2 0 153 d (b && v).toNat) 521 132 0 (m2 521 132 0 + 1) 535 132 0 = d := r5
          rw [eq, eq3, zFR_t hx hl3 hy2 hy3]
          generalize u3 (u3 m2 0 153 d (b && v).toNat) 521 132 0 (m2 521 132 0 + 1) = m3 at *
          have en3 := (zenv_fr (c := c) F3).1
          have hk3 : zKc c n m3 d (e + 1) := zKc_nx hk0 F3 at3 (by omega) bd3 (by rw [w3e]; split <;> omega) tp3 hh3
          have sub2 := ihs m3 d (e + 1) (b && v) (.val (.int (nI true.toNat))) y3 .unset .unset .unset hk3 h9 (by rw [hk3i d (Nat.le_refl _)]; exact hkd) hd3 zsecn hy3 zsecu zsecu (by omega) (fun q z => hok q (by rw [← en3, z]))
          rw [en3] at sub2
          cases hs2 : zks c (zenv m c) f true d (e + 1) with
          | none =>
            rw [hs2] at sub2
            obtain ⟨mf, x, q1, q2, q3, q4⟩ := sub2
            exact ⟨mf, x, q1, q2, q3, zfr_tr F3 q4 (fun _ q => q) (fun _ q => q)⟩
          | some r9 =>
            obtain ⟨ee, ww, kk⟩ := r9
            rw [hs2] at sub2
            obtain ⟨m4, v4, b4, ⟨z2, z3, sa, sb, hz2, hz3, hsb, eq4, F4, l1, l2, l3, l4, l5⟩, kp4, hh4, hne4, hval4⟩ := sub2
            dsimp only
            refine ⟨m4, v4, b4, ⟨z2, z3, sa, sb, hz2, hz3, hsb, eq4, zfr_tr F3 F4 (fun _ q => q) (fun _ q => q), l1, l2, l3, ?_, l5⟩, fun i hi => ⟨(kp4 i hi).1.trans (hk3i i hi), (kp4 i hi).2.1.trans (hd3i i hi), fun q => ((kp4 i hi).2.2 q).trans (hi3 i q)⟩, hh4, hne4, fun q => ?_⟩
            · rw [l4, w3e]
              cases w <;> cases ww <;> rfl
            · rw [hval4 q, hval q, Bool.and_assoc]
        · rw [if_neg c32]
          exact ⟨m2, v, b, ⟨y2, y3, ra, rb, hy2, hy3, hrb, eq, F2, r1, r2, r3, r4, r5⟩, fun i hi => ⟨(kp2 i hi).1, (kp2 i hi).2.1, fun _ => (kp2 i hi).2.2⟩, by rw [(kp2 d (Nat.le_refl _)).2.2]; exact hh, c32, fun q => by rw [hval q]⟩
end
