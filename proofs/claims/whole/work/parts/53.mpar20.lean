/-! ===== the reference takes messages away ===== -/
def zgd (g : zMg) : Bool := decide (g.2.1 &&& 8 = 0)
/-- one cell is written over by another -/
theorem zsj_cp {m m' : zMm} {a b : Nat} (h1 : m' 0 137 b = m 0 137 a) (h2 : m' 0 138 b = m 0 138 a) (h3 : m' 0 139 b = m 0 139 a) (h4 : ∀ k, k < 6 → m' 0 140 (6 * b + k) = m 0 140 (6 * a + k)) (h6 : m 0 139 a ≤ 6) : zmg m' b = zmg m a := by
  unfold zmg ztx
  rw [h1, h2, h3]
  congr 2
  exact List.map_congr_left fun k hk => h4 k (by have := List.mem_range.mp hk; omega)
section
variable {L : Nat} {xs : Nat → Int32} {h : zH} {m : zMm} {c : Nat → Nat}
theorem s131 (hx : zFx h) (hl : zLC m c) {N : Nat} (hok : zMOk N m) (hu : zUp m) (hb : zsb m < 4) : ∃ m', zCl (zPr L xs) 131 [.ref 132] (zMH h m) = some (.inl none, zMH h m') ∧ zfr [(0, 137), (0, 138), (0, 139), (0, 140), (0, 136)] m m' ∧ zMOk N m' ∧ zUp m' ∧ zbm m' (zsb m) = (zbm m (zsb m)).filter zgd ∧ ∀ b, b < 4 → b ≠ zsb m → zbm m' b = zbm m b := by
  have t3 := hl.1.1
  have hcb := (hok.2.2.1 _ hb).2.1
  obtain ⟨B, hB⟩ : ∃ B, B = zsb m := ⟨_, rfl⟩
  rw [← hB] at hb hcb ⊢
  -- six characters
  have six : ∀ (f k : Nat) (m1 : zMm) (i j a b : Nat), zLC m1 c → a < 40 → b < 40 → f + k = 6 → ∃ m2, zEv (zPr L xs) 0 131 98 [.val (.ref 132), .val (.int (nI B)), .val (.int (nI j)), .val (.int (nI i)), .val (.int (nI a)), .val (.int (nI b)), .val (.int (nI k))] [] (zMH h m1) = zEv (zPr L xs) 0 131 98 [.val (.ref 132), .val (.int (nI B)), .val (.int (nI j)), .val (.int (nI i)), .val (.int (nI a)), .val (.int (nI b)), .val (.int (nI 6))] [] (zMH h m2) ∧ zfr [(0, 140)] m1 m2 ∧ (∀ q, q / 6 ≠ b → m2 0 140 q = m1 0 140 q) ∧ (∀ q, k ≤ q → q < 6 → m2 0 140 (6 * b + q) = m1 0 140 (6 * a + q)) ∧ (∀ q, q < k → m2 0 140 (6 * b + q) = m1 0 140 (6 * b + q)) := by
    intro f
    induction f with
    | zero => intro k m1 i j a b hl1 ha hb' hk; rw [show k = 6 by omega]; exact ⟨m1, rfl, zfr_rf _ _, fun _ _ => rfl, fun q h1 h2 => by omega, fun _ _ => rfl⟩
    | succ f ih =>
      intro k m1 i j a b hl1 ha hb' hk
      have st := p131_98_1 (L := L) (xs := xs) (x1 := B) (x2 := j) (x3 := i) (x4 := a) (x5 := b) (x6 := k) hx hl1 (by omega) (by omega) (by omega) (by omega)
      obtain ⟨m2, e, f2, g1, g2, g3⟩ := ih (k + 1) (u3 m1 0 140 (6 * b + k) (m1 0 140 (6 * a + k))) i j a b (zLC_fr hl1 (zfr_u (l := [(0, 140)]) (zfr_rf _ _) (by decide))) ha hb' (by omega)
      refine ⟨m2, st.trans e, zfr_tr (zfr_u (l := [(0, 140)]) (zfr_rf _ _) (by decide)) f2 (fun _ q => q) (fun _ q => q), fun q hq => ?_, fun q h1 h2 => ?_, fun q hq => ?_⟩
      · rw [g1 q hq, u3_i (by omega)]
      · by_cases z : q = k
        · rw [g3 q (by omega), z, u3_eq]
        · rw [g2 q (by omega) h2]
          by_cases y : a = b
          · rw [y, u3_i (by omega)]
          · rw [u3_i (by omega)]
      · rw [g3 q (by omega), u3_i (by omega)]
  have loop : ∀ (f i j : Nat) (m1 : zMm) (w4 w5 w6 : Slot), w4 ≠ .second → w5 ≠ .second → w6 ≠ .second → zLC m1 c → zfr [(0, 137), (0, 138), (0, 139), (0, 140)] m m1 → f + i = m 0 136 B → j ≤ i → zMOk N m1 → (∀ q, q < 10 * B ∨ 10 * B + i ≤ q → zsj m m1 q) → (∀ p q, p < q → q < j → m1 0 137 (10 * B + p) < m1 0 137 (10 * B + q)) → (∀ p, p < j → ∀ r, i ≤ r → r < m 0 136 B → m1 0 137 (10 * B + p) < m 0 137 (10 * B + r)) → (∀ p, p < j → m1 0 137 (10 * B + p) < m 0 135 B) → (List.range j).map (fun q => zmg m1 (10 * B + q)) = ((List.range i).map (fun q => zmg m (10 * B + q))).filter zgd →
      ∃ m2 j2, zEv (zPr L xs) 0 131 14 [.val (.ref 132), .val (.int (nI B)), .val (.int (nI j)), .val (.int (nI i)), w4, w5, w6] [] (zMH h m1) = some (.inl none, zMH h (u3 m2 0 136 B j2)) ∧ j2 ≤ m 0 136 B ∧ zfr [(0, 137), (0, 138), (0, 139), (0, 140)] m m2 ∧ zMOk N m2 ∧ (∀ q, q < 10 * B ∨ 10 * B + m 0 136 B ≤ q → zsj m m2 q) ∧ (∀ p q, p < q → q < j2 → m2 0 137 (10 * B + p) < m2 0 137 (10 * B + q)) ∧ (∀ p, p < j2 → m2 0 137 (10 * B + p) < m 0 135 B) ∧ (List.range j2).map (fun q => zmg m2 (10 * B + q)) = ((List.range (m 0 136 B)).map (fun q => zmg m (10 * B + q))).filter zgd := by
    intro f
    induction f with
    | zero =>
      intro i j m1 w4 w5 w6 h4 h5 h6 hl1 F1 hf hji ok1 k1 k2 k3 k4 k5
      have ec : m1 0 136 B = m 0 136 B := F1 _ _ _ (by decide)
      have hi : i = m 0 136 B := by omega
      refine ⟨m1, j, p131_14_3 hx hl1 (by omega) hb (by omega) (by omega), by omega, F1, ok1, ?_, k2, k4, ?_⟩
      · rw [← hi]; exact k1
      · rw [← hi]; exact k5
    | succ f ih =>
      intro i j m1 w4 w5 w6 h4 h5 h6 hl1 F1 hf hji ok1 k1 k2 k3 k4 k5
      have ec : m1 0 136 B = m 0 136 B := F1 _ _ _ (by decide)
      have si := k1 (10 * B + i) (Or.inr (Nat.le_refl _))
      have l6 := (hok.1 (10 * B + i) (by omega)).2.2.1
      have mi := zsj_mg si l6
      have b8 := Nat.and_le_right (n := m1 0 138 (10 * B + i)) (m := 8)
      have flt : ((List.range (i + 1)).map (fun q => zmg m (10 * B + q))).filter zgd = ((List.range i).map (fun q => zmg m (10 * B + q))).filter zgd ++ (if m1 0 138 (10 * B + i) &&& 8 = 0 then [zmg m (10 * B + i)] else []) := by
        rw [List.range_succ, List.map_append, List.filter_append]
        congr 1
        rw [List.map_cons, List.map_nil, List.filter_cons, List.filter_nil]
        have : zgd (zmg m (10 * B + i)) = decide (m1 0 138 (10 * B + i) &&& 8 = 0) := by rw [si.2.1]; rfl
        rw [this]
        by_cases z : m1 0 138 (10 * B + i) &&& 8 = 0
        · rw [decide_eq_true z, if_pos rfl, if_pos z]
        · rw [decide_eq_false z, if_neg (by decide), if_neg z]
      by_cases z : m1 0 138 (10 * B + i) &&& 8 = 0
      · have st := p131_14_1 (L := L) (xs := xs) (x1 := B) (x2 := j) (x3 := i) hx hl1 (by omega) z h4 h5 h6 hb (by omega) (by omega) (by omega) (by omega)
        let mA : zMm := u3 (u3 (u3 m1 0 137 (10 * B + j) (m1 0 137 (10 * B + i))) 0 138 (10 * B + j) (m1 0 138 (10 * B + i))) 0 139 (10 * B + j) (m1 0 139 (10 * B + i))
        have FA : zfr [(0, 137), (0, 138), (0, 139), (0, 140)] m1 mA := zfr_u (zfr_u (zfr_u (zfr_rf _ _) (by decide)) (by decide)) (by decide)
        have hlA := zLC_fr hl1 FA
        obtain ⟨mB, eB, fB, g1, g2, -⟩ := six 6 0 mA i j (10 * B + i) (10 * B + j) hlA (by omega) (by omega) rfl
        have FB : zfr [(0, 137), (0, 138), (0, 139), (0, 140)] m1 mB := zfr_tr FA fB (fun _ q => q) (by decide)
        have hlB := zLC_fr hl1 FB
        have e2 := p131_98_2 (L := L) (xs := xs) (x1 := B) (x2 := j) (x3 := i) (x4 := 10 * B + i) (x5 := 10 * B + j) (x6 := 6) hx hlB (Nat.le_refl _) (by decide)
        have nB : ∀ q, mB 0 137 q = if q = 10 * B + j then m1 0 137 (10 * B + i) else m1 0 137 q := fun q => by
          rw [fB _ _ _ (by decide)]
          show u3 (u3 (u3 m1 0 137 (10 * B + j) (m1 0 137 (10 * B + i))) 0 138 (10 * B + j) (m1 0 138 (10 * B + i))) 0 139 (10 * B + j) (m1 0 139 (10 * B + i)) 0 137 q = _
          rw [u3_a (by decide), u3_a (by decide)]
          by_cases y : q = 10 * B + j
          · rw [if_pos y, y, u3_eq]
          · rw [if_neg y, u3_i y]
        have fBq : ∀ q, mB 0 138 q = if q = 10 * B + j then m1 0 138 (10 * B + i) else m1 0 138 q := fun q => by
          rw [fB _ _ _ (by decide)]
          show u3 (u3 (u3 m1 0 137 (10 * B + j) (m1 0 137 (10 * B + i))) 0 138 (10 * B + j) (m1 0 138 (10 * B + i))) 0 139 (10 * B + j) (m1 0 139 (10 * B + i)) 0 138 q = _
          rw [u3_a (by decide)]
          by_cases y : q = 10 * B + j
          · rw [if_pos y, y, u3_eq]
          · rw [if_neg y, u3_i y, u3_a (by decide)]
        have lB : ∀ q, mB 0 139 q = if q = 10 * B + j then m1 0 139 (10 * B + i) else m1 0 139 q := fun q => by
          rw [fB _ _ _ (by decide)]
          show u3 (u3 (u3 m1 0 137 (10 * B + j) (m1 0 137 (10 * B + i))) 0 138 (10 * B + j) (m1 0 138 (10 * B + i))) 0 139 (10 * B + j) (m1 0 139 (10 * B + i)) 0 139 q = _
          by_cases y : q = 10 * B + j
          · rw [if_pos y, y, u3_eq]
          · rw [if_neg y, u3_i y, u3_a (by decide), u3_a (by decide)]
        have tA : ∀ q, mA 0 140 q = m1 0 140 q := fun q => by
          show u3 (u3 (u3 m1 0 137 (10 * B + j) (m1 0 137 (10 * B + i))) 0 138 (10 * B + j) (m1 0 138 (10 * B + i))) 0 139 (10 * B + j) (m1 0 139 (10 * B + i)) 0 140 q = _
          rw [u3_a (by decide), u3_a (by decide), u3_a (by decide)]
        have oi := ok1.1 (10 * B + i) (by omega)
        have keep : ∀ q, q ≠ 10 * B + j → zsj m1 mB q := fun q hq => ⟨by rw [nB, if_neg hq], by rw [fBq, if_neg hq], by rw [lB, if_neg hq], fun k hk => by rw [g1 _ (by omega), tA]⟩
        have okB : zMOk N mB := by
          refine ⟨fun q hq => ?_, fun k hk => ?_, fun b' hb' => ?_, fun s hs => ?_, ?_⟩
          · by_cases y : q = 10 * B + j
            · rw [nB, fBq, lB, if_pos y, if_pos y, if_pos y]
              refine ⟨oi.1, oi.2.1, oi.2.2.1, fun k hk => ?_⟩
              rw [y, g2 k (Nat.zero_le _) hk, tA]; exact oi.2.2.2 k hk
            · have o := ok1.1 q hq
              obtain ⟨z1, z2, z3, z4⟩ := keep q y
              rw [z1, z2, z3]; exact ⟨o.1, o.2.1, o.2.2.1, fun k hk => by rw [z4 k hk]; exact o.2.2.2 k hk⟩
          · rw [show mB 0 145 k = m1 0 145 k from FB _ _ _ (by decide), show mB 0 146 k = m1 0 146 k from FB _ _ _ (by decide)]; exact ok1.2.1 k hk
          · rw [show mB 0 133 b' = m1 0 133 b' from FB _ _ _ (by decide), show mB 0 136 b' = m1 0 136 b' from FB _ _ _ (by decide), show mB 0 135 b' = m1 0 135 b' from FB _ _ _ (by decide), show mB 0 134 b' = m1 0 134 b' from FB _ _ _ (by decide)]; exact ok1.2.2.1 b' hb'
          · rw [show mB 0 141 s = m1 0 141 s from FB _ _ _ (by decide), show mB 0 143 s = m1 0 143 s from FB _ _ _ (by decide), show mB 0 144 s = m1 0 144 s from FB _ _ _ (by decide), show mB 0 142 s = m1 0 142 s from FB _ _ _ (by decide)]; exact ok1.2.2.2.1 s hs
          · rw [show mB 509 132 0 = m1 509 132 0 from FB _ _ _ (by decide)]; exact ok1.2.2.2.2
        have ups := hu B hb
        have H1 : ∀ q, q < 10 * B ∨ 10 * B + (i + 1) ≤ q → zsj m mB q := fun q hq => by
          have a := k1 q (by omega)
          have b := keep q (by omega)
          exact ⟨b.1.trans a.1, b.2.1.trans a.2.1, b.2.2.1.trans a.2.2.1, fun k hk => (b.2.2.2 k hk).trans (a.2.2.2 k hk)⟩
        have H2 : ∀ p q, p < q → q < j + 1 → mB 0 137 (10 * B + p) < mB 0 137 (10 * B + q) := fun p q h1 h2 => by
          rw [nB, nB, if_neg (by omega)]
          by_cases y : q = j
          · rw [if_pos (by omega), si.1]; exact k3 p (by omega) i (Nat.le_refl _) (by omega)
          · rw [if_neg (by omega)]; exact k2 p q h1 (by omega)
        have H3 : ∀ p, p < j + 1 → ∀ r, i + 1 ≤ r → r < m 0 136 B → mB 0 137 (10 * B + p) < m 0 137 (10 * B + r) := fun p hp r h1 h2 => by
          rw [nB]
          by_cases y : p = j
          · rw [if_pos (by omega), si.1]; exact ups.1 i r (by omega) h2
          · rw [if_neg (by omega)]; exact k3 p (by omega) r (by omega) h2
        have H4 : ∀ p, p < j + 1 → mB 0 137 (10 * B + p) < m 0 135 B := fun p hp => by
          rw [nB]
          by_cases y : p = j
          · rw [if_pos (by omega), si.1]; exact ups.2 i (by omega)
          · rw [if_neg (by omega)]; exact k4 p (by omega)
        have H5 : (List.range (j + 1)).map (fun q => zmg mB (10 * B + q)) = ((List.range (i + 1)).map (fun q => zmg m (10 * B + q))).filter zgd := by
          rw [flt, if_pos z, ← k5, List.range_succ, List.map_append]
          congr 1
          · exact List.map_congr_left fun q hq => by
              have hq := List.mem_range.mp hq
              exact zsj_mg (keep _ (by omega)) (ok1.1 _ (by omega)).2.2.1
          · show [zmg mB (10 * B + j)] = _
            rw [← mi]
            congr 1
            exact zsj_cp (by rw [nB, if_pos rfl]) (by rw [fBq, if_pos rfl]) (by rw [lB, if_pos rfl]) (fun k hk => by rw [g2 k (Nat.zero_le _) hk, tA]) oi.2.2.1
        obtain ⟨m2, j2, eZ, r⟩ := ih (i + 1) (j + 1) mB (.val (.int (nI (10 * B + i)))) (.val (.int (nI (10 * B + j)))) (.val (.int (nI 6))) zsecn zsecn zsecn hlB (zfr_tr F1 FB (fun _ q => q) (fun _ q => q)) (by omega) (by omega) okB H1 H2 H3 H4 H5
        exact ⟨m2, j2, st.trans (eB.trans (e2.trans eZ)), r⟩
      · have st := p131_14_2 (L := L) (xs := xs) (x1 := B) (x2 := j) (x3 := i) hx hl1 (by omega) z h4 h5 h6 hb (by omega) (by omega) (by omega) (by omega)
        obtain ⟨m2, j2, eZ, r⟩ := ih (i + 1) j m1 (.val (.int (nI (10 * B + i)))) (.val (.int (nI (10 * B + j)))) w6 zsecn zsecn h6 hl1 F1 (by omega) (by omega) ok1 (fun q hq => k1 q (by omega)) k2 (fun p hp r h1 h2 => k3 p hp r (by omega) h2) k4 (by rw [flt, if_neg z, List.append_nil]; exact k5)
        exact ⟨m2, j2, st.trans eZ, r⟩
  rw [en_131, p131_0_1 hx hl t3]
  obtain ⟨m2, j2, e, r0, r1, r2, r3, r4, r5, r6⟩ := loop (m 0 136 B) 0 0 m .unset .unset .unset zsecu zsecu zsecu hl (zfr_rf _ _) (by omega) (Nat.le_refl _) hok (fun _ _ => ⟨rfl, rfl, rfl, fun _ _ => rfl⟩) (fun p q h1 h2 => by omega) (fun p hp => by omega) (fun p hp => by omega) rfl
  have hB' : m 0 142 (m 520 132 0) = B := hB.symm
  rw [hB']
  have F : zfr [(0, 137), (0, 138), (0, 139), (0, 140), (0, 136)] m (u3 m2 0 136 B j2) := zfr_u (zfr_w r1 (by decide)) (by decide)
  have cn : ∀ b', u3 m2 0 136 B j2 0 136 b' = if b' = B then j2 else m 0 136 b' := fun b' => by
    by_cases y : b' = B
    · rw [if_pos y, y, u3_eq]
    · rw [if_neg y, u3_i y]; exact r1 _ _ _ (by decide)
  refine ⟨_, e, F, ?_, ?_, ?_, ?_⟩
  · refine ⟨r2.1, r2.2.1, fun b' hb' => ?_, r2.2.2.2.1, r2.2.2.2.2⟩
    have o := hok.2.2.1 b' hb'
    rw [cn, show u3 m2 0 136 B j2 0 133 b' = m 0 133 b' from F _ _ _ (by decide), show u3 m2 0 136 B j2 0 135 b' = m 0 135 b' from F _ _ _ (by decide), show u3 m2 0 136 B j2 0 134 b' = m 0 134 b' from F _ _ _ (by decide)]
    refine ⟨o.1, ?_, o.2.2⟩
    split
    · omega
    · exact o.2.1
  · intro b' hb'
    have o := hu b' hb'
    have oc := (hok.2.2.1 b' hb').2.1
    rw [cn, show u3 m2 0 136 B j2 0 135 b' = m 0 135 b' from F _ _ _ (by decide)]
    have en : ∀ q, u3 m2 0 136 B j2 0 137 q = m2 0 137 q := fun q => u3_a (by decide)
    by_cases y : b' = B
    · rw [if_pos y, y]
      exact ⟨fun p q h1 h2 => by rw [en, en]; exact r4 p q h1 h2, fun p hp => by rw [en]; exact r5 p hp⟩
    · rw [if_neg y]
      have old : ∀ p, p < m 0 136 b' → m2 0 137 (10 * b' + p) = m 0 137 (10 * b' + p) := fun p hp => (r3 _ (by omega)).1
      exact ⟨fun p q h1 h2 => by rw [en, en, old p (by omega), old q h2]; exact o.1 p q h1 h2, fun p hp => by rw [en, old p hp]; exact o.2 p hp⟩
  · unfold zbm
    rw [cn, if_pos rfl, ← r6]
    exact List.map_congr_left fun q hq => by
      have hq := List.mem_range.mp hq
      exact zsj_cp (u3_a (by decide)) (u3_a (by decide)) (u3_a (by decide)) (fun k _ => u3_a (by decide)) (r2.1 (10 * B + q) (by omega)).2.2.1
  · intro b' hb' hne
    have oc := (hok.2.2.1 b' hb').2.1
    refine zbm_eq (by rw [cn, if_neg hne]) (fun i hi => ?_) (fun i hi => (hok.1 _ (by omega)).2.2.1)
    have a := r3 (10 * b' + i) (by omega)
    exact ⟨(u3_a (by decide)).trans a.1, (u3_a (by decide)).trans a.2.1, (u3_a (by decide)).trans a.2.2.1, fun k hk => (u3_a (by decide)).trans (a.2.2.2 k hk)⟩
end
