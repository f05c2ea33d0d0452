/-! ===== the reference selects a mailbox ===== -/
def zvof (g : zMg) : Nat × Nat := (g.1, g.2.1)
def zsT (n v x : Nat) : List Nat := zex n ++ (([42, 32] ++ zds v ++ [32] ++ [85, 73, 68, 86, 65, 76, 73]) ++ [68, 73, 84, 89] ++ [10]) ++ (([42, 32] ++ zds x ++ [32] ++ [85, 73, 68, 78, 69, 88, 84]) ++ [10])
theorem zsT_len {n v x : Nat} : (zsT n v x).length ≤ 60 := by
  have h1 := zds_len n
  have h2 := zds_len v
  have h3 := zds_len x
  unfold zsT zex
  simp only [List.length_append, List.length_cons, List.length_nil]
  omega
section
variable {L : Nat} {xs : Nat → Int32} {h : zH} {c : Nat → Nat}
theorem s132l (hx : zFx h) {N b : Nat} (hN : N ≤ 9999) (hb : b < 4) {w1 : Slot} : ∀ (f i : Nat) (m : zMm), zLC m c → zMOk N m → m 526 132 0 = b → f + i = 10 * b + m 0 136 b → 10 * b ≤ i → m 0 144 (m 520 132 0) + f ≤ 40 → ∃ m', zEv (zPr L xs) 3 132 41 [.val (.ref 132), w1, .val (.int (nI i))] [] (zMH h m) = zEv (zPr L xs) 3 132 41 [.val (.ref 132), w1, .val (.int (nI (10 * b + m 0 136 b)))] [] (zMH h m') ∧ zKv m m' ∧ zMOk N m' ∧ zvw m' (m 520 132 0) = zvw m (m 520 132 0) ++ ((List.range' i f).map (zmg m)).map zvof ∧ zrt m' = zrt m ∧ zRL m' = zRL m := by
  intro f
  induction f with
  | zero =>
    intro i m hl hok hbx hf hi h40
    rw [show i = 10 * b + m 0 136 b by omega]
    exact ⟨m, rfl, zKv_rf m, hok, (List.append_nil _).symm, rfl, rfl⟩
  | succ f ih =>
    intro i m hl hok hbx hf hi h40
    have t3 := hl.1.1
    have okb := (hok.2.2.1 b hb).2.1
    have oki := hok.1 i (by omega)
    obtain ⟨m1, e1, k1, ok1, v1, t1, l1⟩ := zvw_push (m := m) (v := m 0 137 i) (g := m 0 138 i) hok t3 (by omega) oki.1 oki.2.1
    have st := p132_41_1 (L := L) (xs := xs) (w1 := w1) (x2 := i) hx hl (by rw [hbx]; omega) (by omega) (by omega) (by rw [hbx]; omega) t3 (by omega) (by omega)
    rw [← e1] at st
    have hl1 := zLC_fr hl k1.1
    have es1 : m1 520 132 0 = m 520 132 0 := k1.1 _ _ _ (by decide)
    have cb1 : m1 0 136 b = m 0 136 b := k1.1 _ _ _ (by decide)
    have p1 : m1 0 144 (m 520 132 0) = m 0 144 (m 520 132 0) + 1 := by
      have := congrArg List.length v1
      rw [zvw_len, List.length_append, zvw_len] at this
      exact this
    obtain ⟨m2, e2, k2, ok2, v2, t2, l2⟩ := ih (i + 1) m1 hl1 ok1 ((k1.1 _ _ _ (by decide)).trans hbx) (by rw [cb1]; omega) (by omega) (by rw [es1, p1]; omega)
    rw [cb1] at e2
    rw [es1, v1] at v2
    refine ⟨m2, st.trans e2, zKv_tr k1 k2, ok2, ?_, t2.trans t1, l2.trans l1⟩
    rw [v2, List.range'_succ, List.map_cons, List.map_cons, List.append_assoc]
    have mg : (List.range' (i + 1) f).map (zmg m1) = (List.range' (i + 1) f).map (zmg m) := by
      refine List.map_congr_left fun j _ => ?_
      unfold zmg ztx
      rw [show m1 0 137 j = m 0 137 j from k1.1 _ _ _ (by decide), show m1 0 138 j = m 0 138 j from k1.1 _ _ _ (by decide), show m1 0 139 j = m 0 139 j from k1.1 _ _ _ (by decide)]
      have : ∀ q, m1 0 140 q = m 0 140 q := fun q => k1.1 _ _ _ (by decide)
      simp only [this]
    rw [mg]
    rfl
/-- all but the own selection, view and reply is as it was -/
def zKsl (m m' : zMm) : Prop := zfr [(0, 142), (0, 143), (0, 145), (0, 146), (0, 144), (0, 149), (0, 150)] m m' ∧ (∀ s, s < 3 → s ≠ m 520 132 0 → m' 0 142 s = m 0 142 s ∧ m' 0 143 s = m 0 143 s ∧ m' 0 144 s = m 0 144 s ∧ zvw m' s = zvw m s) ∧ (∀ q, q ≠ m 520 132 0 → m' 0 150 q = m 0 150 q) ∧ ∀ q, q / 2048 ≠ m 520 132 0 → m' 0 149 q = m 0 149 q
theorem s132 (hx : zFx h) {m : zMm} {N : Nat} (hN : N ≤ 9999) (hl : zLC m c) (hok : zMOk N m) (hb : m 526 132 0 < 4) {p : Bool} (hr : zRL m ≤ 1000) : ∃ m', zCl (zPr L xs) 132 [.ref 132, .int (nI p.toNat)] (zMH h m) = some (.inl none, zMH h m') ∧ zKsl m m' ∧ zMOk N m' ∧ m' 0 142 (m 520 132 0) = m 526 132 0 ∧ m' 0 143 (m 520 132 0) = p.toNat ∧ zvw m' (m 520 132 0) = (zbm m (m 526 132 0)).map zvof ∧ zrt m' = zrt m ++ zsT (m 0 136 (m 526 132 0)) (m 0 134 (m 526 132 0)) (m 0 135 (m 526 132 0)) ∧ zRL m' = zRL m + (zsT (m 0 136 (m 526 132 0)) (m 0 134 (m 526 132 0)) (m 0 135 (m 526 132 0))).length := by
  have t3 := hl.1.1
  have okb := hok.2.2.1 _ hb
  rw [en_132]
  have st := p132_0_1 (L := L) (xs := xs) (p := p) hx hl t3
  obtain ⟨m1, e1⟩ : ∃ m1, m1 = u3 (u3 (u3 m 0 142 (m 520 132 0) (m 526 132 0)) 0 143 (m 520 132 0) p.toNat) 0 144 (m 520 132 0) 0 := ⟨_, rfl⟩
  rw [← e1] at st
  have f1 : zfr [(0, 142), (0, 143), (0, 144)] m m1 := by rw [e1]; exact zfr_u (zfr_u (zfr_u (zfr_rf _ _) (by decide)) (by decide)) (by decide)
  have hl1 := zLC_fr hl f1
  have es1 : m1 520 132 0 = m 520 132 0 := f1 _ _ _ (by decide)
  have sl1 : ∀ s, m1 0 142 s = if s = m 520 132 0 then m 526 132 0 else m 0 142 s := by
    intro s
    rw [e1, u3_a (by decide), u3_a (by decide)]
    by_cases q : s = m 520 132 0
    · rw [if_pos q, q]; exact u3_eq _ _ _ _ _
    · rw [if_neg q]; exact u3_i q
  have wr1 : ∀ s, m1 0 143 s = if s = m 520 132 0 then p.toNat else m 0 143 s := by
    intro s
    rw [e1, u3_a (by decide)]
    by_cases q : s = m 520 132 0
    · rw [if_pos q, q]; exact u3_eq _ _ _ _ _
    · rw [if_neg q, u3_i q]; exact u3_a (by decide)
  have pl1 : ∀ s, m1 0 144 s = if s = m 520 132 0 then 0 else m 0 144 s := by
    intro s
    rw [e1]
    by_cases q : s = m 520 132 0
    · rw [if_pos q, q]; exact u3_eq _ _ _ _ _
    · rw [if_neg q, u3_i q, u3_a (by decide), u3_a (by decide)]
  have ok1 : zMOk N m1 := by
    refine ⟨fun i hi => ?_, fun k hk => ?_, fun b hb => ?_, fun s hs => ?_, ?_⟩
    · have := hok.1 i hi
      rw [show m1 0 137 i = m 0 137 i from f1 _ _ _ (by decide), show m1 0 138 i = m 0 138 i from f1 _ _ _ (by decide), show m1 0 139 i = m 0 139 i from f1 _ _ _ (by decide)]
      exact ⟨this.1, this.2.1, this.2.2.1, fun k hk => by rw [show m1 0 140 (6 * i + k) = m 0 140 (6 * i + k) from f1 _ _ _ (by decide)]; exact this.2.2.2 k hk⟩
    · rw [show m1 0 145 k = m 0 145 k from f1 _ _ _ (by decide), show m1 0 146 k = m 0 146 k from f1 _ _ _ (by decide)]
      exact hok.2.1 k hk
    · rw [show m1 0 133 b = m 0 133 b from f1 _ _ _ (by decide), show m1 0 136 b = m 0 136 b from f1 _ _ _ (by decide), show m1 0 135 b = m 0 135 b from f1 _ _ _ (by decide), show m1 0 134 b = m 0 134 b from f1 _ _ _ (by decide)]
      exact hok.2.2.1 b hb
    · have o := hok.2.2.2.1 s hs
      rw [show m1 0 141 s = m 0 141 s from f1 _ _ _ (by decide), sl1, wr1, pl1]
      by_cases q : s = m 520 132 0
      · rw [if_pos q, if_pos q, if_pos q]
        exact ⟨o.1, by cases p <;> decide, by omega, Or.inl hb⟩
      · rw [if_neg q, if_neg q, if_neg q]
        exact o
    · rw [show m1 509 132 0 = m 509 132 0 from f1 _ _ _ (by decide)]
      exact hok.2.2.2.2
  have bx1 : m1 526 132 0 = m 526 132 0 := f1 _ _ _ (by decide)
  have ct1 : m1 0 136 (m 526 132 0) = m 0 136 (m 526 132 0) := f1 _ _ _ (by decide)
  have p1 : m1 0 144 (m1 520 132 0) = 0 := by rw [es1, pl1, if_pos rfl]
  obtain ⟨m2, e2, k2, ok2, v2, t2, l2⟩ := s132l (L := L) (xs := xs) (w1 := .val (.int (nI p.toNat))) hx hN hb (m 0 136 (m 526 132 0)) (10 * (m 526 132 0)) m1 hl1 ok1 bx1 (by rw [ct1]; omega) (Nat.le_refl _) (by rw [p1]; omega)
  have hl2 := zLC_fr hl1 k2.1
  have es2 : m2 520 132 0 = m 520 132 0 := (k2.1 _ _ _ (by decide)).trans es1
  have f12 : zfr [(0, 142), (0, 143), (0, 145), (0, 146), (0, 144), (0, 149), (0, 150)] m m2 := zfr_tr f1 k2.1 (by decide) (by decide)
  have rl1 : zRL m1 = zRL m := by unfold zRL; rw [es1]; exact f1 _ _ _ (by decide)
  have rt1 : zrt m1 = zrt m := (zrt_fr es1 (fun q => f1 _ _ _ (by decide)) (fun q => f1 _ _ _ (by decide))).1
  -- what is said
  have bx2 : m2 526 132 0 = m 526 132 0 := f12 _ _ _ (by decide)
  have ct2 : m2 0 136 (m 526 132 0) = m 0 136 (m 526 132 0) := f12 _ _ _ (by decide)
  have dA := zds_len (m 0 136 (m 526 132 0))
  have dB := zds_len (m 0 134 (m 526 132 0))
  have dC := zds_len (m 0 135 (m 526 132 0))
  obtain ⟨mA, eA, sA⟩ := s123 (L := L) (xs := xs) hx hl2 (m 0 136 (m 526 132 0)) (nL 6184096352) [69, 88, 73, 83, 84, 83] (by omega) (by omega) (fun m1 hl1 hr1 => s121_EXISTS hx hl1 hr1)
  have lA := zSay_len sA
  have dA' : ([42, 32] ++ zds (m 0 136 (m 526 132 0)) ++ [32] ++ [69, 88, 73, 83, 84, 83]).length ≤ 13 := by
    simp only [List.length_append, List.length_cons, List.length_nil]
    omega
  have hlA := zSay_lc hl2 sA
  obtain ⟨mB, eB, sB⟩ := s119 (L := L) (xs := xs) hx hlA 10 (by omega)
  have lB := zSay_len sB
  have hlB := zSay_lc hlA sB
  have lB' : zRL mB = zRL mA + 1 := lB
  have SB := zSay_tr sA sB
  have bxB : mB 526 132 0 = m 526 132 0 := (SB.1 _ _ _ (by decide)).trans bx2
  have vB : mB 0 134 (mB 526 132 0) = m 0 134 (m 526 132 0) := by rw [bxB]; exact (SB.1 _ _ _ (by decide)).trans (f12 _ _ _ (by decide))
  obtain ⟨mC, eC, sC⟩ := s123 (L := L) (xs := xs) hx hlB (mB 0 134 (mB 526 132 0)) (nL 22855484809) [85, 73, 68, 86, 65, 76, 73] (by omega) (by omega) (fun m1 hl1 hr1 => s121_UIDVALI hx hl1 hr1)
  have hlC := zSay_lc hlB sC
  have lC := zSay_len sC
  have dC' : ([42, 32] ++ zds (mB 0 134 (mB 526 132 0)) ++ [32] ++ [85, 73, 68, 86, 65, 76, 73]).length ≤ 14 := by
    rw [vB]
    simp only [List.length_append, List.length_cons, List.length_nil]
    omega
  obtain ⟨mD, eD, sD⟩ := s121_DITY (L := L) (xs := xs) hx hlC (by omega)
  have hlD := zSay_lc hlC sD
  have lD : zRL mD = zRL mC + 4 := zSay_len sD
  obtain ⟨mE, eE, sE⟩ := s119 (L := L) (xs := xs) hx hlD 10 (by omega)
  have hlE := zSay_lc hlD sE
  have lE : zRL mE = zRL mD + 1 := zSay_len sE
  have SE := zSay_tr SB (zSay_tr (zSay_tr sC sD) sE)
  have bxE : mE 526 132 0 = m 526 132 0 := (SE.1 _ _ _ (by decide)).trans bx2
  have vE : mE 0 135 (mE 526 132 0) = m 0 135 (m 526 132 0) := by rw [bxE]; exact (SE.1 _ _ _ (by decide)).trans (f12 _ _ _ (by decide))
  obtain ⟨mF, eF, sF⟩ := s123 (L := L) (xs := xs) hx hlE (mE 0 135 (mE 526 132 0)) (nL 22855227156) [85, 73, 68, 78, 69, 88, 84] (by omega) (by omega) (fun m1 hl1 hr1 => s121_UIDNEXT hx hl1 hr1)
  have hlF := zSay_lc hlE sF
  have lF := zSay_len sF
  have dF' : ([42, 32] ++ zds (mE 0 135 (mE 526 132 0)) ++ [32] ++ [85, 73, 68, 78, 69, 88, 84]).length ≤ 14 := by
    rw [vE]
    simp only [List.length_append, List.length_cons, List.length_nil]
    omega
  obtain ⟨mG, eG, sG⟩ := s119 (L := L) (xs := xs) hx hlF 10 (by omega)
  have SG := zSay_tr SE (zSay_tr sF sG)
  rw [vB, vE] at SG
  have SS : zSay m2 mG (zsT (m 0 136 (m 526 132 0)) (m 0 134 (m 526 132 0)) (m 0 135 (m 526 132 0))) := SG
  have eA2 : zCl (zPr L xs) 123 [.ref 132, .int (nI (m2 0 136 (m2 526 132 0))), .long (nL 6184096352)] (zMH h m2) = some (.inl none, zMH h mA) := by rw [bx2, ct2]; exact eA
  have en := p132_41_2 (L := L) (xs := xs) (w1 := .val (.int (nI p.toNat))) (x2 := 10 * (m 526 132 0) + m1 0 136 (m 526 132 0)) hx hl2 (by rw [bx2, ct2, ct1]; exact Nat.le_refl _) eA2 eB eC eD eE eF eG (by omega) (by rw [ct1]; omega) (by rw [bx2, ct2]; omega) (by omega) (by omega)
  have kS := zKv_say SS
  have k2G := zKv_tr k2 kS
  have vG : zvw mG (m 520 132 0) = zvw m2 (m 520 132 0) := zvw_e (SS.1 _ _ _ (by decide)) fun i _ => ⟨SS.1 _ _ _ (by decide), SS.1 _ _ _ (by decide)⟩
  have v0 : zvw m1 (m 520 132 0) = [] := List.eq_nil_of_length_eq_zero (by rw [zvw_len, pl1, if_pos rfl])
  rw [es1, v0, List.nil_append] at v2
  have bm1 : (List.range' (10 * (m 526 132 0)) (m 0 136 (m 526 132 0))).map (zmg m1) = zbm m (m 526 132 0) := by
    rw [zbm_r]
    refine List.map_congr_left fun j _ => ?_
    unfold zmg ztx
    rw [show m1 0 137 j = m 0 137 j from f1 _ _ _ (by decide), show m1 0 138 j = m 0 138 j from f1 _ _ _ (by decide), show m1 0 139 j = m 0 139 j from f1 _ _ _ (by decide)]
    have : ∀ q, m1 0 140 q = m 0 140 q := fun q => f1 _ _ _ (by decide)
    simp only [this]
  rw [bm1] at v2
  refine ⟨mG, st.trans (e2.trans en), ⟨zfr_tr f1 k2G.1 (by decide) (by decide), fun s h1 h2 => ?_, fun q hq => ?_, fun q hq => ?_⟩, ?_, ?_, ?_, vG.trans v2, ?_, ?_⟩
  · have kk := k2G.2.1 s h1 (by rw [es1]; exact h2)
    refine ⟨(k2G.1 _ _ _ (by decide)).trans (by rw [sl1, if_neg h2]), (k2G.1 _ _ _ (by decide)).trans (by rw [wr1, if_neg h2]), kk.1.trans (by rw [pl1, if_neg h2]), kk.2.trans (zvw_e (by rw [pl1, if_neg h2]) fun i _ => ⟨f1 _ _ _ (by decide), f1 _ _ _ (by decide)⟩)⟩
  · exact (k2G.2.2.1 q (by rw [es1]; exact hq)).trans (f1 _ _ _ (by decide))
  · exact (k2G.2.2.2 q (by rw [es1]; exact hq)).trans (f1 _ _ _ (by decide))
  · exact zMOk_v ok2 kS.1 (fun q hq => by rw [show mG 0 145 q = m2 0 145 q from SS.1 _ _ _ (by decide), show mG 0 146 q = m2 0 146 q from SS.1 _ _ _ (by decide)]; exact ok2.2.1 q hq) (fun s hs => by rw [show mG 0 144 s = m2 0 144 s from SS.1 _ _ _ (by decide)]; exact (ok2.2.2.2.1 s hs).2.2.1)
  · exact (k2G.1 _ _ _ (by decide)).trans (by rw [sl1, if_pos rfl])
  · exact (k2G.1 _ _ _ (by decide)).trans (by rw [wr1, if_pos rfl])
  · rw [SS.2.1, t2, rt1]
  · rw [zSay_len SS, l2, rl1]
end
