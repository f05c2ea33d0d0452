/-! ===== the reference stores and fetches one place ===== -/
/-- the flags of cell j, what was told at i, and the reply -/
def zTell (m m' : zMm) (j f i g : Nat) (t : List Nat) : Prop := zfr [(0, 138), (0, 146), (0, 149), (0, 150)] m m' ∧ (∀ q, m' 0 138 q = if q = j then f else m 0 138 q) ∧ (∀ q, m' 0 146 q = if q = i then g else m 0 146 q) ∧ zrt m' = zrt m ++ t ∧ zRL m' = zRL m + t.length ∧ (∀ q, q ≠ m 520 132 0 → m' 0 150 q = m 0 150 q) ∧ ∀ q, q / 2048 ≠ m 520 132 0 → m' 0 149 q = m 0 149 q
theorem zrt_fr {m m' : zMm} (h1 : m' 520 132 0 = m 520 132 0) (h2 : ∀ q, m' 0 150 q = m 0 150 q) (h3 : ∀ q, m' 0 149 q = m 0 149 q) : zrt m' = zrt m ∧ zRL m' = zRL m := by
  have e : zRL m' = zRL m := by unfold zRL; rw [h1, h2]
  refine ⟨?_, e⟩
  unfold zrt
  rw [e, h1]
  exact List.map_congr_left fun i _ => h3 _
theorem zTell_of {m m4 : zMm} {j f i g : Nat} {t : List Nat} (hs : zSay (u3 m 0 138 j f) m4 t) : zTell m (u3 m4 0 146 i g) j f i g t := by
  have es := zSay_ses hs
  obtain ⟨a1, a2, a3, a4, a5⟩ := hs
  have F : zfr [(0, 138), (0, 146), (0, 149), (0, 150)] m (u3 m 0 138 j f) := zfr_u (zfr_rf _ _) (by decide)
  have z0 := zrt_fr (m := m) (m' := u3 m 0 138 j f) rfl (fun q => u3_a (by decide)) (fun q => u3_a (by decide))
  have z1 := zrt_fr (m := m4) (m' := u3 m4 0 146 i g) rfl (fun q => u3_a (by decide)) (fun q => u3_a (by decide))
  refine ⟨zfr_u (zfr_tr F a1 (fun _ q => q) (by decide)) (by decide), fun q => ?_, fun q => ?_, ?_, ?_, fun q hq => ?_, fun q hq => ?_⟩
  · rw [u3_a (by decide), a1 _ _ _ (by decide)]
    by_cases z : q = j
    · rw [if_pos z, z, u3_eq]
    · rw [if_neg z, u3_i z]
  · by_cases z : q = i
    · rw [if_pos z, z, u3_eq]
    · rw [if_neg z, u3_i z, a1 _ _ _ (by decide), u3_a (by decide)]
  · rw [z1.1, a2, z0.1]
  · rw [z1.2, a3, z0.2]
  · rw [u3_a (by decide), a4 q hq, u3_a (by decide)]
  · rw [u3_a (by decide), a5 q hq, u3_a (by decide)]
theorem zTell_say {m m4 : zMm} {j i : Nat} {t : List Nat} (hs : zSay m m4 t) : zTell m m4 j (m 0 138 j) i (m 0 146 i) t := by
  obtain ⟨a1, a2, a3, a4, a5⟩ := hs
  refine ⟨zfr_w a1 (by decide), fun q => ?_, fun q => ?_, a2, a3, a4, a5⟩
  · rw [a1 _ _ _ (by decide)]; split
    · rename_i z; rw [z]
    · rfl
  · rw [a1 _ _ _ (by decide)]; split
    · rename_i z; rw [z]
    · rfl
def zsf (sg f g : Nat) : Nat := if sg = 0 then g else if sg = 1 then f ||| g else f &&& (15 ^^^ g)
theorem zsf_and : ∀ f, f < 16 → ∀ g, g < 16 → nI f &&& (nI g ^^^ (-1)) = nI (f &&& (15 ^^^ g)) := by decide
theorem zsf_lt : ∀ f, f < 16 → ∀ g, g < 16 → f ||| g < 16 ∧ f &&& (15 ^^^ g) < 16 := by decide
theorem zsf_lt' {sg f g : Nat} (hf : f < 16) (hg : g < 16) : zsf sg f g < 16 := by
  have := zsf_lt f hf g hg
  unfold zsf; split
  · exact hg
  · split
    · exact this.1
    · exact this.2
/-- what FETCH says of a number and of a text -/
def zfu (n v : Nat) : List Nat := [42, 32] ++ zds n ++ [32] ++ [70, 69, 84, 67, 72] ++ [32] ++ zds v ++ [10]
def zfx (n : Nat) (T : List Nat) : List Nat := [42, 32] ++ zds n ++ [32] ++ [70, 69, 84, 67, 72] ++ [32] ++ T ++ [10]
section
variable {L : Nat} {xs : Nat → Int32} {h : zH} {m : zMm} {c : Nat → Nat}
theorem zmt_lt {n j : Nat} (hv : zVB m) (hj : zmt m n = some j) : j < 40 ∧ 10 * zsb m ≤ j ∧ j < 10 * zsb m + m 0 136 (zsb m) ∧ m 0 137 j = zvn m n := by
  obtain ⟨a1, a2, a3, a4, a5, a6⟩ := hv
  unfold zmt at hj
  have := zfi_some hj
  exact ⟨by omega, by omega, by omega, this.2.2⟩
theorem s133 (hx : zFx h) (hl : zLC m c) {n j sg : Nat} (hv : zVB m) (hn : 1 ≤ n ∧ n ≤ 40) (hj : zmt m n = some j) (hsg : m 530 132 0 = (if sg = 0 then 0 else if sg = 1 then 1 else 4294967295)) (hmk : m 529 132 0 < 16) (hr : zRL m < 1950) : ∃ m', zCl (zPr L xs) 133 [.ref 132, .int (nI n)] (zMH h m) = some (.inl none, zMH h m') ∧ zTell m m' j (zsf sg (m 0 138 j) (m 529 132 0)) (40 * (m 520 132 0) + n - 1) (zsf sg (m 0 138 j) (m 529 132 0)) (zft n (zsf sg (m 0 138 j) (m 529 132 0))) := by
  rw [en_133]
  have e0 := s109 (L := L) (xs := xs) hx hl hv hn
  rw [hj] at e0
  have hj40 := zmt_lt hv hj
  have hfl : m 0 138 j < 16 := (hv.2.2.2.2.1 j hj40.1).2.1
  obtain ⟨f, hf⟩ : ∃ f, f = zsf sg (m 0 138 j) (m 529 132 0) := ⟨_, rfl⟩
  rw [← hf]
  have hl1 : zLC (u3 m 0 138 j f) c := zLC_fr hl (zfr_u (l := [(0, 138)]) (zfr_rf _ _) (by decide))
  obtain ⟨m4, e4, s4⟩ := s124 (L := L) (xs := xs) hx hl1 n f hn (show zRL m < 1950 from hr)
  have es : u3 m 0 138 j f 520 132 0 = m 520 132 0 := rfl
  rw [es] at e4
  refine ⟨_, ?_, zTell_of s4⟩
  by_cases c0 : sg = 0
  · have ff : f = m 529 132 0 := hf.trans (if_pos c0)
    rw [if_pos c0] at hsg
    rw [ff] at e4 ⊢
    exact p133_0_1 hx hl e0 (by rw [hsg]; decide) e4 hj40.1
  · rw [if_neg c0] at hsg
    by_cases c1 : sg = 1
    · have ff : f = m 0 138 j ||| m 529 132 0 := hf.trans ((if_neg c0).trans (if_pos c1))
      rw [if_pos c1] at hsg
      rw [ff] at e4 ⊢
      exact p133_0_2 hx hl e0 (by rw [hsg]; decide) (by rw [hsg]; decide) e4 hj40.1
    · have ff : f = m 0 138 j &&& (15 ^^^ m 529 132 0) := hf.trans ((if_neg c0).trans (if_neg c1))
      rw [if_neg c1] at hsg
      rw [ff] at e4 ⊢
      exact p133_0_3 hx hl e0 (by rw [hsg]; decide) (by rw [hsg]; decide) (zsf_and _ hfl _ hmk) e4 hj40.1
theorem s134 (hx : zFx h) (hl : zLC m c) {n j w it N : Nat} (hv : zVB m) (hok : zMOk N m) (hN : N ≤ 9999) (hn : 1 ≤ n ∧ n ≤ 40) (hj : zmt m n = some j) (hw : zL h 533 132 0 = nL w) (hw2 : w < 18446744073709551616) (hit : zitem w = some it) (hr : zRL m < 1950) : ∃ m', zCl (zPr L xs) 134 [.ref 132, .int (nI n)] (zMH h m) = some (.inl none, zMH h m') ∧ zTell m m' j (if it = 2 ∧ m 0 143 (m 520 132 0) ≠ 0 then m 0 138 j ||| 1 else m 0 138 j) (40 * (m 520 132 0) + n - 1) (if it = 0 then m 0 138 j else m 0 146 (40 * (m 520 132 0) + n - 1)) (if it = 0 then zft n (m 0 138 j) else if it = 1 then zfu n (m 0 137 j) else zfx n (ztx m j)) := by
  rw [en_134]
  have t3 := hl.1.1
  have e0 := s109 (L := L) (xs := xs) hx hl hv hn
  rw [hj] at e0
  have hj40 := zmt_lt hv hj
  unfold zitem at hit
  by_cases w0 : w = 6846401536
  · rw [if_pos w0] at hit
    have it0 : it = 0 := by cases hit; rfl
    subst it0
    rw [if_neg (by omega), if_pos rfl, if_pos rfl]
    obtain ⟨m4, e4, s4⟩ := s124 (L := L) (xs := xs) hx hl n (m 0 138 j) hn hr
    refine ⟨_, p134_0_1 hx hl e0 hw w0 e4 hj40.1, ?_⟩
    have : u3 m 0 138 j (m 0 138 j) = m := u3_self rfl
    exact zTell_of (by rw [this]; exact s4)
  · rw [if_neg w0] at hit
    obtain ⟨m1, e1, s1⟩ := s123 (L := L) (xs := xs) hx hl n (nL 6631301120) [70, 69, 84, 67, 72] (by omega) (by omega) (fun m1 hl1 hr1 => s121_FETCH hx hl1 hr1)
    have hl1 := zSay_lc hl s1
    have l1 := zSay_len s1
    have d1 : ([42, 32] ++ zds n ++ [32] ++ [70, 69, 84, 67, 72]).length ≤ 12 := by
      have := zds_len n
      simp only [List.length_append, List.length_cons, List.length_nil]
      omega
    obtain ⟨m2, e2, s2⟩ := s119 (L := L) (xs := xs) hx hl1 32 (by omega)
    have hl2 := zSay_lc hl1 s2
    have l2 : zRL m2 = zRL m1 + 1 := zSay_len s2
    have s12 := zSay_tr s1 s2
    by_cases w1 : w = 22854762496
    · rw [if_pos w1] at hit
      have it1 : it = 1 := by cases hit; rfl
      subst it1
      rw [if_neg (by omega), if_neg (by decide), if_neg (by decide), if_pos rfl]
      have hnum := (hok.1 j hj40.1).1
      have nq : m2 0 137 j = m 0 137 j := s12.1 _ _ _ (by decide)
      obtain ⟨m3, e3, s3⟩ := s120 (L := L) (xs := xs) hx hl2 (m2 0 137 j) (by omega) (by omega)
      have hl3 := zSay_lc hl2 s3
      have l3 := zSay_len s3
      have d3 := zds_len (m2 0 137 j)
      obtain ⟨m4, e4, s4⟩ := s119 (L := L) (xs := xs) hx hl3 10 (by omega)
      refine ⟨m4, p134_0_2 hx hl e0 hw w0 e1 e2 hw w1 e3 e4 hw2 hj40.1, ?_⟩
      rw [nq] at s3
      exact zTell_say (zSay_tr (zSay_tr s12 s3) s4)
    · rw [if_neg w1] at hit
      have it2 : it = 2 := by
        split at hit
        · cases hit; rfl
        · cases hit
      subst it2
      rw [if_neg (by decide : ¬ (2 : Nat) = 0), if_neg (by decide : ¬ (2 : Nat) = 0), if_neg (by decide : ¬ (2 : Nat) = 1)]
      rw [p134_0_3 hx hl e0 hw w0 e1 e2 hw w1 hw2 hw2]
      have l6 := (hok.1 j hj40.1).2.2.1
      have loop : ∀ (f k : Nat) (m5 : zMm), zLC m5 c → f + k = m 0 139 j → m5 0 139 j = m 0 139 j → (∀ q, m5 0 140 q = m 0 140 q) → zRL m5 + f < 2030 → ∃ m6, zEv (zPr L xs) 4 134 103 [.val (.ref 132), .val (.int (nI n)), .val (.int (nI j)), .val (.int (nI k))] [] (zMH h m5) = zEv (zPr L xs) 4 134 103 [.val (.ref 132), .val (.int (nI n)), .val (.int (nI j)), .val (.int (nI (m 0 139 j)))] [] (zMH h m6) ∧ zSay m5 m6 ((List.range' k f).map fun q => m 0 140 (6 * j + q)) := by
        intro f
        induction f with
        | zero => intro k m5 hl5 hk h1 h2 hr5; rw [show k = m 0 139 j by omega]; exact ⟨m5, rfl, zSay_rf m5⟩
        | succ f ih =>
          intro k m5 hl5 hk h1 h2 hr5
          obtain ⟨m6, e6, s6⟩ := s119 (L := L) (xs := xs) hx hl5 (m5 0 140 (6 * j + k)) (by omega)
          have hl6 := zSay_lc hl5 s6
          have l6' : zRL m6 = zRL m5 + 1 := zSay_len s6
          obtain ⟨m7, e7, s7⟩ := ih (k + 1) m6 hl6 (by omega) ((s6.1 _ _ _ (by decide)).trans h1) (fun q => (s6.1 _ _ _ (by decide)).trans (h2 q)) (by omega)
          rw [h2] at s6
          exact ⟨m7, (p134_103_1 hx hl5 (by omega) e6 hj40.1 (by omega) (by omega) (by omega)).trans e7, zSay_tr s6 s7⟩
      obtain ⟨m5, e5, s5⟩ := loop (m 0 139 j) 0 m2 hl2 (by omega) (s12.1 _ _ _ (by decide)) (fun q => s12.1 _ _ _ (by decide)) (by omega)
      have s15 := zSay_tr s12 s5
      have hl5 := zSay_lc hl2 s5
      have l5 := zSay_len s15
      have es5 := zSay_ses s15
      have hw5 : m5 0 143 (m5 520 132 0) = m 0 143 (m 520 132 0) := by rw [es5]; exact s15.1 _ _ _ (by decide)
      have hw1 := (hok.2.2.2.1 _ t3).2.1
      have ln5 : m5 0 139 j = m 0 139 j := s15.1 _ _ _ (by decide)
      have fl5 : m5 0 138 j = m 0 138 j := s15.1 _ _ _ (by decide)
      have lt : ([42, 32] ++ zds n ++ [32] ++ [70, 69, 84, 67, 72] ++ [32] ++ (List.range' 0 (m 0 139 j)).map fun q => m 0 140 (6 * j + q)).length ≤ 19 := by
        have := zds_len n
        simp only [List.length_append, List.length_cons, List.length_nil, List.length_map, List.length_range']
        omega
      rw [e5]
      have fin : ∀ f', ∀ m6, zCl (zPr L xs) 119 [.ref 132, .int (nI 10)] (zMH h (u3 m5 0 138 j f')) = some (.inl none, zMH h m6) → zSay (u3 m5 0 138 j f') m6 [10] → zTell m m6 j f' (40 * (m 520 132 0) + n - 1) (m 0 146 (40 * (m 520 132 0) + n - 1)) (zfx n (ztx m j)) := by
        intro f' m6 e6 s6
        have et : zfx n (ztx m j) = ([42, 32] ++ zds n ++ [32] ++ [70, 69, 84, 67, 72] ++ [32] ++ (List.range' 0 (m 0 139 j)).map fun q => m 0 140 (6 * j + q)) ++ [10] := by
          unfold zfx ztx; rw [List.range_eq_range']
        have a := zTell_of (i := 40 * (m 520 132 0) + n - 1) (g := m6 0 146 (40 * (m 520 132 0) + n - 1)) s6
        have hself : u3 m6 0 146 (40 * (m 520 132 0) + n - 1) (m6 0 146 (40 * (m 520 132 0) + n - 1)) = m6 := u3_self rfl
        rw [hself] at a
        obtain ⟨b1, b2, b3, b4, b5, b6, b7⟩ := a
        have t6 : ∀ q, m6 0 146 q = m 0 146 q := fun q => (s6.1 _ _ _ (by decide)).trans ((u3_a (by decide)).trans (s15.1 _ _ _ (by decide)))
        refine ⟨zfr_tr (zfr_w s15.1 (by decide)) b1 (fun _ q => q) (fun _ q => q), fun q => ?_, fun q => ?_, ?_, ?_, fun q hq => ?_, fun q hq => ?_⟩
        · rw [b2]; split
          · rfl
          · exact s15.1 _ _ _ (by decide)
        · rw [t6]; split
          · rename_i z; rw [z]
          · rfl
        · rw [b4, s15.2.1, et, List.append_assoc]
        · rw [b5, l5, et, Nat.add_assoc]
          congr 1
          exact List.length_append.symm
        · rw [es5] at b6; rw [b6 q hq, s15.2.2.2.1 q hq]
        · rw [es5] at b7; rw [b7 q hq, s15.2.2.2.2 q hq]
      have l1' : ∀ f', zLC (u3 m5 0 138 j f') c := fun f' => zLC_fr hl5 (zfr_u (l := [(0, 138)]) (zfr_rf _ _) (by decide))
      by_cases cw : m 0 143 (m 520 132 0) = 0
      · rw [if_neg (fun q => q.2 cw)]
        obtain ⟨m6, e6, s6⟩ := s119 (L := L) (xs := xs) hx (l1' (m5 0 138 j)) 10 (show zRL m5 < 2048 by omega)
        refine ⟨m6, p134_103_3 hx hl5 (by omega) (by rw [hw5]; exact cw) e6 hj40.1 (by omega) (by omega) (by omega), ?_⟩
        have := fin _ m6 e6 s6
        rw [fl5] at this
        exact this
      · rw [if_pos ⟨rfl, cw⟩]
        obtain ⟨m6, e6, s6⟩ := s119 (L := L) (xs := xs) hx (l1' (m5 0 138 j ||| 1)) 10 (show zRL m5 < 2048 by omega)
        refine ⟨m6, p134_103_2 hx hl5 (by omega) (by rw [hw5]; exact cw) e6 hj40.1 (by omega) (by omega) (by omega) (by omega), ?_⟩
        have := fin _ m6 e6 s6
        rw [fl5] at this
        exact this
end
