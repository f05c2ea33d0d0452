/-! ===== the reference drops places that are gone ===== -/
def zxp (n : Nat) : List Nat := [42, 32] ++ zds n ++ [32] ++ [69, 88, 80, 85, 78, 71, 69] ++ [10]
/-- the view without what is gone, and what is said of it -/
def zgn (M : List zMg) : Nat → List (Nat × Nat) → List (Nat × Nat) × List Nat
  | _, [] => ([], [])
  | n, v :: V => match zfind M v.1 with
    | some _ => (v :: (zgn M (n + 1) V).1, (zgn M (n + 1) V).2)
    | none => ((zgn M n V).1, zxp n ++ (zgn M n V).2)
/-- all but the own view and the own reply is as it was -/
def zKv (m m' : zMm) : Prop := zfr [(0, 145), (0, 146), (0, 144), (0, 149), (0, 150)] m m' ∧ (∀ s, s < 3 → s ≠ m 520 132 0 → m' 0 144 s = m 0 144 s ∧ zvw m' s = zvw m s) ∧ (∀ q, q ≠ m 520 132 0 → m' 0 150 q = m 0 150 q) ∧ ∀ q, q / 2048 ≠ m 520 132 0 → m' 0 149 q = m 0 149 q
theorem zKv_rf (m : zMm) : zKv m m := ⟨zfr_rf _ _, fun _ _ _ => ⟨rfl, rfl⟩, fun _ _ => rfl, fun _ _ => rfl⟩
theorem zKv_tr {m m1 m2 : zMm} (a : zKv m m1) (b : zKv m1 m2) : zKv m m2 := by
  have e1 : m1 520 132 0 = m 520 132 0 := a.1 _ _ _ (by decide)
  obtain ⟨b1, b2, b3, b4⟩ := b
  rw [e1] at b2 b3 b4
  exact ⟨zfr_tr a.1 b1 (fun _ q => q) (fun _ q => q), fun s h1 h2 => ⟨(b2 s h1 h2).1.trans (a.2.1 s h1 h2).1, (b2 s h1 h2).2.trans (a.2.1 s h1 h2).2⟩, fun q h => (b3 q h).trans (a.2.2.1 q h), fun q h => (b4 q h).trans (a.2.2.2 q h)⟩
theorem zvw_e {m m' : zMm} {s : Nat} (hp : m' 0 144 s = m 0 144 s) (h : ∀ i, i < m 0 144 s → m' 0 145 (40 * s + i) = m 0 145 (40 * s + i) ∧ m' 0 146 (40 * s + i) = m 0 146 (40 * s + i)) : zvw m' s = zvw m s := by
  unfold zvw
  rw [hp]
  exact List.map_congr_left fun i hi => by
    have hi := List.mem_range.mp hi
    rw [(h i hi).1, (h i hi).2]
theorem zKv_say {m m' : zMm} {t : List Nat} (h : zSay m m' t) : zKv m m' := ⟨zfr_w h.1 (by decide), fun s _ _ => ⟨h.1 _ _ _ (by decide), zvw_e (h.1 _ _ _ (by decide)) fun i _ => ⟨h.1 _ _ _ (by decide), h.1 _ _ _ (by decide)⟩⟩, h.2.2.2.1, h.2.2.2.2⟩
theorem zvw_get {m : zMm} {s q : Nat} : (zvw m s)[q]? = if q < m 0 144 s then some (m 0 145 (40 * s + q), m 0 146 (40 * s + q)) else none := by
  unfold zvw
  rw [List.getElem?_map]
  by_cases h : q < m 0 144 s
  · rw [if_pos h, List.getElem?_range h]; rfl
  · rw [if_neg h, List.getElem?_eq_none (by rw [List.length_range]; omega)]; rfl
theorem zvw_len {m : zMm} {s : Nat} : (zvw m s).length = m 0 144 s := by unfold zvw; rw [List.length_map, List.length_range]
theorem zbm_fr {m m' : zMm} {b : Nat} (hf : zfr [(0, 145), (0, 146), (0, 144), (0, 149), (0, 150)] m m') : zbm m' b = zbm m b := by
  unfold zbm
  rw [show m' 0 136 b = m 0 136 b from hf _ _ _ (by decide)]
  refine List.map_congr_left fun i _ => ?_
  unfold zmg ztx
  rw [show m' 0 137 (10 * b + i) = m 0 137 (10 * b + i) from hf _ _ _ (by decide), show m' 0 138 (10 * b + i) = m 0 138 (10 * b + i) from hf _ _ _ (by decide), show m' 0 139 (10 * b + i) = m 0 139 (10 * b + i) from hf _ _ _ (by decide)]
  congr 2
  exact List.map_congr_left fun k _ => hf _ _ _ (by decide)
/-- bounds when only views and replies change -/
theorem zMOk_v {m m' : zMm} {N : Nat} (hok : zMOk N m) (hf : zfr [(0, 145), (0, 146), (0, 144), (0, 149), (0, 150)] m m') (hv : ∀ k, k < 120 → m' 0 145 k < N ∧ m' 0 146 k < 16) (hp : ∀ s, s < 3 → m' 0 144 s ≤ 40) : zMOk N m' := by
  refine ⟨fun i hi => ?_, hv, fun b hb => ?_, fun s hs => ?_, ?_⟩
  · have o := hok.1 i hi
    rw [show m' 0 137 i = m 0 137 i from hf _ _ _ (by decide), show m' 0 138 i = m 0 138 i from hf _ _ _ (by decide), show m' 0 139 i = m 0 139 i from hf _ _ _ (by decide)]
    exact ⟨o.1, o.2.1, o.2.2.1, fun k hk => by rw [show m' 0 140 (6 * i + k) = m 0 140 (6 * i + k) from hf _ _ _ (by decide)]; exact o.2.2.2 k hk⟩
  · rw [show m' 0 133 b = m 0 133 b from hf _ _ _ (by decide), show m' 0 136 b = m 0 136 b from hf _ _ _ (by decide), show m' 0 135 b = m 0 135 b from hf _ _ _ (by decide), show m' 0 134 b = m 0 134 b from hf _ _ _ (by decide)]
    exact hok.2.2.1 b hb
  · have o := hok.2.2.2.1 s hs
    rw [show m' 0 141 s = m 0 141 s from hf _ _ _ (by decide), show m' 0 143 s = m 0 143 s from hf _ _ _ (by decide), show m' 0 142 s = m 0 142 s from hf _ _ _ (by decide)]
    exact ⟨o.1, o.2.1, hp s hs, o.2.2.2⟩
  · rw [show m' 509 132 0 = m 509 132 0 from hf _ _ _ (by decide)]; exact hok.2.2.2.2
theorem zxp_len {n : Nat} : (zxp n).length ≤ 20 := by
  have := zds_len n
  unfold zxp
  simp only [List.length_append, List.length_cons, List.length_nil]
  omega
section
variable {L : Nat} {xs : Nat → Int32} {h : zH} {c : Nat → Nat}
theorem s142s (hx : zFx h) {n : Nat} : ∀ (f k : Nat) (m1 : zMm), zLC m1 c → k + f = m1 0 144 (m1 520 132 0) → m1 0 144 (m1 520 132 0) ≤ 40 → 1 ≤ k → ∃ m2, zEv (zPr L xs) 3 142 59 [.val (.ref 132), .val (.int (nI n)), .val (.int (nI k))] [] (zMH h m1) = zEv (zPr L xs) 3 142 59 [.val (.ref 132), .val (.int (nI n)), .val (.int (nI (m1 0 144 (m1 520 132 0))))] [] (zMH h m2) ∧ zfr [(0, 145), (0, 146)] m1 m2 ∧ (∀ q, m2 0 145 q = if 40 * (m1 520 132 0) + k - 1 ≤ q ∧ q < 40 * (m1 520 132 0) + m1 0 144 (m1 520 132 0) - 1 then m1 0 145 (q + 1) else m1 0 145 q) ∧ ∀ q, m2 0 146 q = if 40 * (m1 520 132 0) + k - 1 ≤ q ∧ q < 40 * (m1 520 132 0) + m1 0 144 (m1 520 132 0) - 1 then m1 0 146 (q + 1) else m1 0 146 q := by
  intro f
  induction f with
  | zero =>
    intro k m1 hl hk h40 h1
    rw [show k = m1 0 144 (m1 520 132 0) by omega]
    exact ⟨m1, rfl, zfr_rf _ _, fun q => by rw [if_neg (by omega)], fun q => by rw [if_neg (by omega)]⟩
  | succ f ih =>
    intro k m1 hl hk h40 h1
    have t3 := hl.1.1
    have st := p142_59_1 (L := L) (xs := xs) (x1 := n) (x2 := k) hx hl (by omega) t3 (by omega) (by omega) (by omega) (by omega) (by omega)
    let mA : zMm := u3 (u3 m1 0 145 (40 * (m1 520 132 0) + k - 1) (m1 0 145 (40 * (m1 520 132 0) + k))) 0 146 (40 * (m1 520 132 0) + k - 1) (m1 0 146 (40 * (m1 520 132 0) + k))
    have FA : zfr [(0, 145), (0, 146)] m1 mA := zfr_u (zfr_u (zfr_rf _ _) (by decide)) (by decide)
    have eA : mA 0 144 (mA 520 132 0) = m1 0 144 (m1 520 132 0) := rfl
    obtain ⟨m2, e, f2, g1, g2⟩ := ih (k + 1) mA (zLC_fr hl FA) (by rw [eA]; omega) (by rw [eA]; exact h40) (by omega)
    have sA : mA 520 132 0 = m1 520 132 0 := rfl
    rw [eA, sA] at g1 g2
    rw [eA] at e
    refine ⟨m2, st.trans e, zfr_tr FA f2 (fun _ q => q) (fun _ q => q), fun q => ?_, fun q => ?_⟩
    · have vA : ∀ q, mA 0 145 q = if q = 40 * (m1 520 132 0) + k - 1 then m1 0 145 (40 * (m1 520 132 0) + k) else m1 0 145 q := fun q => by
        show u3 (u3 m1 0 145 (40 * (m1 520 132 0) + k - 1) (m1 0 145 (40 * (m1 520 132 0) + k))) 0 146 (40 * (m1 520 132 0) + k - 1) (m1 0 146 (40 * (m1 520 132 0) + k)) 0 145 q = _
        rw [u3_a (by decide)]
        by_cases y : q = 40 * (m1 520 132 0) + k - 1
        · rw [if_pos y, y, u3_eq]
        · rw [if_neg y, u3_i y]
      rw [g1, vA, vA]
      by_cases z : q = 40 * (m1 520 132 0) + k - 1
      · rw [if_neg (by omega), if_pos z, if_pos (by omega), z, show 40 * (m1 520 132 0) + k - 1 + 1 = 40 * (m1 520 132 0) + k by omega]
      · by_cases y : 40 * (m1 520 132 0) + (k + 1) - 1 ≤ q ∧ q < 40 * (m1 520 132 0) + m1 0 144 (m1 520 132 0) - 1
        · rw [if_pos y, if_neg (by omega), if_pos (by omega)]
        · rw [if_neg y, if_neg z, if_neg (by omega)]
    · have vA : ∀ q, mA 0 146 q = if q = 40 * (m1 520 132 0) + k - 1 then m1 0 146 (40 * (m1 520 132 0) + k) else m1 0 146 q := fun q => by
        show u3 (u3 m1 0 145 (40 * (m1 520 132 0) + k - 1) (m1 0 145 (40 * (m1 520 132 0) + k))) 0 146 (40 * (m1 520 132 0) + k - 1) (m1 0 146 (40 * (m1 520 132 0) + k)) 0 146 q = _
        by_cases y : q = 40 * (m1 520 132 0) + k - 1
        · rw [if_pos y, y, u3_eq]
        · rw [if_neg y, u3_i y, u3_a (by decide)]
      rw [g2, vA, vA]
      by_cases z : q = 40 * (m1 520 132 0) + k - 1
      · rw [if_neg (by omega), if_pos z, if_pos (by omega), z, show 40 * (m1 520 132 0) + k - 1 + 1 = 40 * (m1 520 132 0) + k by omega]
      · by_cases y : 40 * (m1 520 132 0) + (k + 1) - 1 ≤ q ∧ q < 40 * (m1 520 132 0) + m1 0 144 (m1 520 132 0) - 1
        · rw [if_pos y, if_neg (by omega), if_pos (by omega)]
        · rw [if_neg y, if_neg z, if_neg (by omega)]
theorem s142l (hx : zFx h) {N : Nat} (hN : N ≤ 9999) (M : List zMg) : ∀ (R : List (Nat × Nat)) (n : Nat) (m : zMm) (K : List (Nat × Nat)) (w2 : Slot), w2 ≠ .second → zLC m c → zVB m → zMOk N m → zbm m (zsb m) = M → zvw m (m 520 132 0) = K ++ R → K.length + 1 = n → zRL m + 20 * R.length ≤ 1980 → ∃ m', zEv (zPr L xs) 3 142 2 [.val (.ref 132), .val (.int (nI n)), w2] [] (zMH h m) = some (.inl none, zMH h m') ∧ zKv m m' ∧ zMOk N m' ∧ zvw m' (m 520 132 0) = K ++ (zgn M n R).1 ∧ zrt m' = zrt m ++ (zgn M n R).2 ∧ zRL m' ≤ zRL m + 20 * R.length := by
  intro R
  induction R with
  | nil =>
    intro n m K w2 hw2 hl hv hok hM hV hK hr
    have lp : m 0 144 (m 520 132 0) = K.length := by rw [← zvw_len (m := m) (s := m 520 132 0), hV, List.append_nil]
    have h40 : m 0 144 (m 520 132 0) ≤ 40 := hv.2.2.2.1
    exact ⟨m, p142_2_3 hx hl (by omega) hv.1 (by omega) (by omega), zKv_rf m, hok, hV, (List.append_nil _).symm, by omega⟩
  | cons v R ih =>
    intro n m K w2 hw2 hl hv hok hM hV hK hr
    have lp : m 0 144 (m 520 132 0) = K.length + (R.length + 1) := by rw [← zvw_len (m := m) (s := m 520 132 0), hV, List.length_append]; rfl
    have h40 : m 0 144 (m 520 132 0) ≤ 40 := hv.2.2.2.1
    have lr : (v :: R).length = R.length + 1 := rfl
    rw [lr] at hr ⊢
    have at1 : (zvw m (m 520 132 0))[n - 1]? = some v := by
      rw [hV, List.getElem?_append_right (by omega), show n - 1 - K.length = 0 by omega]; rfl
    have at2 := zvw_at (m := m) (s := m 520 132 0) (n := n) (by omega)
    rw [at2] at at1
    have v1 : zvn m n = v.1 := congrArg Prod.fst (Option.some.inj at1)
    have fd := zfind_mt m n
    rw [hM, v1] at fd
    have e0 := s109 (L := L) (xs := xs) (n := n) hx hl hv (by omega)
    cases hm : zmt m n with
    | some j =>
      rw [hm] at e0 fd
      have lj := zmt_lt hv hm
      have fd : zfind M v.1 = some (zmg m j) := fd
      obtain ⟨m', e', r1, r2, r3, r4, r5⟩ := ih (n + 1) m (K ++ [v]) w2 hw2 hl hv hok hM (by rw [hV, List.append_assoc]; rfl) (by rw [List.length_append]; show K.length + 1 + 1 = n + 1; omega) (by omega)
      have hz : zgn M n (v :: R) = (v :: (zgn M (n + 1) R).1, (zgn M (n + 1) R).2) := by
        conv => lhs; unfold zgn
        rw [fd]
      rw [hz]
      refine ⟨m', (p142_2_1 hx hl (by omega) e0 (zi_nneg (by omega)) hw2 hv.1 (by omega) (by omega)).trans e', r1, r2, ?_, r4, by omega⟩
      rw [r3, List.append_assoc]; rfl
    | none =>
      rw [hm] at e0 fd
      have fd : zfind M v.1 = none := fd
      have hz : zgn M n (v :: R) = ((zgn M n R).1, zxp n ++ (zgn M n R).2) := by
        conv => lhs; unfold zgn
        rw [fd]
      rw [hz]
      obtain ⟨m1, e1, s1⟩ := s123 (L := L) (xs := xs) hx hl n (nL 6191495397) [69, 88, 80, 85, 78, 71, 69] (by omega) (by omega) (fun m1 hl1 hr1 => s121_EXPUNGE hx hl1 hr1)
      have hl1 := zSay_lc hl s1
      have l1 := zSay_len s1
      have d1 : ([42, 32] ++ zds n ++ [32] ++ [69, 88, 80, 85, 78, 71, 69]).length ≤ 14 := by
        have := zds_len n
        simp only [List.length_append, List.length_cons, List.length_nil]
        omega
      obtain ⟨m2, e2, s2⟩ := s119 (L := L) (xs := xs) hx hl1 10 (by omega)
      have s12 : zSay m m2 (zxp n) := zSay_tr s1 s2
      have hl2 := zSay_lc hl s12
      have l2 := zSay_len s12
      have dx := zxp_len (n := n)
      have es2 := zSay_ses s12
      have pl2 : m2 0 144 (m2 520 132 0) = m 0 144 (m 520 132 0) := by rw [es2]; exact s12.1 _ _ _ (by decide)
      obtain ⟨m3, e3, f3, g1, g2⟩ := s142s (L := L) (xs := xs) (n := n) hx (m2 0 144 (m2 520 132 0) - n) n m2 hl2 (by omega) (by omega) (by omega)
      have hl3 := zLC_fr hl2 f3
      have es3 : m3 520 132 0 = m 520 132 0 := (f3 _ _ _ (by decide)).trans es2
      have pl3 : m3 0 144 (m3 520 132 0) = m 0 144 (m 520 132 0) := by rw [es3, ← pl2, es2]; exact f3 _ _ _ (by decide)
      rw [pl2] at e3
      have e4 := p142_59_2 (L := L) (xs := xs) (x1 := n) (x2 := m 0 144 (m 520 132 0)) hx hl3 (by omega) (by rw [es3]; exact hv.1) (by omega) (by omega) (by omega)
      rw [pl3, es3] at e4
      have p12 : m2 0 144 (m 520 132 0) = m 0 144 (m 520 132 0) := s12.1 _ _ _ (by decide)
      have v12 : ∀ q, m2 0 145 q = m 0 145 q := fun q => s12.1 _ _ _ (by decide)
      have o12 : ∀ q, m2 0 146 q = m 0 146 q := fun q => s12.1 _ _ _ (by decide)
      rw [es2, p12] at g1 g2
      let m4 : zMm := u3 m3 0 144 (m 520 132 0) (m 0 144 (m 520 132 0) - 1)
      have F4 : zfr [(0, 145), (0, 146), (0, 144), (0, 149), (0, 150)] m m4 := zfr_u (zfr_tr (zfr_w s12.1 (by decide)) f3 (fun _ q => q) (by decide)) (by decide)
      have vw4 : ∀ q, m4 0 145 q = if 40 * (m 520 132 0) + n - 1 ≤ q ∧ q < 40 * (m 520 132 0) + m 0 144 (m 520 132 0) - 1 then m 0 145 (q + 1) else m 0 145 q := fun q => by
        show u3 m3 0 144 (m 520 132 0) (m 0 144 (m 520 132 0) - 1) 0 145 q = _
        rw [u3_a (by decide), g1, v12, v12]
      have to4 : ∀ q, m4 0 146 q = if 40 * (m 520 132 0) + n - 1 ≤ q ∧ q < 40 * (m 520 132 0) + m 0 144 (m 520 132 0) - 1 then m 0 146 (q + 1) else m 0 146 q := fun q => by
        show u3 m3 0 144 (m 520 132 0) (m 0 144 (m 520 132 0) - 1) 0 146 q = _
        rw [u3_a (by decide), g2, o12, o12]
      have pl4 : ∀ s, m4 0 144 s = if s = m 520 132 0 then m 0 144 (m 520 132 0) - 1 else m 0 144 s := fun s => by
        show u3 m3 0 144 (m 520 132 0) (m 0 144 (m 520 132 0) - 1) 0 144 s = _
        by_cases y : s = m 520 132 0
        · rw [if_pos y, y, u3_eq]
        · rw [if_neg y, u3_i y, f3 _ _ _ (by decide), s12.1 _ _ _ (by decide)]
      have t3 := hv.1
      have ok4 : zMOk N m4 := zMOk_v hok F4 (fun k hk => by
        rw [vw4, to4]
        split
        · exact hok.2.1 (k + 1) (by omega)
        · exact hok.2.1 k hk) (fun s hs => by
        rw [pl4]; split
        · omega
        · exact (hok.2.2.2.1 s hs).2.2.1)
      have es4 : m4 520 132 0 = m 520 132 0 := es3
      have sb4 : zsb m4 = zsb m := by unfold zsb; rw [es4]; exact F4 _ _ _ (by decide)
      have V4 : zvw m4 (m4 520 132 0) = K ++ R := by
        apply List.ext_getElem?
        intro q
        have old : ∀ q, (K ++ v :: R)[q]? = if q < m 0 144 (m 520 132 0) then some (m 0 145 (40 * (m 520 132 0) + q), m 0 146 (40 * (m 520 132 0) + q)) else none := fun q => by rw [← hV]; exact zvw_get
        rw [zvw_get, es4, pl4, if_pos rfl, vw4, to4]
        by_cases y : q < K.length
        · have o := old q
          rw [List.getElem?_append_left y, if_pos (by omega)] at o
          rw [List.getElem?_append_left y, o, if_pos (by omega), if_neg (by omega), if_neg (by omega)]
        · have o := old (q + 1)
          rw [List.getElem?_append_right (by omega), show q + 1 - K.length = (q - K.length) + 1 by omega, List.getElem?_cons_succ] at o
          rw [List.getElem?_append_right (by omega), o]
          by_cases z : q < m 0 144 (m 520 132 0) - 1
          · rw [if_pos z, if_pos (by omega), if_pos (by omega), if_pos (by omega)]; rfl
          · rw [if_neg z, if_neg (by omega)]
      have z4 := zrt_fr (m := m2) (m' := m4) (es4.trans es2.symm) (fun q => (u3_a (by decide)).trans (f3 _ _ _ (by decide))) (fun q => (u3_a (by decide)).trans (f3 _ _ _ (by decide)))
      have KV : zKv m m4 := by
        have k2 := zKv_say s12
        refine ⟨F4, fun s hs hne => ?_, fun q hq => ?_, fun q hq => ?_⟩
        · have p4 : m4 0 144 s = m 0 144 s := by rw [pl4, if_neg hne]
          have p40 := (hok.2.2.2.1 s hs).2.2.1
          refine ⟨p4, zvw_e p4 fun i hi => ?_⟩
          rw [vw4, to4, if_neg (by omega), if_neg (by omega)]
          exact ⟨rfl, rfl⟩
        · exact ((u3_a (by decide)).trans (f3 _ _ _ (by decide))).trans (s12.2.2.2.1 q hq)
        · exact ((u3_a (by decide)).trans (f3 _ _ _ (by decide))).trans (s12.2.2.2.2 q hq)
      obtain ⟨m', e', r1, r2, r3, r4, r5⟩ := ih n m4 K (.val (.int (nI (m 0 144 (m 520 132 0))))) zsecn (zLC_fr hl F4) (zVB_ok ok4 hN (by rw [es4]; exact t3) (by rw [sb4]; exact hv.2.1)) ok4 (by rw [sb4, zbm_fr F4]; exact hM) V4 hK (by rw [z4.2]; omega)
      rw [z4.2] at r5
      rw [z4.1, s12.2.1] at r4
      rw [es4] at r3
      refine ⟨m', ((p142_2_2 hx hl (by omega) e0 (by decide) e1 e2 hw2 hv.1 (by omega) (by omega)).trans (e3.trans e4)).trans e', zKv_tr KV r1, r2, r3, by rw [r4, List.append_assoc], by omega⟩
end
