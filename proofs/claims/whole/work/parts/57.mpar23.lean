/-! ===== the reference tells ===== -/
def ztl1 (M : List zMg) (n : Nat) (σ : List (Nat × Nat) × List Nat) : List (Nat × Nat) × List Nat := match σ.1[n - 1]? with
  | none => σ
  | some (v, t) => match zfind M v with
    | none => σ
    | some g => if g.2.1 = t then σ else (σ.1.set (n - 1) (v, g.2.1), σ.2 ++ zft n g.2.1)
def zex (n : Nat) : List Nat := [42, 32] ++ zds n ++ [32] ++ [69, 88, 73, 83, 84, 83] ++ [10]
/-- messages, whether places are kept, view, reply -/
def ztell (M : List zMg) (keeps : Bool) (V : List (Nat × Nat)) (T : List Nat) : List (Nat × Nat) × List Nat :=
  let a := if keeps then (V, []) else zgn M 1 V
  let V2 := ztk M a.1
  zov (fun _ => true) (ztl1 M) V2.length 1 (V2, T ++ a.2 ++ (if a.1.length < V2.length then zex V2.length else []))
theorem zex_len {n : Nat} : (zex n).length ≤ 20 := by
  have := zds_len n
  unfold zex
  simp only [List.length_append, List.length_cons, List.length_nil]
  omega
section
variable {L : Nat} {xs : Nat → Int32} {h : zH} {c : Nat → Nat}
theorem s144c (hx : zFx h) {N : Nat} (hN : N ≤ 9999) (M : List zMg) {w1 w2 w3 w4 : Slot} : ∀ (f n : Nat) (m : zMm) (w6 : Slot), w6 ≠ .second → zLC m c → zVB m → zMOk N m → zUp m → zbm m (zsb m) = M → f + n = znp m + 1 → 1 ≤ n → zRL m + 20 * f ≤ 1940 → ∃ m', zEv (zPr L xs) 4 144 239 [.val (.ref 132), w1, w2, w3, w4, .val (.int (nI n)), w6] [] (zMH h m) = some (.inl none, zMH h m') ∧ zKv m m' ∧ zMOk N m' ∧ (zvw m' (m 520 132 0), zrt m') = zov (fun _ => true) (ztl1 M) f n (zvw m (m 520 132 0), zrt m) ∧ zRL m' ≤ zRL m + 20 * f := by
  intro f
  induction f with
  | zero =>
    intro n m w6 hw6 hl hv hok hu hM hf h1 hr
    have h40 : znp m ≤ 40 := hv.2.2.2.1
    exact ⟨m, p144_239_2 hx hl (show znp m < n by omega) hv.1 (by omega) (show znp m < 2147483648 by omega), zKv_rf m, hok, rfl, by omega⟩
  | succ f ih =>
    intro n m w6 hw6 hl hv hok hu hM hf h1 hr
    have t3 := hv.1
    have h40 : znp m ≤ 40 := hv.2.2.2.1
    have pb : m 0 144 (m 520 132 0) < 2147483648 := by show znp m < _; omega
    have c1 : n ≤ m 0 144 (m 520 132 0) := by show n ≤ znp m; omega
    have hov : ∀ σ, zov (fun _ => true) (ztl1 M) (f + 1) n σ = zov (fun _ => true) (ztl1 M) f (n + 1) (ztl1 M n σ) := fun _ => rfl
    rw [hov]
    have at1 := zvw_at (m := m) (s := m 520 132 0) (n := n) ⟨h1, c1⟩
    have fd := zfind_mt m n
    rw [hM] at fd
    have e0 := s109 (L := L) (xs := xs) (n := n) hx hl hv (by omega)
    have skip : ztl1 M n (zvw m (m 520 132 0), zrt m) = (zvw m (m 520 132 0), zrt m) → ∀ w', w' ≠ Slot.second → zEv (zPr L xs) 4 144 239 [.val (.ref 132), w1, w2, w3, w4, .val (.int (nI n)), w6] [] (zMH h m) = zEv (zPr L xs) 4 144 306 [.val (.ref 132), w1, w2, w3, w4, .val (.int (nI n)), w'] [] (zMH h m) → ∃ m', zEv (zPr L xs) 4 144 239 [.val (.ref 132), w1, w2, w3, w4, .val (.int (nI n)), w6] [] (zMH h m) = some (.inl none, zMH h m') ∧ zKv m m' ∧ zMOk N m' ∧ (zvw m' (m 520 132 0), zrt m') = zov (fun _ => true) (ztl1 M) f (n + 1) (ztl1 M n (zvw m (m 520 132 0), zrt m)) ∧ zRL m' ≤ zRL m + 20 * (f + 1) := by
      intro hs w' hw' he
      obtain ⟨m', e', r1, r2, r3, r4⟩ := ih (n + 1) m w' hw' hl hv hok hu hM (by omega) (by omega) (by omega)
      exact ⟨m', he.trans ((p144_306_1 hx hl hw').trans e'), r1, r2, by rw [hs]; exact r3, by omega⟩
    cases hm : zmt m n with
    | none =>
      rw [hm] at e0 fd
      have fd : zfind M (m 0 145 (40 * (m 520 132 0) + n - 1)) = none := fd
      refine skip ?_ _ zsecn (p144_239_1 hx hl c1 e0 (by decide) hw6 t3 (by omega) pb)
      unfold ztl1
      dsimp only
      rw [at1]
      dsimp only
      rw [fd]
    | some j =>
      rw [hm] at e0 fd
      have lj := zmt_lt hv hm
      have oj := hok.1 j lj.1
      have ot := (hok.2.1 (40 * (m 520 132 0) + n - 1) (by omega)).2
      have fd : zfind M (m 0 145 (40 * (m 520 132 0) + n - 1)) = some (zmg m j) := fd
      have hstep : ztl1 M n (zvw m (m 520 132 0), zrt m) = if m 0 138 j = m 0 146 (40 * (m 520 132 0) + n - 1) then (zvw m (m 520 132 0), zrt m) else ((zvw m (m 520 132 0)).set (n - 1) (m 0 145 (40 * (m 520 132 0) + n - 1), m 0 138 j), zrt m ++ zft n (m 0 138 j)) := by
        unfold ztl1
        dsimp only
        rw [at1]
        dsimp only
        rw [fd]
        rfl
      by_cases e : m 0 138 j = m 0 146 (40 * (m 520 132 0) + n - 1)
      · rw [if_pos e] at hstep
        exact skip hstep _ zsecn (q144_239_2 hx hl c1 e0 e hw6 t3 (by omega) pb (by omega) lj.1 (by omega) (by omega))
      · rw [if_neg e] at hstep
        obtain ⟨m4, e4, s4⟩ := s124 (L := L) (xs := xs) hx hl n (m 0 138 j) (by omega) (by omega)
        have st := q144_239_1 (L := L) (xs := xs) (w1 := w1) (w2 := w2) (w3 := w3) (w4 := w4) hx hl c1 e0 e e4 hw6 t3 (by omega) pb (by omega) lj.1 (by omega) (by omega) (by omega) (by omega)
        have hself : u3 m 0 138 j (m 0 138 j) = m := u3_self rfl
        have tel : zTell m (u3 m4 0 146 (40 * (m 520 132 0) + n - 1) (m 0 138 j)) j (m 0 138 j) (40 * (m 520 132 0) + n - 1) (m 0 138 j) (zft n (m 0 138 j)) := zTell_of (by rw [hself]; exact s4)
        obtain ⟨-, -, r3, r4⟩ := zstep tel hv hok hu hm ⟨h1, c1⟩ oj.2.1 oj.2.1
        have h40' : ∀ s, s < 3 → m 0 144 s ≤ 40 := fun s hs => (hok.2.2.2.1 s hs).2.2.1
        have V := zTell_vw tel ⟨h1, c1⟩ h40' t3
        obtain ⟨m1, hm1⟩ : ∃ m1, m1 = u3 m4 0 146 (40 * (m 520 132 0) + n - 1) (m 0 138 j) := ⟨_, rfl⟩
        rw [← hm1] at st tel r3 r4 V
        have F1 : zfr [(0, 146), (0, 149), (0, 150)] m m1 := by rw [hm1]; exact zfr_u (zfr_w s4.1 (by decide)) (by decide)
        have F : zfr [(0, 145), (0, 146), (0, 144), (0, 149), (0, 150)] m m1 := zfr_w F1 (by decide)
        have kv : zKv m m1 := ⟨F, fun s h1 h2 => ⟨F1 _ _ _ (by decide), V.2 s h1 h2⟩, tel.2.2.2.2.2.1, tel.2.2.2.2.2.2⟩
        have es : m1 520 132 0 = m 520 132 0 := F _ _ _ (by decide)
        have sb : zsb m1 = zsb m := by unfold zsb; rw [es]; exact F _ _ _ (by decide)
        have np1 : znp m1 = znp m := by unfold znp; rw [es]; exact F1 _ _ _ (by decide)
        have lz : zRL m1 = zRL m + (zft n (m 0 138 j)).length := tel.2.2.2.2.1
        have lft := zft_len (n := n) (f := m 0 138 j)
        obtain ⟨m', e', k1, k2, k3, k4⟩ := ih (n + 1) m1 (.val (.int (nI j))) zsecn (zLC_fr hl F) (zVB_ok r3 hN (by rw [es]; exact t3) (by rw [sb]; exact hv.2.1)) r3 r4 (by rw [sb, zbm_fr F]; exact hM) (by rw [np1]; omega) (by omega) (by omega)
        rw [es, V.1, tel.2.2.2.1] at k3
        refine ⟨m', st.trans ((p144_306_1 hx (zLC_fr hl F) zsecn).trans e'), zKv_tr kv k1, k2, ?_, by omega⟩
        rw [hstep, k3]
theorem zUp_v {m m' : zMm} (hu : zUp m) (hf : zfr [(0, 145), (0, 146), (0, 144), (0, 149), (0, 150)] m m') : zUp m' := by
  intro b hb
  have o := hu b hb
  have nn : ∀ i, m' 0 137 i = m 0 137 i := fun i => hf _ _ _ (by decide)
  rw [show m' 0 136 b = m 0 136 b from hf _ _ _ (by decide), show m' 0 135 b = m 0 135 b from hf _ _ _ (by decide)]
  exact ⟨fun p q h1 h2 => by rw [nn, nn]; exact o.1 p q h1 h2, fun p h1 => by rw [nn]; exact o.2 p h1⟩
theorem s144 (hx : zFx h) {m : zMm} {k N : Nat} {u : Bool} (hN : N ≤ 9999) (hl : zLC m c) (hv : zVB m) (hok : zMOk N m) (hu : zUp m) (hui : m 525 132 0 = u.toNat) (hk : k ≤ 13) (hr : zRL m ≤ 300) : ∃ m', zCl (zPr L xs) 144 [.ref 132, .int (nI k)] (zMH h m) = some (.inl none, zMH h m') ∧ zKv m m' ∧ zMOk N m' ∧ (zvw m' (m 520 132 0), zrt m') = ztell (zbm m (zsb m)) (!u && decide (k = 10 ∨ k = 11 ∨ k = 13)) (zvw m (m 520 132 0)) (zrt m) ∧ zRL m' ≤ zRL m + 1640 := by
  have t3 := hv.1
  have h40 : znp m ≤ 40 := hv.2.2.2.1
  rw [en_144]
  have a1 : zEv (zPr L xs) 4 144 0 [.val (.ref 132), .val (.int (nI k)), .unset, .unset, .unset, .unset, .unset] [] (zMH h m) = zEv (zPr L xs) 4 144 30 [.val (.ref 132), .val (.int (nI k)), .unset, .unset, .unset, .unset, .unset] [.int (nI (!u && decide (k = 10 ∨ k = 11 ∨ k = 13)).toNat)] (zMH h m) := by
    cases hu2 : u with
    | true =>
      rw [hu2] at hui
      exact (p144_0_5 hx hl (by rw [hui]; decide) (by rw [hui]; decide)).trans (p144_29_1 hx hl)
    | false =>
      rw [hu2] at hui
      have u0 : m 525 132 0 = 0 := hui
      by_cases c1 : k = 11
      · rw [decide_eq_true (Or.inr (Or.inl c1))]; exact (p144_0_4 hx hl u0 c1).trans (p144_25_1 hx hl)
      · by_cases c2 : k = 10
        · rw [decide_eq_true (Or.inl c2)]; exact (p144_0_3 hx hl u0 c1 c2).trans (p144_25_1 hx hl)
        · by_cases c3 : k = 13
          · rw [decide_eq_true (Or.inr (Or.inr c3))]; exact (p144_0_1 hx hl u0 c1 c2 c3).trans (p144_25_1 hx hl)
          · rw [decide_eq_false (by omega)]; exact (p144_0_2 hx hl u0 c1 c2 c3).trans (p144_29_1 hx hl)
  obtain ⟨K, hK⟩ : ∃ K, K = (!u && decide (k = 10 ∨ k = 11 ∨ k = 13)) := ⟨_, rfl⟩
  rw [← hK] at a1 ⊢
  -- the view without what is gone
  have a2 : ∃ m1 w, w ≠ Slot.second ∧ zEv (zPr L xs) 4 144 30 [.val (.ref 132), .val (.int (nI k)), .unset, .unset, .unset, .unset, .unset] [.int (nI K.toNat)] (zMH h m) = zEv (zPr L xs) 4 144 39 [.val (.ref 132), .val (.int (nI k)), w, .unset, .unset, .unset, .unset] [] (zMH h m1) ∧ zKv m m1 ∧ zMOk N m1 ∧ zvw m1 (m 520 132 0) = (if K then (zvw m (m 520 132 0), []) else zgn (zbm m (zsb m)) 1 (zvw m (m 520 132 0))).1 ∧ zrt m1 = zrt m ++ (if K then (zvw m (m 520 132 0), []) else zgn (zbm m (zsb m)) 1 (zvw m (m 520 132 0))).2 ∧ zRL m1 ≤ zRL m + 800 := by
    cases K with
    | true => exact ⟨m, _, zsecn, p144_30_2 (z0 := true) hx hl rfl zsecu zsecu, zKv_rf m, hok, rfl, (List.append_nil _).symm, by omega⟩
    | false =>
      obtain ⟨m1, e1, r1, r2, r3, r4, r5⟩ := s142 (L := L) (xs := xs) hx hN hl hv hok (by omega)
      exact ⟨m1, _, zsecn, p144_30_1 (z0 := false) hx hl rfl e1 zsecu zsecu, r1, r2, r3, r4, by omega⟩
  obtain ⟨m1, w2, hw2, e2, k1, ok1, v1, t1, l1⟩ := a2
  have hl1 := zLC_fr hl k1.1
  have es1 : m1 520 132 0 = m 520 132 0 := k1.1 _ _ _ (by decide)
  have sb1 : zsb m1 = zsb m := by unfold zsb; rw [es1]; exact k1.1 _ _ _ (by decide)
  have bm1 : zbm m1 (zsb m) = zbm m (zsb m) := zbm_fr k1.1
  have e3 := p144_39_1 (L := L) (xs := xs) (w1 := .val (.int (nI k))) (w2 := w2) (w6 := .unset) hx hl1 (w3 := .unset) (w4 := .unset) (w5 := .unset) zsecu zsecu zsecu zsecu (by omega)
  have hb : m1 0 142 (m1 520 132 0) = zsb m := sb1
  rw [hb] at e3
  obtain ⟨m2, w6, hw6, e4, k2, ok2, v2, t2, l2⟩ := s144b (L := L) (xs := xs) (w1 := .val (.int (nI k))) (w2 := w2) (x4 := m1 0 144 (m1 520 132 0)) hx hN hv.2.1 (m1 0 136 (zsb m)) (10 * zsb m) m1 .unset zsecu hl1 ok1 (by omega) (Nat.le_refl _)
  have hl2 := zLC_fr hl1 k2.1
  have es2 : m2 520 132 0 = m 520 132 0 := (k2.1 _ _ _ (by decide)).trans es1
  have cb2 : m2 0 136 (zsb m) = m1 0 136 (zsb m) := k2.1 _ _ _ (by decide)
  rw [es1, ← zbm_r, bm1] at v2
  rw [v1] at v2
  have p1 : m1 0 144 (m1 520 132 0) = ((if K then (zvw m (m 520 132 0), []) else zgn (zbm m (zsb m)) 1 (zvw m (m 520 132 0))).1).length := by rw [← v1, es1]; exact zvw_len.symm
  have p2 : m2 0 144 (m2 520 132 0) = (ztk (zbm m (zsb m)) (if K then (zvw m (m 520 132 0), []) else zgn (zbm m (zsb m)) 1 (zvw m (m 520 132 0))).1).length := by rw [← v2, es2]; exact zvw_len.symm
  have ok40 := (ok2.2.2.2.1 (m2 520 132 0) (by omega)).2.2.1
  have okc := (ok2.2.2.1 (zsb m) hv.2.1).2.1
  have okp1 := (ok1.2.2.2.1 (m1 520 132 0) (by omega)).2.2.1
  have sb4 : zsb m < 4 := hv.2.1
  -- EXISTS
  have a5 : ∃ m3, zEv (zPr L xs) 4 144 66 [.val (.ref 132), .val (.int (nI k)), w2, .val (.int (nI (zsb m))), .val (.int (nI (m1 0 144 (m1 520 132 0)))), .val (.int (nI (10 * zsb m + m1 0 136 (zsb m)))), w6] [] (zMH h m2) = zEv (zPr L xs) 4 144 236 [.val (.ref 132), .val (.int (nI k)), w2, .val (.int (nI (zsb m))), .val (.int (nI (m1 0 144 (m1 520 132 0)))), .val (.int (nI (10 * zsb m + m1 0 136 (zsb m)))), w6] [] (zMH h m3) ∧ zSay m2 m3 (if m1 0 144 (m1 520 132 0) < m2 0 144 (m2 520 132 0) then zex (m2 0 144 (m2 520 132 0)) else []) := by
    by_cases q : m1 0 144 (m1 520 132 0) < m2 0 144 (m2 520 132 0)
    · rw [if_pos q]
      obtain ⟨mA, eA, sA⟩ := s123 (L := L) (xs := xs) hx hl2 (m2 0 144 (m2 520 132 0)) (nL 6184096352) [69, 88, 73, 83, 84, 83] (by omega) (by omega) (fun m1 hl1 hr1 => s121_EXISTS hx hl1 hr1)
      have dA : ([42, 32] ++ zds (m2 0 144 (m2 520 132 0)) ++ [32] ++ [69, 88, 73, 83, 84, 83]).length ≤ 13 := by
        have := zds_len (m2 0 144 (m2 520 132 0))
        simp only [List.length_append, List.length_cons, List.length_nil]
        omega
      have lA := zSay_len sA
      obtain ⟨mB, eB, sB⟩ := s119 (L := L) (xs := xs) hx (zSay_lc hl2 sA) 10 (by omega)
      exact ⟨mB, p144_66_4 hx hl2 (by omega) q eA eB hv.2.1 (by omega) (by omega) (by omega) (by omega) (by omega), zSay_tr sA sB⟩
    · rw [if_neg q]
      exact ⟨m2, p144_66_5 hx hl2 (by omega) (by omega) hv.2.1 (by omega) (by omega) (by omega) (by omega) (by omega), zSay_rf m2⟩
  obtain ⟨m3, e5, s5⟩ := a5
  have hl3 := zSay_lc hl2 s5
  have k3 := zKv_say s5
  have es3 : m3 520 132 0 = m 520 132 0 := (k3.1 _ _ _ (by decide)).trans es2
  have k123 := zKv_tr (zKv_tr k1 k2) k3
  have sb3 : zsb m3 = zsb m := by unfold zsb; rw [es3]; exact k123.1 _ _ _ (by decide)
  have v3 : zvw m3 (m 520 132 0) = zvw m2 (m 520 132 0) := zvw_e (s5.1 _ _ _ (by decide)) fun i _ => ⟨s5.1 _ _ _ (by decide), s5.1 _ _ _ (by decide)⟩
  have p3 : znp m3 = m2 0 144 (m2 520 132 0) := by unfold znp; rw [es3, es2]; exact s5.1 _ _ _ (by decide)
  have ok3 : zMOk N m3 := zMOk_v ok2 k3.1 (fun q hq => by rw [show m3 0 145 q = m2 0 145 q from s5.1 _ _ _ (by decide), show m3 0 146 q = m2 0 146 q from s5.1 _ _ _ (by decide)]; exact ok2.2.1 q hq) (fun s hs => by rw [show m3 0 144 s = m2 0 144 s from s5.1 _ _ _ (by decide)]; exact (ok2.2.2.2.1 s hs).2.2.1)
  have l5 : zRL m3 ≤ zRL m2 + 20 := by
    rw [zSay_len s5]
    have : (if m1 0 144 (m1 520 132 0) < m2 0 144 (m2 520 132 0) then zex (m2 0 144 (m2 520 132 0)) else []).length ≤ 20 := by
      split
      · exact zex_len
      · exact Nat.zero_le _
    omega
  have e6 := p144_236_1 (L := L) (xs := xs) (w1 := .val (.int (nI k))) (w2 := w2) (w3 := .val (.int (nI (zsb m)))) (w4 := .val (.int (nI (m1 0 144 (m1 520 132 0))))) (w5 := .val (.int (nI (10 * zsb m + m1 0 136 (zsb m))))) (w6 := w6) hx hl3 zsecn hw6
  obtain ⟨m4, e7, k4, ok4, r4, l4⟩ := s144c (L := L) (xs := xs) hx hN (zbm m (zsb m)) (w1 := .val (.int (nI k))) (w2 := w2) (w3 := .val (.int (nI (zsb m)))) (w4 := .val (.int (nI (m1 0 144 (m1 520 132 0))))) (znp m3) 1 m3 w6 hw6 hl3 (zVB_ok ok3 hN (by omega) (by rw [sb3]; exact hv.2.1)) ok3 (zUp_v hu k123.1) (by rw [sb3]; exact zbm_fr k123.1) rfl (Nat.le_refl _) (by omega)
  rw [es3, v3, v2, s5.2.1, t2, t1, p3, p1, p2] at r4
  refine ⟨m4, a1.trans (e2.trans (e3.trans (e4.trans (e5.trans (e6.trans e7))))), zKv_tr k123 k4, ok4, r4, by omega⟩
end
