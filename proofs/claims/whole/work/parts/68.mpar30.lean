/-! ===== type, connect and what is asked of the reference ===== -/
section
variable {L : Nat} {xs : Nat → Int32} {h : zH} {c : Nat → Nat}
/-- the bytes of four from place k on -/
def zbf (q : Int32) : Nat → Nat → List Nat
  | 0, _ => []
  | f + 1, k => zbt q k :: zbf q f (k + 1)
theorem zbt_l {q : Int32} {k : Nat} : zbt q k < 2147483648 := by have := zbt_lt q k; omega
theorem zbt_0 {q : Int32} {k : Nat} (hk : k < 4) : (q >>> (nI (8 * k) &&& 31)) &&& nI 255 = 0 ↔ zbt q k = 0 := by
  rw [zbt_a q hk]
  show nI _ = nI 0 ↔ _
  exact zi_inj zbt_l (by decide)
theorem s145l (hx : zFx h) {s : Nat} {q : Int32} : ∀ (f k n : Nat) (mo : Bool) (m : zMm) (w6 : Slot), w6 ≠ .second → f + k = 4 → n ≤ k → ∃ m' w', w' ≠ Slot.second ∧ zEv (zPr L xs) 1 145 46 [.val (.ref 132), .val (.int (nI s)), .val (.int q), .val (.int (nI n)), .val (.int (nI mo.toNat)), .val (.int (nI k)), w6] [] (zMH h m) = zEv (zPr L xs) 1 145 46 [.val (.ref 132), .val (.int (nI s)), .val (.int q), .val (.int (nI (ztf (zbf q f k) (n, mo, m 500 132 0)).1)), .val (.int (nI (ztf (zbf q f k) (n, mo, m 500 132 0)).2.1.toNat)), .val (.int (nI 4)), w'] [] (zMH h m') ∧ zfr [(500, 132)] m m' ∧ m' 500 132 0 = (ztf (zbf q f k) (n, mo, m 500 132 0)).2.2 ∧ (ztf (zbf q f k) (n, mo, m 500 132 0)).1 ≤ 4 := by
  intro f
  induction f with
  | zero =>
    intro k n mo m w6 hw6 hf hn
    have hk : k = 4 := by omega
    rw [hk] at hn ⊢
    exact ⟨m, w6, hw6, rfl, zfr_rf _ _, rfl, hn⟩
  | succ f ih =>
    intro k n mo m w6 hw6 hf hn
    have k4 : k < 4 := by omega
    have z0 := zbt_0 (q := q) k4
    have za := zbt_a q k4
    have zl := zbt_lt q k
    obtain ⟨mo', hmo'⟩ : ∃ b, b = (mo && decide (zbt q k ≠ 0)) := ⟨_, rfl⟩
    obtain ⟨th, hth⟩ : ∃ t, t = (if mo' = true ∧ zbad (zbt q k) = true then 3 else m 500 132 0) := ⟨_, rfl⟩
    obtain ⟨n', hn'⟩ : ∃ t, t = (if mo' = true then n + 1 else n) := ⟨_, rfl⟩
    have hst : ztf (zbf q (f + 1) k) (n, mo, m 500 132 0) = ztf (zbf q f (k + 1)) (n', mo', th) := by
      rw [hn', hth, hmo']
      rfl
    obtain ⟨m1, hm1⟩ : ∃ m1, m1 = u3 m 500 132 0 th := ⟨_, rfl⟩
    have F : zfr [(500, 132)] m m1 := by rw [hm1]; exact zfr_u (zfr_rf _ _) (by decide)
    have t1 : m1 500 132 0 = th := by rw [hm1]; exact u3_eq _ _ _ _ _
    -- to 80
    have a1 : ∃ w4, w4 ≠ Slot.second ∧ zEv (zPr L xs) 1 145 46 [.val (.ref 132), .val (.int (nI s)), .val (.int q), .val (.int (nI n)), .val (.int (nI mo.toNat)), .val (.int (nI k)), w6] [] (zMH h m) = zEv (zPr L xs) 1 145 80 [.val (.ref 132), .val (.int (nI s)), .val (.int q), .val (.int (nI n)), w4, .val (.int (nI k)), .val (.int (nI (zbt q k)))] [.int (nI mo'.toNat)] (zMH h m) := by
      rw [hmo', ← za]
      cases hmo : mo with
      | false => exact ⟨_, zsecn, (p145_46_3 (x4 := false) hx k4 rfl hw6).trans (p145_79_1 hx)⟩
      | true =>
        by_cases hz : zbt q k = 0
        · rw [decide_eq_false (fun g => g hz)]
          exact ⟨_, zsecn, (p145_46_2 (x4 := true) hx k4 rfl (z0.2 hz) hw6).trans (p145_79_1 hx)⟩
        · rw [decide_eq_true hz]
          exact ⟨_, zsecn, p145_46_1 (x4 := true) hx k4 rfl (fun g => hz (z0.1 g)) hw6⟩
    obtain ⟨w4, hw4, a1⟩ := a1
    -- to 110
    have a2 : zEv (zPr L xs) 1 145 80 [.val (.ref 132), .val (.int (nI s)), .val (.int q), .val (.int (nI n)), w4, .val (.int (nI k)), .val (.int (nI (zbt q k)))] [.int (nI mo'.toNat)] (zMH h m) = zEv (zPr L xs) 1 145 110 [.val (.ref 132), .val (.int (nI s)), .val (.int q), .val (.int (nI n)), .val (.int (nI mo'.toNat)), .val (.int (nI k)), .val (.int (nI (zbt q k)))] [.int (nI th), .ref 132] (zMH h m) := by
      rw [hth]
      cases hmo : mo' with
      | false =>
        rw [if_neg (fun g => Bool.noConfusion g.1)]
        exact (p145_80_4 (z0 := false) hx rfl hw4).trans (p145_106_1 (x4 := false) hx)
      | true =>
        by_cases c1 : zbt q k < 32
        · rw [if_pos ⟨rfl, by unfold zbad; exact decide_eq_true (Or.inl c1)⟩]
          exact (p145_80_3 (z0 := true) hx rfl (by rw [zi_lt zbt_l (by decide)]; exact c1) hw4).trans (p145_102_1 (x4 := true) hx)
        · by_cases c2 : zbt q k ≤ 126
          · rw [if_neg (fun g => by have := g.2; unfold zbad at this; have := of_decide_eq_true this; omega)]
            exact (p145_80_2 (z0 := true) hx rfl (by rw [zi_lt zbt_l (by decide)]; exact c1) (by rw [zi_le zbt_l (by decide)]; exact c2) hw4).trans (p145_106_1 (x4 := true) hx)
          · rw [if_pos ⟨rfl, by unfold zbad; exact decide_eq_true (Or.inr (by omega))⟩]
            exact (p145_80_1 (z0 := true) hx rfl (by rw [zi_lt zbt_l (by decide)]; exact c1) (by rw [zi_le zbt_l (by decide)]; exact c2) hw4).trans (p145_102_1 (x4 := true) hx)
    have a3 : zEv (zPr L xs) 1 145 110 [.val (.ref 132), .val (.int (nI s)), .val (.int q), .val (.int (nI n)), .val (.int (nI mo'.toNat)), .val (.int (nI k)), .val (.int (nI (zbt q k)))] [.int (nI th), .ref 132] (zMH h m) = zEv (zPr L xs) 1 145 46 [.val (.ref 132), .val (.int (nI s)), .val (.int q), .val (.int (nI n')), .val (.int (nI mo'.toNat)), .val (.int (nI (k + 1))), .val (.int (nI (zbt q k)))] [] (zMH h m1) := by
      rw [hn', hm1]
      cases hmo : mo' with
      | false =>
        rw [if_neg Bool.noConfusion]
        exact (p145_110_2 (x4 := false) hx rfl).trans (p145_125_1 hx)
      | true =>
        rw [if_pos rfl]
        exact (p145_110_1 (x4 := true) hx rfl).trans (p145_125_1 hx)
    have nl : n' ≤ k + 1 := by rw [hn']; split <;> omega
    obtain ⟨m', w', hw', e', f', r1, r2⟩ := ih (k + 1) n' mo' m1 _ (zsecn (v := .int (nI (zbt q k)))) (by omega) nl
    rw [t1] at e' r1 r2
    rw [hst]
    exact ⟨m', w', hw', a1.trans (a2.trans (a3.trans e')), zfr_tr F f' (by decide) (by decide), r1, r2⟩
/-- the bytes are written to the line -/
theorem s145w (hx : zFx h) {s : Nat} {q : Int32} (hs : s < 3) {w4 : Slot} : ∀ (f k : Nat) (m : zMm) (w6 : Slot), w6 ≠ .second → f + k ≤ 4 → m 0 148 s + f ≤ 48 → ∃ m', zEv (zPr L xs) 1 145 157 [.val (.ref 132), .val (.int (nI s)), .val (.int q), .val (.int (nI (f + k))), w4, .val (.int (nI k)), w6] [] (zMH h m) = some (.inl (some (.int (nI 1))), zMH h m') ∧ zfr [(0, 147), (0, 148)] m m' ∧ zln m' s = zln m s ++ zbf q f k ∧ (∀ s', s' ≠ s → m' 0 148 s' = m 0 148 s') ∧ ∀ j, j / 48 ≠ s → m' 0 147 j = m 0 147 j := by
  intro f
  induction f with
  | zero =>
    intro k m w6 hw6 hf hn
    rw [Nat.zero_add]
    exact ⟨m, p145_157_2 hx (Nat.le_refl _), zfr_rf _ _, (List.append_nil _).symm, fun _ _ => rfl, fun _ _ => rfl⟩
  | succ f ih =>
    intro k m w6 hw6 hf hn
    have st := p145_157_1 (L := L) (xs := xs) (m := m) (x1 := s) (x2 := q) (x3 := f + 1 + k) (w4 := w4) (x5 := k) (w6 := w6) (x4 := zbt q k) hx (by omega) (zbt_a q (by omega)) hw6 (by omega) (by omega) hs (by omega)
    obtain ⟨m1, hm1⟩ : ∃ m1, m1 = u3 (u3 m 0 147 (48 * s + m 0 148 s) (zbt q k)) 0 148 s (m 0 148 s + 1) := ⟨_, rfl⟩
    rw [← hm1] at st
    have F : zfr [(0, 147), (0, 148)] m m1 := by rw [hm1]; exact zfr_u (zfr_u (zfr_rf _ _) (by decide)) (by decide)
    have l1 : ∀ j, m1 0 147 j = if j = 48 * s + m 0 148 s then zbt q k else m 0 147 j := fun j => by rw [hm1, u3_a (by decide), u3_at]
    have l2 : ∀ j, m1 0 148 j = if j = s then m 0 148 s + 1 else m 0 148 j := fun j => by rw [hm1, u3_at]; rfl
    have l3 : m1 0 148 s = m 0 148 s + 1 := by rw [l2, if_pos rfl]
    obtain ⟨m', e', f', r1, r2, r3⟩ := ih (k + 1) m1 w6 hw6 (by omega) (by omega)
    rw [show f + (k + 1) = f + 1 + k by omega] at e'
    have ln : zln m1 s = zln m s ++ [zbt q k] := by
      unfold zln
      rw [l3, List.range_succ, List.map_append]
      congr 1
      · refine List.map_congr_left fun i hi => ?_
        have := List.mem_range.1 hi
        show m1 0 147 (48 * s + i) = m 0 147 (48 * s + i)
        rw [l1, if_neg (by omega)]
      · show [m1 0 147 (48 * s + m 0 148 s)] = _
        rw [l1, if_pos rfl]
    refine ⟨m', st.trans e', zfr_tr F f' (by decide) (by decide), ?_, fun s' hq => (r2 s' hq).trans (by rw [l2, if_neg hq]), fun j hq => (r3 j hq).trans (by rw [l1, if_neg (by omega)])⟩
    rw [r1, ln, List.append_assoc]
    rfl
theorem zss_q {m m' : zMm} {s : Nat} (h1 : m' 0 141 s = m 0 141 s) (h2 : m' 0 142 s = m 0 142 s) (h3 : m' 0 143 s = m 0 143 s) (h4 : zvw m' s = zvw m s) (h5 : zrp m' s = zrp m s) (h6 : zln m' s = zln m s) : zss m' s = zss m s := by
  unfold zss zsq
  rw [h1, h2, h3, h4, h5, h6]
theorem zln_d {m m' : zMm} {s s0 : Nat} (hs : s ≠ s0) (hr : m 0 148 s ≤ 48) (h1 : ∀ q, q ≠ s0 → m' 0 148 q = m 0 148 q) (h2 : ∀ q, q / 48 ≠ s0 → m' 0 147 q = m 0 147 q) : zln m' s = zln m s := by
  unfold zln
  rw [h1 s hs]
  refine List.map_congr_left fun i hi => ?_
  have := List.mem_range.1 hi
  exact h2 _ (by omega)
theorem zAI_keep {K : Nat} {A A' : zAS} (hB : A'.1 = A.1) (hC : A'.2.2 = A.2.2) (hS : ∀ s, zaV A' s = zaV A s ∧ zaQ A' s = zaQ A s) (h : zAI K A) : zAI K A' := by
  obtain ⟨h1, h2, h3⟩ := h
  refine ⟨fun b hb => by rw [hB]; exact h1 b hb, fun s hs => ?_, by rw [hC]; exact h3⟩
  rw [(hS s).1, (hS s).2, hB]
  exact h2 s hs
theorem zaC_S (A : zAS) (s : Nat) (S : zSs) (s' : Nat) : zaC (zsS A s S) s' = if s' = s then S.1 else zaC A s' := apply_ite (fun x : zSs => x.1) (s' = s) S (A.2.1 s')
theorem zaQ_S (A : zAS) (s : Nat) (S : zSs) (s' : Nat) : zaQ (zsS A s S) s' = if s' = s then S.2.1 else zaQ A s' := apply_ite (fun x : zSs => x.2.1) (s' = s) S (A.2.1 s')
theorem zaV_S (A : zAS) (s : Nat) (S : zSs) (s' : Nat) : zaV (zsS A s S) s' = if s' = s then S.2.2.1 else zaV A s' := apply_ite (fun x : zSs => x.2.2.1) (s' = s) S (A.2.1 s')
theorem zaT_S (A : zAS) (s : Nat) (S : zSs) (s' : Nat) : zaT (zsS A s S) s' = if s' = s then S.2.2.2.1 else zaT A s' := apply_ite (fun x : zSs => x.2.2.2.1) (s' = s) S (A.2.1 s')
theorem zaL_S (A : zAS) (s : Nat) (S : zSs) (s' : Nat) : zaL (zsS A s S) s' = if s' = s then S.2.2.2.2 else zaL A s' := apply_ite (fun x : zSs => x.2.2.2.2) (s' = s) S (A.2.1 s')
/-- only the line of one session is another -/
theorem zRI_ln {l : List (Nat × Nat)} {K : Nat} {A : zAS} {B0 m m' : zMm} {s : Nat} {ln : List Nat} (hI : zRI B0 K A m) (hs : s < 3) (hF : zfr l m m') (hs' : m' 520 132 0 < 3) (h1 : zln m' s = ln) (h2 : ∀ s', s' ≠ s → m' 0 148 s' = m 0 148 s') (h3 : ∀ j, j / 48 ≠ s → m' 0 147 j = m 0 147 j) (hl : ln.length ≤ 48) (hc : ∀ x ∈ ln, x < 127) (g0 : ∀ q ∈ l, q ≠ (0, 141) ∧ q ≠ (0, 142) ∧ q ≠ (0, 143) ∧ q ≠ (0, 144) ∧ q ≠ (0, 145) ∧ q ≠ (0, 146) := by decide) (g1 : ∀ q ∈ l, q ≠ (0, 133) ∧ q ≠ (0, 134) ∧ q ≠ (0, 135) ∧ q ≠ (0, 136) ∧ q ≠ (0, 137) ∧ q ≠ (0, 138) ∧ q ≠ (0, 139) ∧ q ≠ (0, 140) := by decide) (g2 : ∀ q ∈ l, q ≠ (509, 132) := by decide) (g3 : ∀ q ∈ l, q ≠ (0, 149) ∧ q ≠ (0, 150) := by decide) (g4 : ∀ q ∈ l, 132 ≤ q.2 := by decide) : zRI B0 K (zsS A s (zaC A s, zaQ A s, zaV A s, zaT A s, ln)) m' := by
  obtain ⟨ok, hA, hi, h3s, hL⟩ := hI
  have S := zRb_s hA hs
  have e1 : ∀ i, m' 0 141 i = m 0 141 i := fun i => hF _ _ _ fun q => (g0 _ q).1 rfl
  have e2 : ∀ i, m' 0 142 i = m 0 142 i := fun i => hF _ _ _ fun q => (g0 _ q).2.1 rfl
  have e3 : ∀ i, m' 0 143 i = m 0 143 i := fun i => hF _ _ _ fun q => (g0 _ q).2.2.1 rfl
  have e4 : ∀ s, zvw m' s = zvw m s := fun s => zvw_e (hF _ _ _ fun q => (g0 _ q).2.2.2.1 rfl) fun i _ => ⟨hF _ _ _ fun q => (g0 _ q).2.2.2.2.1 rfl, hF _ _ _ fun q => (g0 _ q).2.2.2.2.2 rfl⟩
  have e5 : ∀ s, zrp m' s = zrp m s := fun s => zrp_o (hF _ _ _ fun q => (g3 _ q).2 rfl) fun i _ => hF _ _ _ fun q => (g3 _ q).1 rfl
  refine ⟨zMOk_nil ok hF g0 g1 g2, zRb_S hA (fun s' hs' q => zss_q (e1 s') (e2 s') (e3 s') (e4 s') (e5 s') ?_) (fun _ => ?_) (fun b _ => zbx_fr hF b g1) (hF _ _ _ fun q => g2 _ q rfl), zAI_keep (A := A) rfl rfl (fun s' => ?_) hi, ⟨hs', zLw_fr h3s.2 hF g4⟩, fun s' hs' => ?_⟩
  · refine zln_d q ?_ h2 h3
    have := (hL s' hs').2.1
    rw [← (zRb_s hA hs').2.2.2.2, zln_len] at this
    exact this
  · have e2' : zsq m' s = zsq m s := by unfold zsq; rw [e2, e3]
    unfold zss
    rw [e1, e2', e4, e5, h1, S.1, S.2.1, S.2.2.1, S.2.2.2.1]
  · rw [zaV_S, zaQ_S]
    by_cases q : s' = s
    · rw [if_pos q, if_pos q, q]; exact ⟨rfl, rfl⟩
    · rw [if_neg q, if_neg q]; exact ⟨rfl, rfl⟩
  · have o := hL s' hs'
    rw [zaT_S, zaL_S, zaC_S, zaQ_S]
    by_cases q : s' = s
    · rw [if_pos q, if_pos q, if_pos q, if_pos q]
      rw [q] at o
      exact ⟨o.1, hl, hc, o.2.2.2⟩
    · rw [if_neg q, if_neg q, if_neg q, if_neg q]
      exact o
/-- nothing but what is thrown is another -/
theorem zRI_th {K : Nat} {A : zAS} {B0 m m' : zMm} (hI : zRI B0 K A m) (hF : zfr [(500, 132)] m m') : zRI B0 K A m' := ⟨zMOk_nil hI.1 hF, zRb_nil hI.2.1 hF, hI.2.2.1, ⟨by rw [show m' 520 132 0 = m 520 132 0 from hF _ _ _ (by decide)]; exact hI.2.2.2.1.1, zLw_fr hI.2.2.2.1.2 hF⟩, hI.2.2.2.2⟩
theorem zfr_th {m : zMm} {x : Nat} : zfr [(500, 132)] m (u3 m 500 132 0 x) := zfr_u (zfr_rf _ _) (by decide)
theorem zRI_th' {K : Nat} {A : zAS} {B0 m : zMm} {x : Nat} (hI : zRI B0 K A m) : zRI B0 K A (u3 m 500 132 0 x) := zRI_th hI zfr_th
theorem s145 (hx : zFx h) {B0 m : zMm} {A : zAS} {K : Nat} (hI : zRI B0 K A m) (p q : Int32) : ∃ m', zCl (zPr L xs) 145 [.ref 132, .int p, .int q] (zMH h m) = some (.inl (some (.int (nI (zaTy A p q).2.1.toNat))), zMH h m') ∧ zRI B0 K (zaTy A p q).2.2 m' ∧ m' 500 132 0 = (zaTy A p q).1 := by
  have e88 := s88 (L := L) (xs := xs) hx (m := m) p
  rw [en_145]
  unfold zaTy
  rcases zsn_c p with ⟨e, -⟩ | ⟨s, s3, ep, e⟩
  · rw [e] at e88 ⊢
    exact ⟨_, (r145_0_1 hx (y1 := false) e88 rfl).trans (r145_26_1 hx (by decide)), zRI_th' hI, u3_eq _ _ _ _ _⟩
  rw [ep] at e88 ⊢
  rw [ep] at e
  rw [e] at e88 ⊢
  dsimp only
  have S := zRb_s hI.2.1 s3
  have cb : m 0 141 s < 2147483648 := by have := (hI.1.2.2.2.1 s s3).1; omega
  by_cases c1 : m 0 141 s = 0
  · have : zaC A s = false := by rw [← S.1, c1]; rfl
    rw [if_pos this]
    exact ⟨_, (p145_0_2 hx (y1 := true) e88 rfl c1).trans (p145_26_1 hx (by decide)), zRI_th' hI, u3_eq _ _ _ _ _⟩
  have hC : zaC A s = true := by rw [← S.1]; exact decide_eq_true c1
  rw [if_neg (by rw [hC]; exact Bool.noConfusion)]
  obtain ⟨m0, hm0⟩ : ∃ m0, m0 = u3 m 500 132 0 0 := ⟨_, rfl⟩
  have F0 : zfr [(500, 132)] m m0 := by rw [hm0]; exact zfr_th
  have t0 : m0 500 132 0 = 0 := by rw [hm0]; exact u3_eq _ _ _ _ _
  have a0 : zEv (zPr L xs) 1 145 0 [.val (.ref 132), .val (.int (nI s)), .val (.int q), .unset, .unset, .unset, .unset] [] (zMH h m) = zEv (zPr L xs) 1 145 46 [.val (.ref 132), .val (.int (nI s)), .val (.int q), .val (.int (nI 0)), .val (.int (nI true.toNat)), .val (.int (nI 0)), .unset] [] (zMH h m0) := by
    rw [hm0]
    exact (p145_0_3 hx (y1 := true) e88 rfl c1).trans (p145_26_2 hx rfl zsecu zsecu zsecu zsecu)
  obtain ⟨m1, w6, hw6, a1, F1, t1, nl⟩ := s145l (L := L) (xs := xs) (s := s) (q := q) hx 4 0 0 true m0 .unset zsecu rfl (Nat.le_refl _)
  rw [t0] at a1 t1 nl
  have F01 : zfr [(500, 132)] m m1 := zfr_tr F0 F1 (by decide) (by decide)
  have zf := ztf_t (zbf q 4 0) 0 0
  have zb : (zbf q 4 0).takeWhile (fun b => decide (b ≠ 0)) = zby q := rfl
  rw [zb, Nat.zero_add] at zf
  rw [zf.1] at a1 nl
  rw [zf.2] at t1
  have ll : m 0 148 s = (zaL A s).length := by rw [← S.2.2.2.2]; exact zln_len.symm
  have l1 : m1 0 148 s = m 0 148 s := F01 _ _ _ (by decide)
  have L48 := hI.2.2.2.2 s s3
  by_cases c2 : (zby q).any zbad = true
  · rw [if_pos c2] at t1 ⊢
    exact ⟨m1, a0.trans (a1.trans ((p145_46_6 hx (Nat.le_refl 4) (by omega) (by decide) (by omega)).trans (p145_152_1 hx))), zRI_th hI F01, t1⟩
  rw [if_neg c2] at t1 ⊢
  by_cases c3 : 48 < (zaL A s).length + (zby q).length
  · rw [if_pos c3]
    exact ⟨m1, a0.trans (a1.trans ((p145_46_4 hx (Nat.le_refl 4) t1 (by omega) (by decide) s3 (by omega)).trans (p145_152_1 hx))), zRI_th hI F01, t1⟩
  rw [if_neg c3]
  have st := p145_46_5 (L := L) (xs := xs) (m := m1) (x1 := s) (x2 := q) (x3 := (zby q).length) (x4 := (ztf (zbf q 4 0) (0, true, 0)).2.1) (w6 := w6) hx (Nat.le_refl 4) t1 (by omega) hw6 (by decide) s3 (by omega)
  obtain ⟨m2, a2, F2, r1, r2, r3⟩ := s145w (L := L) (xs := xs) (s := s) (q := q) hx s3 (w4 := .val (.int (nI (ztf (zbf q 4 0) (0, true, 0)).2.1.toNat))) (zby q).length 0 m1 w6 hw6 (by omega) (by omega)
  have tk : ∀ (f k : Nat) (l : List Nat), (∃ r, zbf q f k = l ++ r) → zbf q l.length k = l := by
    intro f
    induction f with
    | zero =>
      intro k l hl
      obtain ⟨r, hr⟩ := hl
      have : l = [] := by
        cases l with
        | nil => rfl
        | cons a b =>
          have hr : ([] : List Nat) = a :: (b ++ r) := hr
          cases hr
      rw [this]
      rfl
    | succ f ih =>
      intro k l hl
      obtain ⟨r, hr⟩ := hl
      cases l with
      | nil => rfl
      | cons a b =>
        have hr : zbt q k :: zbf q f (k + 1) = a :: (b ++ r) := hr
        have h1 := List.cons.inj hr
        show zbt q k :: zbf q b.length (k + 1) = a :: b
        rw [ih (k + 1) b ⟨r, h1.2⟩, h1.1]
  have zz : zbf q (zby q).length 0 = zby q := tk 4 0 _ ⟨(zbf q 4 0).dropWhile (fun b => decide (b ≠ 0)), by rw [← zb, List.takeWhile_append_dropWhile]⟩
  rw [zz] at r1
  have ln1 : zln m1 s = zaL A s := by rw [← S.2.2.2.2]; exact zln_fr (fun i => F01 _ _ _ (by decide)) (fun i => F01 _ _ _ (by decide)) s
  rw [ln1] at r1
  refine ⟨m2, a0.trans (a1.trans (st.trans a2)), zRI_ln (l := [(500, 132), (0, 147), (0, 148)]) hI s3 (zfr_tr F01 F2 (by decide) (by decide)) (by rw [show m2 520 132 0 = m 520 132 0 from (F2 _ _ _ (by decide)).trans (F01 _ _ _ (by decide))]; exact hI.2.2.2.1.1) r1 (fun s' hq => (r2 s' hq).trans (F01 _ _ _ (by decide))) (fun j hq => (r3 j hq).trans (F01 _ _ _ (by decide))) (by rw [List.length_append]; omega) (fun x hm => ?_), (F2 _ _ _ (by decide)).trans t1⟩
  rcases List.mem_append.1 hm with hm | hm
  · exact L48.2.2.1 x hm
  · have : zbad x = false := by
      cases g : zbad x with
      | false => rfl
      | true => exact absurd (List.any_eq_true.2 ⟨x, hm, g⟩) c2
    unfold zbad at this
    have := of_decide_eq_false this
    omega
end
