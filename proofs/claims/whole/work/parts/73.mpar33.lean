/-! ===== the reference enters a line ===== -/
theorem zsS_2 (A : zAS) (s : Nat) (S S' : zSs) : zsS (zsS A s S) s S' = zsS A s S' := by
  unfold zsS
  congr 2
  funext j
  show (if j = s then S' else if j = s then S else A.2.1 j) = if j = s then S' else A.2.1 j
  split <;> rfl
theorem zsn_some {p : Int32} {s : Nat} (h : zsn p = some s) : s < 3 := by
  unfold zsn at h
  split at h
  · cases h; decide
  · split at h
    · cases h; decide
    · split at h
      · cases h; decide
      · cases h
theorem zAR_fr {h : zH} {l : List (Nat × Nat)} {m m' : zMm} {c : Nat → Nat} {E : zEnv} {u : Bool} {k : Nat} {a : zArg} (ha : zAR h m c E u k a) (hf : zfr l m m') (h0 : ∀ q ∈ l, q ≠ (526, 132) ∧ q ≠ (529, 132) ∧ q ≠ (530, 132) ∧ q ≠ (531, 132) ∧ q ≠ (532, 132) ∧ q ≠ (527, 132) ∧ q ≠ (528, 132) ∧ q ≠ (534, 132) ∧ q ≠ (523, 132) ∧ q ≠ (522, 132) ∧ q ≠ (0, 148) ∧ q ≠ (520, 132) := by decide) : zAR h m' c E u k a := by
  have e1 : m' 526 132 0 = m 526 132 0 := hf _ _ _ fun q => (h0 _ q).1 rfl
  have e2 : m' 529 132 0 = m 529 132 0 := hf _ _ _ fun q => (h0 _ q).2.1 rfl
  have e3 : m' 530 132 0 = m 530 132 0 := hf _ _ _ fun q => (h0 _ q).2.2.1 rfl
  have e4 : m' 531 132 0 = m 531 132 0 := hf _ _ _ fun q => (h0 _ q).2.2.2.1 rfl
  have e5 : m' 532 132 0 = m 532 132 0 := hf _ _ _ fun q => (h0 _ q).2.2.2.2.1 rfl
  have e6 : m' 527 132 0 = m 527 132 0 := hf _ _ _ fun q => (h0 _ q).2.2.2.2.2.1 rfl
  have e7 : m' 528 132 0 = m 528 132 0 := hf _ _ _ fun q => (h0 _ q).2.2.2.2.2.2.1 rfl
  have e8 : m' 534 132 0 = m 534 132 0 := hf _ _ _ fun q => (h0 _ q).2.2.2.2.2.2.2.1 rfl
  have e9 : m' 523 132 0 = m 523 132 0 := hf _ _ _ fun q => (h0 _ q).2.2.2.2.2.2.2.2.1 rfl
  have e10 : m' 522 132 0 = m 522 132 0 := hf _ _ _ fun q => (h0 _ q).2.2.2.2.2.2.2.2.2.1 rfl
  have e11 : ∀ i, m' 0 148 i = m 0 148 i := fun i => hf _ _ _ fun q => (h0 _ q).2.2.2.2.2.2.2.2.2.2.1 rfl
  have e12 : m' 520 132 0 = m 520 132 0 := hf _ _ _ fun q => (h0 _ q).2.2.2.2.2.2.2.2.2.2.2 rfl
  unfold zAR
  rw [e1, e2, e3, e4, e5, e6, e7, e8, e9, e10, e11, e12]
  exact ha
section
variable {L : Nat} {xs : Nat → Int32} {h : zH}
/-- what stands behind a command, of the own session and of the others -/
theorem zRI_end {K : Nat} {A A' : zAS} {B0 m m' : zMm} {s : Nat} {T : List Nat} (hI : zRI B0 K A m) (hi : zAI (K + 1) A') (hO : zOw A A' s) (hC : zaC A s = true) (hT : zTk 1024 T) (ok : zMOk 1000 m') (hB : zRb m' (zfin A' s T)) (hs : m' 520 132 0 < 3) (hw : zLw B0 m') : zRI B0 (K + 1) (zfin A' s T) m' := by
  refine ⟨ok, hB, zAI_keep (A := A') rfl rfl (fun s' => ?_) hi, ⟨hs, hw⟩, fun s' h3 => ?_⟩
  · unfold zfin
    rw [zaV_S, zaQ_S]
    by_cases q : s' = s
    · rw [if_pos q, if_pos q, q]; exact ⟨rfl, rfl⟩
    · rw [if_neg q, if_neg q]; exact ⟨rfl, rfl⟩
  · unfold zfin
    rw [zaT_S, zaL_S, zaC_S, zaQ_S]
    by_cases q : s' = s
    · rw [if_pos q, if_pos q, if_pos q, if_pos q]
      refine ⟨hT.1, Nat.zero_le _, (by intro x hx; cases hx), fun z => ?_, hT.2⟩
      rcases hO.2.2 with e | e
      · have z : zaC A' s = false := z
        rw [e, hC] at z
        cases z
      · exact e
    · rw [if_neg q, if_neg q, if_neg q, if_neg q]
      have o := hI.2.2.2.2 s' h3
      have e := hO.1 s' q
      unfold zaT zaL zaC zaQ at o ⊢
      rw [e]
      exact o
theorem zTk_tag {c : Nat → Nat} (hc : ∀ q, c q < 127) {t : Nat} (ht : t ≤ 2) (ok : Bool) : zTk 5 ((List.range t).map c ++ zokt ok) := zTk_ap (a := 2) (b := 3) ⟨by rw [List.length_map, List.length_range]; exact ht, fun x hx => by
  obtain ⟨q, -, e⟩ := List.mem_map.1 hx
  rw [← e]; exact hc q⟩ (by cases ok <;> exact zTk_l rfl)
theorem zrf_T {A : zAS} {s k : Nat} {T : List Nat} {a : zArg} : zrf (zaVT A s (zaV A s) T) s k a = zrf A s k a := by
  have hQ : ∀ s', zaQ (zaVT A s (zaV A s) T) s' = zaQ A s' := fun s' => by
    unfold zaVT
    rw [zaQ_S]
    by_cases q : s' = s
    · rw [if_pos q, q]
    · rw [if_neg q]
  have hV : zaV (zaVT A s (zaV A s) T) s = zaV A s := by
    unfold zaVT
    rw [zaV_S, if_pos rfl]
  unfold zrf zaN
  simp only [hQ, hV]
  rfl
theorem zfin_T {A : zAS} {s : Nat} {X T : List Nat} : zfin (zaVT A s (zaV A s) X) s T = zfin A s T := by
  unfold zfin zaVT
  rw [zaC_S, if_pos rfl, zaQ_S, if_pos rfl, zaV_S, if_pos rfl, zsS_2]
theorem s146 (hx : zFx h) {B0 m : zMm} {A : zAS} {K : Nat} (hK : K ≤ 63) (hI : zRI B0 K A m) (p : Int32) : ∃ h' m', zCl (zPr L xs) 146 [.ref 132, .int p] (zMH h m) = some (.inl (some (.int (nI (zcE A p).2.1))), zMH h' m') ∧ zhL h h' ∧ zRI B0 (K + 1) (zcE A p).2.2 m' ∧ m' 500 132 0 = (zcE A p).1 := by
  have e88 := s88 (L := L) (xs := xs) hx (m := m) p
  have wk : ∀ m', zRI B0 K A m' → zRI B0 (K + 1) A m' := fun m' q => ⟨q.1, q.2.1, zAI_w q.2.2.1 (by omega), q.2.2.2⟩
  rw [en_146]
  unfold zcE
  rcases zsn_c p with ⟨e, -⟩ | ⟨s, s3, ep, e⟩
  · rw [e] at e88 ⊢
    exact ⟨h, _, (r146_0_1 hx (y1 := false) e88 rfl).trans (r146_26_1 hx (by decide)), Or.inl rfl, wk _ (zRI_th' hI), u3_eq _ _ _ _ _⟩
  rw [ep] at e88 ⊢
  rw [ep] at e
  rw [e] at e88 ⊢
  dsimp only
  have S := zRb_s hI.2.1 s3
  have cb : m 0 141 s < 2147483648 := by have := (hI.1.2.2.2.1 s s3).1; omega
  by_cases c1 : m 0 141 s = 0
  · have : zaC A s = false := by rw [← S.1, c1]; rfl
    rw [if_pos this]
    exact ⟨h, _, (p146_0_2 hx (y1 := true) e88 rfl c1).trans (p146_26_1 hx (by decide)), Or.inl rfl, wk _ (zRI_th' hI), u3_eq _ _ _ _ _⟩
  have hC : zaC A s = true := by rw [← S.1]; exact decide_eq_true c1
  rw [if_neg (by rw [hC]; exact Bool.noConfusion)]
  have a0 := p146_0_3 (L := L) (xs := xs) hx (y1 := true) e88 rfl c1 s3 cb
  -- the session is set
  obtain ⟨m1, hm1⟩ : ∃ m1, m1 = u3 (u3 m 500 132 0 0) 520 132 0 s := ⟨_, rfl⟩
  have F1 : zfr [(500, 132), (520, 132)] m m1 := by rw [hm1]; exact zfr_u (zfr_u (zfr_rf _ _) (by decide)) (by decide)
  have es1 : m1 520 132 0 = s := by rw [hm1]; exact u3_eq _ _ _ _ _
  have t1 : m1 500 132 0 = 0 := by rw [hm1, u3_g (by decide)]; exact u3_eq _ _ _ _ _
  obtain ⟨ok, hA, hi, h3s, hL⟩ := id hI
  have ok1 : zMOk 1000 m1 := zMOk_nil ok F1
  have A1 : zRb m1 A := zRb_nil hA F1
  have I1 : zRI B0 K A m1 := ⟨ok1, A1, hi, ⟨by rw [es1]; exact s3, zLw_fr h3s.2 F1⟩, hL⟩
  have hl1 := zRI_lc I1
  rw [es1] at hl1
  have hch : ∀ q, zacl A s q < 127 := hl1.2.2.2
  obtain ⟨c, hc⟩ : ∃ c, c = zacl A s := ⟨_, rfl⟩
  rw [← hc] at hl1 hch ⊢
  have pl1 : znp m1 ≤ 40 := (ok1.2.2.2.1 _ (by omega)).2.2.1
  obtain ⟨h', m2, k, e118, zh, F2, rd⟩ := s118 (L := L) (xs := xs) hx hl1 pl1
  have hx' := zhL_fx hx zh
  have ll : m1 0 148 (m1 520 132 0) = (zaL A s).length := by rw [es1, ← (zRb_s A1 s3).2.2.2.2]; exact zln_len.symm
  have nV : zaQ A s = none → zaV A s = [] := fun q => by
    have := (hi.2.1 s s3).2.2
    rw [q] at this
    exact this
  have hE := zE_of (c := c) ok1 A1 (by omega) (by rw [es1]; exact nV)
  rw [es1] at hE
  have cg := zread_cg (c := c) hE (zaL A s).length
  rw [ll] at rd
  have es2 : m2 520 132 0 = s := (F2 _ _ _ (by decide)).trans es1
  have ok2 : zMOk 1000 m2 := zMOk_nil ok1 F2
  have A2 : zRb m2 A := zRb_nil A1 F2
  have hl2 : zLC m2 c := zLC_fr hl1 F2
  rw [hm1] at e118
  rcases cg with ⟨g1, g2⟩ | ⟨k', u, t, a, a', g1, g2, g3⟩
  · -- no command
    rw [g1] at rd
    rw [g2]
    have rd : k = 0 := rd
    have st := p146_26_2 (L := L) (xs := xs) (m := m) (x1 := s) (w2 := .unset) (w3 := .unset) (w4 := .unset) (z0 := 0) hx rfl e118 hx' rd zsecu zsecu (by omega)
    refine ⟨h', _, a0.trans st, zh, ?_, u3_eq _ _ _ _ _⟩
    show zRI B0 (K + 1) (zfin A s (zaT A s)) _
    obtain ⟨m3, hm3⟩ : ∃ m3, m3 = u3 (u3 m2 0 148 (m2 520 132 0) 0) 500 132 0 3 := ⟨_, rfl⟩
    rw [← hm3]
    rw [es2] at hm3
    have F3 : zfr [(0, 148), (500, 132)] m2 m3 := by rw [hm3]; exact zfr_u (zfr_u (zfr_rf _ _) (by decide)) (by decide)
    have l3 : ∀ j, m3 0 148 j = if j = s then 0 else m2 0 148 j := fun j => by rw [hm3, u3_g (by decide), u3_at]
    have W := (zRI_ln (l := (500, 132) :: (520, 132) :: (0, 148) :: zfQ) (m' := m3) (ln := []) hI s3 (zfr_tr (zfr_tr (l := (500, 132) :: (520, 132) :: (0, 148) :: zfQ) F1 F2 (by decide) (by decide)) F3 (by decide) (by decide)) (by rw [show m3 520 132 0 = m2 520 132 0 from F3 _ _ _ (by decide), es2]; exact s3) (List.eq_nil_of_length_eq_zero (by rw [zln_len, l3, if_pos rfl])) (fun s' q => by rw [l3, if_neg q]; exact (F2 _ _ _ (by decide)).trans (F1 _ _ _ (by decide))) (fun j _ => (F3 _ _ _ (by decide)).trans ((F2 _ _ _ (by decide)).trans (F1 _ _ _ (by decide)))) (Nat.zero_le _) (by intro x hx; cases hx))
    exact ⟨W.1, W.2.1, zAI_w W.2.2.1 (by omega), W.2.2.2⟩
  -- a command
  rw [g1] at rd
  rw [g2]
  obtain ⟨rk, k1, k13, -, rt, t2, ru, rb, rar⟩ := rd
  rw [rk] at e118
  rw [← (zenv_fr (c := c) F2).1] at rar
  have t2s : m2 520 132 0 < 3 := by omega
  have RF := zrfm_A ok2 A2 hi t2s ⟨k1, k13⟩ (a := a) (k := k') rar.1
  rw [es2] at RF
  have cgr := zrf_cg (A := A) (s := s) (k := k') g3
  have O2 := ok2.2.2.2.1 (m2 520 132 0) t2s
  have e129 := s129 (L := L) (xs := xs) hx' hl2 ⟨k1, k13⟩ ru (fun s' h3 => (ok2.2.2.2.1 s' h3).2.2.2) (fun q => zVB_ok ok2 (by decide) t2s (by rcases O2.2.2.2 with z | z; exact z; exact absurd z q)) O2.2.2.1 (fun b hb => ⟨(ok2.2.2.1 b hb).1, (ok2.2.2.1 b hb).2.1⟩) O2.2.1 rar
  obtain ⟨m3, hm3⟩ : ∃ m3, m3 = u3 m2 0 150 (m2 520 132 0) 0 := ⟨_, rfl⟩
  have F3 : zfr [(0, 150)] m2 m3 := by rw [hm3]; exact zfr_u (zfr_rf _ _) (by decide)
  have es3 : m3 520 132 0 = s := (F3 _ _ _ (by decide)).trans es2
  have l3 : ∀ j, m3 0 150 j = if j = s then 0 else m2 0 150 j := fun j => by rw [hm3, u3_at, es2]
  have rl3 : zRL m3 = 0 := by unfold zRL; rw [es3, l3, if_pos rfl]
  have hR : ∀ s', s' < 3 → m3 0 150 s' ≤ 1024 := fun s' h3 => by
    rw [l3]
    split
    · omega
    · have := (hL s' h3).1
      rw [← (zRb_s A2 h3).2.2.2.1, zrp_len] at this
      exact this
  have ok3 : zMOk 1000 m3 := zMOk_nil ok2 F3
  have hl3 : zLC m3 c := zLC_fr hl2 F3
  have th3 : m3 500 132 0 = 0 := (F3 _ _ _ (by decide)).trans ((F2 _ _ _ (by decide)).trans t1)
  have tg3 : m3 524 132 0 = t := (F3 _ _ _ (by decide)).trans rt
  obtain ⟨A0, hA0⟩ : ∃ A0, A0 = zaVT A s (zaV A s) [] := ⟨_, rfl⟩
  have S2 := zRb_s A2 s3
  have A3 : zRb m3 A0 := by
    rw [hA0]
    refine zRb_S A2 (fun s' h3 q => zss_q (F3 _ _ _ (by decide)) (F3 _ _ _ (by decide)) (F3 _ _ _ (by decide)) (zvw_e (F3 _ _ _ (by decide)) fun i _ => ⟨F3 _ _ _ (by decide), F3 _ _ _ (by decide)⟩) (zrp_o (by rw [l3, if_neg q]) fun i _ => F3 _ _ _ (by decide)) (zln_fr (fun i => F3 _ _ _ (by decide)) (fun i => F3 _ _ _ (by decide)) s')) (fun _ => ?_) (fun b _ => zbx_fr F3 b) (F3 _ _ _ (by decide))
    have e1 : zrp m3 s = [] := List.eq_nil_of_length_eq_zero (by rw [zrp_len, l3, if_pos rfl])
    have e2 : zsq m3 s = zsq m2 s := by
      unfold zsq
      rw [show m3 0 142 s = m2 0 142 s from F3 _ _ _ (by decide), show m3 0 143 s = m2 0 143 s from F3 _ _ _ (by decide)]
    have e3 : m3 0 141 s = m2 0 141 s := F3 _ _ _ (by decide)
    have e4 : zvw m3 s = zvw m2 s := zvw_e (F3 _ _ _ (by decide)) fun i _ => ⟨F3 _ _ _ (by decide), F3 _ _ _ (by decide)⟩
    have e5 : zln m3 s = zln m2 s := zln_fr (fun i => F3 _ _ _ (by decide)) (fun i => F3 _ _ _ (by decide)) s
    unfold zss
    rw [e1, e2, e3, e4, e5, S2.1, S2.2.1, S2.2.2.1, S2.2.2.2.2]
  have T0 : zaT A0 s = [] := by rw [hA0]; unfold zaVT; rw [zaT_S, if_pos rfl]
  unfold zEd
  dsimp only
  by_cases rf : zrf A s k' a' = true
  · -- refused
    rw [if_pos rf]
    rw [RF, cgr, rf] at e129
    have st := p146_26_8 (L := L) (xs := xs) (m := m) (x1 := s) (w2 := .unset) (w3 := .unset) (w4 := .unset) (z0 := 0) (y2 := true) hx rfl e118 hx' (by omega) e129 rfl zsecu zsecu zsecu (by omega) (by omega)
    rw [← hm3] at st
    obtain ⟨m4, e4, s4⟩ := s125 (L := L) (xs := xs) hx' hl3 false (by omega) (by omega)
    have es4 : m4 520 132 0 = m3 520 132 0 := zSay_ses s4
    have B := zclo A3 (by omega) (fun s' h3 _ => hR s' h3) s4
    rw [es3, T0, tg3, List.nil_append, hA0, zfin_T] at B
    refine ⟨h', _, a0.trans (st.trans ((p146_145_2 (x3 := true) hx' rfl).trans ((p146_155_1 (x3 := true) (z0 := false) hx' e4 rfl (by omega)).trans (p146_177_1 (z0 := true) hx')))), zh, ?_, ?_⟩
    · refine zRI_end hI (zAI_w hi (by omega)) ⟨fun _ _ => rfl, rfl, Or.inl rfl⟩ hC (zTk_w (zTk_tag hch t2 false) (by decide)) ?_ B (by rw [u3_a (by decide)]; omega) (zLw_fr (zLw_fr (zLw_fr (zLw_fr (zLw_fr h3s.2 F1) F2) F3) s4.1) (l := [(0, 148)]) (zfr_u (zfr_rf _ _) (by decide)))
      exact zMOk_nil (l := [(0, 149), (0, 150), (0, 148)]) ok3 (zfr_u (zfr_w s4.1 (by decide)) (by decide))
    · rw [u3_a (by decide)]
      exact (s4.1 _ _ _ (by decide)).trans th3
  · -- performed
    rw [if_neg rf]
    have rf' : zrf A s k' a' = false := by cases z : zrf A s k' a' with
      | true => exact absurd z rf
      | false => rfl
    rw [RF, cgr, rf'] at e129
    have i0 : zAI K A0 := by
      rw [hA0]
      exact zAI_keep (A := A) rfl rfl (fun s' => by
        unfold zaVT
        rw [zaV_S, zaQ_S]
        by_cases q : s' = s
        · rw [if_pos q, if_pos q, q]; exact ⟨rfl, rfl⟩
        · rw [if_neg q, if_neg q]; exact ⟨rfl, rfl⟩) hi
    have V0 : zaV A0 s = zaV A s := by rw [hA0]; unfold zaVT; rw [zaV_S, if_pos rfl]
    have rar3 := zAR_fr rar F3
    rw [← (zenv_fr (c := c) F3).1] at rar3
    have rf3 : zrfm m3 k' a = false := by
      rw [zrfm_A ok3 A3 i0 (by omega) ⟨k1, k13⟩ rar3.1, es3, hA0, zrf_T, cgr]
      exact rf'
    obtain ⟨m4, e141, B4, ok4, kp4, l4⟩ := s141 (L := L) (xs := xs) hx' (by omega : K ≤ 64) hl3 ok3 A3 i0 hR rl3 ⟨k1, k13⟩ ((F3 _ _ _ (by decide)).trans ru) ((F3 _ _ _ (by decide)).trans rb) rar3 rf3
    rw [es3] at B4
    have P := zPf_ok (c := c) (u := u) (a := a) (by omega : K ≤ 64) i0 s3 ⟨k1, k13⟩ (by rw [hA0, zrf_T, cgr]; exact rf') (fun q => (rar.1 q).2) (fun q => (rar.2.1 q).2) (fun q => (rar.2.2.2.1 q).2.2.2.2) hch T0
    rw [zPf_cg (A := A0) (s := s) (k := k') (c := c) (u := u) (a := a) (a' := a') (by rw [V0]; exact g3)] at B4 P
    rw [← hA0]
    obtain ⟨A1, hA1⟩ : ∃ A1, A1 = zPf A0 s c k' u a' := ⟨_, rfl⟩
    rw [← hA1] at B4 P ⊢
    obtain ⟨i1, tk1, ow1⟩ := P
    have es4 : m4 520 132 0 = s := kp4.1.trans es3
    have hR4 : ∀ s', s' < 3 → s' ≠ m4 520 132 0 → m4 0 150 s' ≤ 1024 := fun s' h3 q => by
      rw [kp4.2.2.2.2.2.1 s' (by rw [es3, ← es4]; exact q)]
      exact hR s' h3
    have hl4 := zKeep_lc kp4 hl3
    rw [hm3] at e141
    -- told
    have tell : ∃ m5 w4, zEv (zPr L xs) 8 146 26 [.val (.ref 132), .val (.int (nI s)), .unset, .unset, .unset] [.int (nI 0), .ref 132] (zMH h m) = zEv (zPr L xs) 8 146 145 [.val (.ref 132), .val (.int (nI s)), .val (.int (nI k')), .val (.int (nI false.toNat)), w4] [] (zMH h' m5) ∧ zRb m5 (zPtell A1 s k' u) ∧ zMOk 1000 m5 ∧ zKeep m3 m5 ∧ zRL m5 ≤ 1940 ∧ m5 500 132 0 = 0 := by
      by_cases kk : k' = 2 ∨ k' = 4 ∨ k' = 7 ∨ k' = 8
      · have e120 : zEv (zPr L xs) 8 146 26 [.val (.ref 132), .val (.int (nI s)), .unset, .unset, .unset] [.int (nI 0), .ref 132] (zMH h m) = zEv (zPr L xs) 8 146 120 [.val (.ref 132), .val (.int (nI s)), .val (.int (nI k')), .val (.int (nI false.toNat)), .unset] [] (zMH h' m4) := by
          by_cases q7 : k' = 7
          · exact p146_26_7 (y2 := false) hx rfl e118 hx' (by omega) e129 rfl e141 q7 zsecu zsecu zsecu (by omega) (by omega)
          · by_cases q8 : k' = 8
            · exact p146_26_6 (y2 := false) hx rfl e118 hx' (by omega) e129 rfl e141 q7 q8 zsecu zsecu zsecu (by omega) (by omega)
            · by_cases q2 : k' = 2
              · exact p146_26_5 (y2 := false) hx rfl e118 hx' (by omega) e129 rfl e141 q7 q8 q2 zsecu zsecu zsecu (by omega) (by omega)
              · exact p146_26_4 (y2 := false) hx rfl e118 hx' (by omega) e129 rfl e141 q7 q8 q2 (by omega) zsecu zsecu zsecu (by omega) (by omega)
        refine ⟨m4, _, e120.trans ((p146_120_1 (x3 := false) hx').trans (p146_121_3 (x3 := false) (z0 := false) hx' rfl zsecu)), ?_, ok4, kp4, by omega, kp4.2.2.2.2.2.2.1.trans th3⟩
        unfold zPtell
        rw [if_pos kk]
        exact B4
      · have e121 := p146_26_3 (L := L) (xs := xs) (m := m) (x1 := s) (w2 := .unset) (w3 := .unset) (w4 := .unset) (z0 := 0) (y2 := false) hx rfl e118 hx' (by omega) e129 rfl e141 (by omega) (by omega) (by omega) (by omega) zsecu zsecu zsecu (by omega) (by omega)
        rcases zsq_of ok4 B4 (show m4 520 132 0 < 3 by omega) with ⟨g, ge⟩ | ⟨g, ge⟩
        · obtain ⟨m5, e144, B5, ok5, kp5, l5⟩ := s144a (L := L) (xs := xs) (k := k') (u := u) hx' hl4 ok4 B4 i1 hR4 g (kp4.2.1.trans ((F3 _ _ _ (by decide)).trans ru)) (by omega) l4 kk
          rw [es4] at B5
          exact ⟨m5, _, e121.trans (p146_121_1 (x3 := false) (z0 := true) hx' rfl (zi_nneg (by omega)) e144 zsecu (by omega)), B5, ok5, zKeep_tr kp4 kp5, l5, (kp5.2.2.2.2.2.2.1.trans kp4.2.2.2.2.2.2.1).trans th3⟩
        · refine ⟨m4, _, e121.trans (p146_121_2 (x3 := false) (z0 := true) hx' rfl (by rw [g]; exact zi_neg (by decide) (by decide)) zsecu (by omega)), ?_, ok4, kp4, by omega, kp4.2.2.2.2.2.2.1.trans th3⟩
          unfold zPtell
          rw [if_neg kk, ← es4, ge]
          exact B4
    obtain ⟨m5, w4, st, B5, ok5, kp5, l5, th5⟩ := tell
    have PT := zPtell_ok (k := k') (u := u) (by omega : K + 1 ≤ 65) i1 s3 tk1
    obtain ⟨A2, hA2⟩ : ∃ A2, A2 = zPtell A1 s k' u := ⟨_, rfl⟩
    rw [← hA2] at B5 PT ⊢
    obtain ⟨i2, tk2, ow2, q2⟩ := PT
    have es5 : m5 520 132 0 = s := kp5.1.trans es3
    obtain ⟨m6, e6, s6⟩ := s125 (L := L) (xs := xs) hx' (zKeep_lc kp5 hl3) true (by rw [kp5.2.2.1, tg3]; exact t2) (by omega)
    have es6 : m6 520 132 0 = m5 520 132 0 := zSay_ses s6
    have hR5 : ∀ s', s' < 3 → s' ≠ m5 520 132 0 → m5 0 150 s' ≤ 1024 := fun s' h3 q => by
      rw [kp5.2.2.2.2.2.1 s' (by rw [es3, ← es5]; exact q)]
      exact hR s' h3
    have B := zclo B5 (by omega) hR5 s6
    rw [es5, kp5.2.2.1, tg3] at B
    refine ⟨h', _, a0.trans (st.trans ((p146_145_1 (x3 := false) hx' rfl).trans ((p146_155_2 (x3 := false) (z0 := true) hx' e6 rfl (by omega)).trans (p146_177_1 (z0 := false) hx')))), zh, ?_, ?_⟩
    · have ow0 : zOw A A0 s := by rw [hA0]; exact zOw_S rfl (Or.inl rfl)
      have ow12 : zOw A0 A2 s := zOw_tr ow1 ow2 (fun z => by rw [q2]; exact z)
      have c0 : zaC A0 s = zaC A s := by rw [hA0]; unfold zaVT; rw [zaC_S, if_pos rfl]
      have ow : zOw A A2 s := ⟨fun s' q => (ow12.1 s' q).trans (ow0.1 s' q), ow12.2.1.trans ow0.2.1, by rw [← c0]; exact ow12.2.2⟩
      refine zRI_end hI i2 ow hC (zTk_w (zTk_ap tk2 (zTk_tag hch t2 true)) (by decide)) ?_ B (by rw [u3_a (by decide)]; omega) (zLw_fr (zLw_fr (zLw_kp (zLw_fr (zLw_fr (zLw_fr h3s.2 F1) F2) F3) kp5) s6.1) (l := [(0, 148)]) (zfr_u (zfr_rf _ _) (by decide)))
      exact zMOk_nil (l := [(0, 149), (0, 150), (0, 148)]) ok5 (zfr_u (zfr_w s6.1 (by decide)) (by decide))
    · rw [u3_a (by decide)]
      exact (s6.1 _ _ _ (by decide)).trans th5
end
