section
variable {L : Nat} {xs : Nat → Int32} {h : zH} {c : Nat → Nat}
theorem zmg_fr {l : List (Nat × Nat)} {m m' : zMm} (hf : zfr l m m') (j : Nat) (h0 : ∀ q ∈ l, q ≠ (0, 137) ∧ q ≠ (0, 138) ∧ q ≠ (0, 139) ∧ q ≠ (0, 140) := by decide) : zmg m' j = zmg m j := by
  have e5 : ∀ i, m' 0 137 i = m 0 137 i := fun i => hf _ _ _ fun q => (h0 _ q).1 rfl
  have e6 : ∀ i, m' 0 138 i = m 0 138 i := fun i => hf _ _ _ fun q => (h0 _ q).2.1 rfl
  have e7 : ∀ i, m' 0 139 i = m 0 139 i := fun i => hf _ _ _ fun q => (h0 _ q).2.2.1 rfl
  have e8 : ∀ i, m' 0 140 i = m 0 140 i := fun i => hf _ _ _ fun q => (h0 _ q).2.2.2 rfl
  unfold zmg ztx
  simp only [e5, e6, e7, e8]
theorem zln_fr {m m' : zMm} (h1 : ∀ i, m' 0 148 i = m 0 148 i) (h2 : ∀ i, m' 0 147 i = m 0 147 i) (s : Nat) : zln m' s = zln m s := by
  unfold zln
  simp only [h1, h2]
/-- only the messages of one mailbox are others -/
theorem zRb_Ms {l : List (Nat × Nat)} {m m' : zMm} {A : zAS} {b x : Nat} {M : List zMg} (hA : zRb m A) (hF : zfr l m m') (hb : b < 4) (hM : zbm m' b = M) (hx : m' 0 135 b = x) (ho : ∀ b', b' < 4 → b' ≠ b → zbm m' b' = zbm m b' ∧ m' 0 135 b' = m 0 135 b') (h0 : ∀ q ∈ l, q ≠ (0, 141) ∧ q ≠ (0, 142) ∧ q ≠ (0, 143) ∧ q ≠ (0, 144) ∧ q ≠ (0, 145) ∧ q ≠ (0, 146) ∧ q ≠ (0, 149) ∧ q ≠ (0, 150) ∧ q ≠ (0, 147) ∧ q ≠ (0, 148) := by decide) (h1 : ∀ q ∈ l, q ≠ (0, 133) ∧ q ≠ (0, 134) ∧ q ≠ (509, 132) := by decide) : zRb m' (zsB A b ((A.1 b).1, (A.1 b).2.1, x, M)) := by
  have X := zRb_x hA hb
  have e1 : ∀ i, m' 0 133 i = m 0 133 i := fun i => hF _ _ _ fun q => (h1 _ q).1 rfl
  have e2 : ∀ i, m' 0 134 i = m 0 134 i := fun i => hF _ _ _ fun q => (h1 _ q).2.1 rfl
  refine zRb_B hA (fun b' h4 hq => ?_) (fun _ => ?_) (fun s _ => zss_fr hF s h0) (hF _ _ _ fun q => (h1 _ q).2.2 rfl)
  · unfold zbx
    rw [e1, e2, (ho b' h4 hq).1, (ho b' h4 hq).2]
  · unfold zbx
    rw [e1, e2, X.1, X.2.1, hM, hx]
theorem s131a (hx : zFx h) {m : zMm} {A : zAS} {K N : Nat} (hl : zLC m c) (hok : zMOk N m) (hA : zRb m A) (hi : zAI K A) (hb : zsb m < 4) : ∃ m', zCl (zPr L xs) 131 [.ref 132] (zMH h m) = some (.inl none, zMH h m') ∧ zRb m' (zPclean A (zsb m)) ∧ zMOk N m' ∧ zKeep m m' ∧ zRL m' = zRL m := by
  obtain ⟨m', e, F, ok, -, r1, r2⟩ := s131 (L := L) (xs := xs) hx hl hok (zUp_of hA hi) hb
  refine ⟨m', e, ?_, ok, zKeep_of F (fun s _ => F _ _ _ (by decide)), (zrt_fr (F _ _ _ (by decide)) (fun q => F _ _ _ (by decide)) (fun q => F _ _ _ (by decide))).2⟩
  have X := zRb_x hA hb
  rw [zRb_M hA hb] at r1
  exact zRb_Ms hA F hb r1 ((F _ _ _ (by decide)).trans X.2.2.1) fun b' h4 hq => ⟨r2 b' h4 hq, F _ _ _ (by decide)⟩
theorem s136a (hx : zFx h) {m : zMm} {A : zAS} {K : Nat} (hl : zLC m c) (hok : zMOk 1000 m) (hA : zRb m A) (hi : zAI K A) (hb : m 526 132 0 < 4) (h10 : m 0 136 (m 526 132 0) < 10) (hn : m 0 135 (m 526 132 0) < 1000) (hta : m 531 132 0 ≤ 64) (htl : m 532 132 0 ≤ 6) (hm : m 529 132 0 < 16) : ∃ m', zCl (zPr L xs) 136 [.ref 132] (zMH h m) = some (.inl none, zMH h m') ∧ zRb m' (zPappend A (m 526 132 0) (m 529 132 0) ((List.range (m 532 132 0)).map fun k => c (m 531 132 0 + k))) ∧ zMOk 1000 m' ∧ zKeep m m' ∧ zRL m' = zRL m := by
  obtain ⟨m', e, ad⟩ := s136 (L := L) (xs := xs) hx hl hb h10 hta htl hok
  have F := ad.1
  have bm := zAdd_bm hok hb h10 ad
  have X := zRb_x hA hb
  refine ⟨m', e, ?_, (zAdd_ok ad hok (zUp_of hA hi) hb h10 hn hm).1, zKeep_of F (fun s _ => F _ _ _ (by decide)), (zrt_fr (F _ _ _ (by decide)) (fun q => F _ _ _ (by decide)) (fun q => F _ _ _ (by decide))).2⟩
  have r1 := bm.1
  have r2 := ad.2.2.1
  rw [zRb_M hA hb, X.2.2.1] at r1
  rw [X.2.2.1] at r2
  exact zRb_Ms hA F hb r1 r2 fun b' h4 hq => ⟨bm.2 b' h4 hq, (ad.2.2.2.1 b' hq).2⟩
theorem s132a (hx : zFx h) {m : zMm} {A : zAS} {p : Bool} (hl : zLC m c) (hok : zMOk 1000 m) (hA : zRb m A) (hR : ∀ s, s < 3 → m 0 150 s ≤ 1024) (hb : m 526 132 0 < 4) (hr : zRL m = 0) : ∃ m', zCl (zPr L xs) 132 [.ref 132, .int (nI p.toNat)] (zMH h m) = some (.inl none, zMH h m') ∧ zRb m' (zPselect A (m 520 132 0) (m 526 132 0) p) ∧ zMOk 1000 m' ∧ zKeep m m' ∧ zRL m' ≤ 300 := by
  have t3 := hl.1.1
  obtain ⟨m', e, k1, ok, r1, r2, r3, r4, r5⟩ := s132 (L := L) (xs := xs) (p := p) hx (by decide) hl hok hb (by omega)
  have F := k1.1
  have lz := zsT_len (n := m 0 136 (m 526 132 0)) (v := m 0 134 (m 526 132 0)) (x := m 0 135 (m 526 132 0))
  have kp : zKeep m m' := zKeep_of F (fun s hs => k1.2.2.1 s hs)
  refine ⟨m', e, zRb_S hA (fun s hs q => ?_) (fun _ => ?_) (fun b _ => zbx_fr F b) (F _ _ _ (by decide)), ok, kp, by omega⟩
  · have kk := k1.2.1 s hs q
    exact zss_o (F _ _ _ (by decide)) kk.1 kk.2.1 kk.2.2.2 (zrp_d q (hR s hs) k1.2.2.1 k1.2.2.2) (F _ _ _ (by decide)) (fun i => F _ _ _ (by decide))
  · have S := zRb_s hA t3
    have X := zRb_x hA hb
    have es : m' 520 132 0 = m 520 132 0 := kp.1
    have e1 : zrp m' (m 520 132 0) = zrp m (m 520 132 0) ++ zsT (m 0 136 (m 526 132 0)) (m 0 134 (m 526 132 0)) (m 0 135 (m 526 132 0)) := by
      have : zrt m' = zrp m' (m 520 132 0) := by unfold zrt zRL zrp; rw [es]
      rw [← this]; exact r4
    have e2 : zsq m' (m 520 132 0) = some (m 526 132 0, p) := by
      unfold zsq
      rw [r1, r2, if_pos hb]
      cases p <;> rfl
    have e3 : m' 0 141 (m 520 132 0) = m 0 141 (m 520 132 0) := F _ _ _ (by decide)
    unfold zss
    rw [e1, e2, e3, r3, S.1, S.2.2.2.1, X.2.1, X.2.2.1, X.2.2.2, zRb_M hA hb, zln_fr kp.2.2.2.1 kp.2.2.2.2.1, S.2.2.2.2]
theorem s137a (hx : zFx h) {m : zMm} {A : zAS} {u w : Bool} {e : Nat} {P : zHd} (hl : zLC m c) (hok : zMOk 1000 m) (hA : zRb m A) (hR : ∀ s, s < 3 → m 0 150 s ≤ 1024) (hr : zRL m = 0) (hb : zsb m < 4) (h64 : m 534 132 0 ≤ 64) (hz : zks c (zenv m c) 130 true 0 (m 534 132 0) = some (e, w, P)) (hle : m 0 148 (m 520 132 0) ≤ e) (hu : m 525 132 0 = u.toNat) (hbd : m 522 132 0 = 0) (hw : m 523 132 0 ≤ 1) : ∃ m', zCl (zPr L xs) 137 [.ref 132] (zMH h m) = some (.inl none, zMH h m') ∧ zRb m' (zPfind A (m 520 132 0) (zov P (zfn1 (zaM A (zsb m)) (zaV A (m 520 132 0)) u) (zaV A (m 520 132 0)).length 1 [42, 32, 83, 69, 65, 82, 67, 72])) ∧ zMOk 1000 m' ∧ zKeep m m' ∧ zRL m' ≤ 300 := by
  have t3 := hl.1.1
  have hv := zVB_ok hok (by decide) t3 hb
  have h40 : znp m ≤ 40 := hv.2.2.2.1
  obtain ⟨m', ev, s1, l1⟩ := s137 (L := L) (xs := xs) hx (N := 1000) (by decide) hl hv (fun k hk => (hok.2.1 k hk).1) h64 hz hle hu hbd hw (by omega)
  obtain ⟨F, r1, r2, r3, r4⟩ := s1
  have S := zRb_s hA t3
  have M := zRb_M hA hb
  have vl : (zaV A (m 520 132 0)).length = znp m := by rw [← S.2.2.1]; exact zvw_len
  have kp : zKeep m m' := zKeep_of F (fun s hs => r3 s hs)
  refine ⟨m', ev, zRb_S hA (fun s hs q => ?_) (fun _ => ?_) (fun b _ => zbx_fr F b) (F _ _ _ (by decide)), zMOk_nil hok F, kp, by omega⟩
  · exact zss_o (F _ _ _ (by decide)) (F _ _ _ (by decide)) (F _ _ _ (by decide)) (zvw_e (F _ _ _ (by decide)) fun i _ => ⟨F _ _ _ (by decide), F _ _ _ (by decide)⟩) (zrp_d q (hR s hs) r3 r4) (F _ _ _ (by decide)) (fun i => F _ _ _ (by decide))
  · have es : m' 520 132 0 = m 520 132 0 := kp.1
    have e1 : zrp m' (m 520 132 0) = zrt m' := by unfold zrt zRL zrp; rw [es]
    have e0 : zrt m = zaT A (m 520 132 0) := S.2.2.2.1
    have e2 : zsq m' (m 520 132 0) = zsq m (m 520 132 0) := by
      unfold zsq
      rw [show m' 0 142 (m 520 132 0) = m 0 142 (m 520 132 0) from F _ _ _ (by decide), show m' 0 143 (m 520 132 0) = m 0 143 (m 520 132 0) from F _ _ _ (by decide)]
    have e3 : m' 0 141 (m 520 132 0) = m 0 141 (m 520 132 0) := F _ _ _ (by decide)
    have e4 : zvw m' (m 520 132 0) = zvw m (m 520 132 0) := zvw_e (F _ _ _ (by decide)) fun i _ => ⟨F _ _ _ (by decide), F _ _ _ (by decide)⟩
    unfold zss
    rw [e1, e2, e3, e4, r1, e0, S.1, S.2.1, S.2.2.1, M, zln_fr kp.2.2.2.1 kp.2.2.2.2.1, S.2.2.2.2, vl]
theorem s138a (hx : zFx h) {m : zMm} {A : zAS} {K k sg it w : Nat} {u : Bool} {l : List zRg} {f0 : Nat} (hk : k = 10 ∨ k = 11) (hwr : k = 11 → zL h 533 132 0 = nL w ∧ w < 18446744073709551616 ∧ zitem w = some it) (hl : zLC m c) (hok : zMOk 1000 m) (hA : zRb m A) (hi : zAI K A) (hR : ∀ s, s < 3 → m 0 150 s ≤ 1024) (hr : zRL m = 0) (hb : zsb m < 4) (hz : zset c f0 (m 527 132 0) = some (l, m 528 132 0)) (h64 : m 527 132 0 ≤ 64) (hu : m 525 132 0 = u.toNat) (h10 : k = 10 → m 530 132 0 = (if sg = 0 then 0 else if sg = 1 then 1 else 4294967295) ∧ m 529 132 0 < 16) : ∃ m', zCl (zPr L xs) 138 [.ref 132, .int (nI k)] (zMH h m) = some (.inl none, zMH h m') ∧ zRb m' (zPover A (m 520 132 0) (zsb m) (zov (zPl l (zenv m c) u) (zsF1 k sg (m 529 132 0) it (decide (m 0 143 (m 520 132 0) ≠ 0))) (zaV A (m 520 132 0)).length 1 (zaM A (zsb m), zaV A (m 520 132 0), zaT A (m 520 132 0)))) ∧ zMOk 1000 m' ∧ zKeep m m' ∧ zRL m' ≤ 300 := by
  have t3 := hl.1.1
  have hv := zVB_ok hok (by decide) t3 hb
  have h40 : znp m ≤ 40 := hv.2.2.2.1
  obtain ⟨m', ev, kp1, ok, l1, r⟩ := s138o (L := L) (xs := xs) (sg := sg) (it := it) (w := w) hx hk (by decide : 1000 ≤ 9999) hwr hl hv hok (zUp_of hA hi) (zVu_of hA hi) hz h64 hu h10 (by omega)
  obtain ⟨F, o1, o2, o3, o4⟩ := kp1
  have S := zRb_s hA t3
  have M := zRb_M hA hb
  have X := zRb_x hA hb
  have vl : (zaV A (m 520 132 0)).length = znp m := by rw [← S.2.2.1]; exact zvw_len
  have kp : zKeep m m' := zKeep_of F (fun s hs => o3 s hs)
  have es : m' 520 132 0 = m 520 132 0 := kp.1
  have e0 : zrt m = zaT A (m 520 132 0) := S.2.2.2.1
  have g0 : zsgm m = (zaM A (zsb m), zaV A (m 520 132 0), zaT A (m 520 132 0)) := by unfold zsgm; rw [M, S.2.2.1, e0]
  rw [g0, ← vl] at r
  obtain ⟨σ, hσ⟩ : ∃ σ, σ = zov (zPl l (zenv m c) u) (zsF1 k sg (m 529 132 0) it (decide (m 0 143 (m 520 132 0) ≠ 0))) (zaV A (m 520 132 0)).length 1 (zaM A (zsb m), zaV A (m 520 132 0), zaT A (m 520 132 0)) := ⟨_, rfl⟩
  rw [← hσ] at r ⊢
  have sb : zsb m' = zsb m := by unfold zsb; rw [es]; exact F _ _ _ (by decide)
  have r1 : zbm m' (zsb m) = σ.1 := by rw [← sb]; exact congrArg (fun q : zSg => q.1) r
  have r2 : zvw m' (m 520 132 0) = σ.2.1 := by rw [← es]; exact congrArg (fun q : zSg => q.2.1) r
  have r3 : zrt m' = σ.2.2 := congrArg (fun q : zSg => q.2.2) r
  refine ⟨m', ev, ⟨fun b hb4 => ?_, fun s hs => ?_, (F _ _ _ (by decide)).trans hA.2.2⟩, ok, kp, by omega⟩
  · have q0 : zbx m' b = (m 0 133 b, m 0 134 b, m 0 135 b, zbm m' b) := by
      unfold zbx
      rw [show m' 0 133 b = m 0 133 b from F _ _ _ (by decide), show m' 0 134 b = m 0 134 b from F _ _ _ (by decide), show m' 0 135 b = m 0 135 b from F _ _ _ (by decide)]
    rw [q0]
    show _ = zup A.1 (zsb m) _ b
    by_cases q : b = zsb m
    · rw [q, zup_eq, r1, X.1, X.2.1, X.2.2.1]
    · rw [zup_ne q, ← hA.1 b hb4, o1 b hb4 q]
      rfl
  · show _ = zup A.2.1 (m 520 132 0) _ s
    by_cases q : s = m 520 132 0
    · rw [q, zup_eq]
      have e1 : zrp m' (m 520 132 0) = zrt m' := by unfold zrt zRL zrp; rw [es]
      have e2 : zsq m' (m 520 132 0) = zsq m (m 520 132 0) := by
        unfold zsq
        rw [show m' 0 142 (m 520 132 0) = m 0 142 (m 520 132 0) from F _ _ _ (by decide), show m' 0 143 (m 520 132 0) = m 0 143 (m 520 132 0) from F _ _ _ (by decide)]
      have e3 : m' 0 141 (m 520 132 0) = m 0 141 (m 520 132 0) := F _ _ _ (by decide)
      unfold zss
      rw [e1, e2, e3, r2, r3, S.1, S.2.1, zln_fr kp.2.2.2.1 kp.2.2.2.2.1, S.2.2.2.2]
      rfl
    · show _ = zup A.2.1 (m 520 132 0) _ s
      rw [zup_ne q, ← hA.2.1 s hs]
      exact zss_o (F _ _ _ (by decide)) (F _ _ _ (by decide)) (F _ _ _ (by decide)) (o2 s hs q) (zrp_d q (hR s hs) o3 o4) (F _ _ _ (by decide)) (fun i => F _ _ _ (by decide))
theorem s138b (hx : zFx h) {m : zMm} {A : zAS} {K : Nat} {u : Bool} {l : List zRg} {f0 : Nat} (hK : K ≤ 64) (hl : zLC m c) (hok : zMOk 1000 m) (hA : zRb m A) (hi : zAI K A) (hb : zsb m < 4) (hz : zset c f0 (m 527 132 0) = some (l, m 528 132 0)) (h64 : m 527 132 0 ≤ 64) (hu : m 525 132 0 = u.toNat) (hbx : m 526 132 0 < 4) (hc : m 0 136 (m 526 132 0) + zmp m (zPl l (zenv m c) u) ≤ 10) : ∃ m', zCl (zPr L xs) 138 [.ref 132, .int (nI 12)] (zMH h m) = some (.inl none, zMH h m') ∧ zRb m' (zPcopy A (m 526 132 0) (zov (zPl l (zenv m c) u) (zcp1 (zaM A (zsb m)) (zaV A (m 520 132 0))) (zaV A (m 520 132 0)).length 1 ((A.1 (m 526 132 0)).2.2.1, zaM A (m 526 132 0)))) ∧ zMOk 1000 m' ∧ zKeep m m' ∧ zRL m' = zRL m := by
  have t3 := hl.1.1
  have hv := zVB_ok hok (by decide) t3 hb
  have X := zRb_x hA hbx
  have nx := (hi.1 _ hbx).2.2.2.1
  obtain ⟨m', ev, F, ok, o1, r⟩ := s138p (L := L) (xs := xs) hx (N := 1000) (by decide) hl hv hok (zUp_of hA hi) (zVu_of hA hi) hz h64 hu hbx hc (by rw [X.2.2.1]; omega)
  have S := zRb_s hA t3
  have vl : (zaV A (m 520 132 0)).length = znp m := by rw [← S.2.2.1]; exact zvw_len
  rw [zRb_M hA hb, zRb_M hA hbx, X.2.2.1, S.2.2.1, ← vl] at r
  refine ⟨m', ev, ?_, ok, zKeep_of F (fun s _ => F _ _ _ (by decide)), (zrt_fr (F _ _ _ (by decide)) (fun q => F _ _ _ (by decide)) (fun q => F _ _ _ (by decide))).2⟩
  rw [← r]
  exact zRb_Ms hA F hbx rfl rfl o1
theorem s141 (hx : zFx h) {m : zMm} {A : zAS} {K k : Nat} {u : Bool} {a : zArg} (hK : K ≤ 64) (hl : zLC m c) (hok : zMOk 1000 m) (hA : zRb m A) (hi : zAI K A) (hR : ∀ s, s < 3 → m 0 150 s ≤ 1024) (hr : zRL m = 0) (hk : 1 ≤ k ∧ k ≤ 13) (hu : m 525 132 0 = u.toNat) (hbd : m 522 132 0 = 0) (ha : zAR h m c (zenv m c) u k a) (hf : zrfm m k a = false) : ∃ m', zCl (zPr L xs) 141 [.ref 132, .int (nI k)] (zMH h m) = some (.inl none, zMH h m') ∧ zRb m' (zPf A (m 520 132 0) c k u a) ∧ zMOk 1000 m' ∧ zKeep m m' ∧ zRL m' ≤ 300 := by
  have t3 := hl.1.1
  have kb : k < 2147483648 := by omega
  have S := zRb_s hA t3
  obtain ⟨a1, a2, a3, a4, a5, a6, a7⟩ := ha
  unfold zrfm at hf
  simp only [Bool.or_eq_false_iff, Bool.and_eq_false_iff, decide_eq_false_iff_not] at hf
  obtain ⟨⟨⟨⟨⟨⟨⟨f1, f2⟩, f3⟩, f4⟩, f5⟩, f6⟩, f7⟩, f8⟩ := hf
  rw [en_141]
  have fin : ∀ m1 : zMm, zLC m1 c → zEv (zPr L xs) 7 141 160 [.val (.ref 132), .val (.int (nI k))] [] (zMH h m1) = some (.inl none, zMH h m1) := fun m1 hl1 => p141_160_1 hx hl1
  by_cases k5 : k = 5
  · obtain ⟨e1, e2⟩ := a1 (by omega)
    have cr : m 509 132 0 ≤ 1 + K := by rw [hA.2.2]; exact hi.2.2
    obtain ⟨m', ev, r1, r2, r3, r4⟩ := s139 (L := L) (xs := xs) hx hl hok hA (by omega) (by omega)
    refine ⟨m', (p141_0_1 hx hl k5 ev).trans (fin m' (zKeep_lc r3 hl)), ?_, r2, r3, by omega⟩
    unfold zPf
    rw [if_pos k5, ← e1]
    exact r1
  by_cases k6 : k = 6
  · obtain ⟨e1, e2⟩ := a1 (by omega)
    have F : zfr [(0, 133)] m (u3 m 0 133 (m 526 132 0) 0) := zfr_u (zfr_rf _ _) (by decide)
    have tt : ∀ b, u3 m 0 133 (m 526 132 0) 0 0 133 b = if b = m 526 132 0 then 0 else m 0 133 b := fun b => u3_at _ _ _ _ _ _
    have kp := zKeep_of F fun s _ => F _ _ _ (by decide)
    have X := zRb_x hA (show m 526 132 0 < 4 by omega)
    refine ⟨_, (p141_0_2 hx hl k5 k6 kb (by omega)).trans (fin _ (zKeep_lc kp hl)), ?_, ?_, kp, ?_⟩
    · unfold zPf
      rw [if_neg k5, if_pos k6, ← e1]
      refine zRb_B hA (fun b' _ q => ?_) (fun hb => ?_) (fun s _ => zss_fr F s) (F _ _ _ (by decide))
      · unfold zbx zbm
        rw [tt, if_neg q]
        simp only [fun j => zmg_fr F j]
        rfl
      · unfold zbx zbm
        rw [tt, if_pos rfl]
        simp only [fun j => zmg_fr F j]
        rw [← hA.1 _ hb]
        rfl
    · refine ⟨hok.1, hok.2.1, fun b hb => ?_, hok.2.2.2.1, hok.2.2.2.2⟩
      have o := hok.2.2.1 b hb
      rw [tt]
      refine ⟨?_, o.2⟩
      split
      · omega
      · exact o.1
    · have : zRL (u3 m 0 133 (m 526 132 0) 0) = zRL m := rfl
      omega
  by_cases k9 : k = 9
  · obtain ⟨e1, e2⟩ := a1 (by omega)
    obtain ⟨e3, e4⟩ := a2 (by omega)
    obtain ⟨e5, e6, e7, e8, e9⟩ := a4 k9
    have X := zRb_x hA (show m 526 132 0 < 4 by omega)
    have nx := (hi.1 _ (show m 526 132 0 < 4 by omega)).2.2.2.1
    have ct := (hok.2.2.1 _ (show m 526 132 0 < 4 by omega)).2.1
    have f7 : ¬ m 0 136 (m 526 132 0) = 10 := f7.resolve_left (fun q => q k9)
    obtain ⟨m', ev, r1, r2, r3, r4⟩ := s136a (L := L) (xs := xs) hx hl hok hA hi (by omega) (by omega) (by rw [X.2.2.1]; omega) e7 (by omega) (by omega)
    refine ⟨m', (p141_0_3 hx hl k5 k6 k9 ev).trans (fin m' (zKeep_lc r3 hl)), ?_, r2, r3, by omega⟩
    unfold zPf
    rw [if_neg k5, if_neg k6, if_pos k9, ← e1, ← e3, ← e5, ← e6]
    exact r1
  by_cases k78 : k = 7 ∨ k = 8
  · obtain ⟨e1, e2⟩ := a1 (by omega)
    obtain ⟨m', ev, r1, r2, r3, r4⟩ := s132a (L := L) (xs := xs) (p := decide (k = 7)) hx hl hok hA hR (by omega) hr
    refine ⟨m', ?_, ?_, r2, r3, r4⟩
    · by_cases k7 : k = 7
      · rw [decide_eq_true k7] at ev
        exact (p141_0_12 hx hl k5 k6 k9 k7).trans ((p141_56_1 hx hl k7).trans ((p141_68_1 (z0 := true) hx hl ev).trans (fin m' (zKeep_lc r3 hl))))
      · rw [decide_eq_false k7] at ev
        exact (p141_0_4 hx hl k5 k6 k9 k7 (by omega)).trans ((p141_56_2 hx hl k7).trans ((p141_68_1 (z0 := false) hx hl ev).trans (fin m' (zKeep_lc r3 hl))))
    · unfold zPf
      rw [if_neg k5, if_neg k6, if_neg k9, if_pos k78, ← e1]
      exact r1
  have k7 : k ≠ 7 := fun q => k78 (Or.inl q)
  have k8 : k ≠ 8 := fun q => k78 (Or.inr q)
  by_cases k4 : k = 4
  · have F : zfr [(0, 141)] m (u3 m 0 141 (m 520 132 0) 0) := zfr_u (zfr_rf _ _) (by decide)
    have tt : ∀ b, u3 m 0 141 (m 520 132 0) 0 0 141 b = if b = m 520 132 0 then 0 else m 0 141 b := fun b => u3_at _ _ _ _ _ _
    obtain ⟨m1, hm1⟩ : ∃ m1, m1 = u3 m 0 141 (m 520 132 0) 0 := ⟨_, rfl⟩
    rw [← hm1] at F tt
    have kp := zKeep_of F fun s _ => F _ _ _ (by decide)
    have es : m1 520 132 0 = m 520 132 0 := kp.1
    have vw : ∀ s, zvw m1 s = zvw m s := fun s => zvw_e (F _ _ _ (by decide)) fun i _ => ⟨F _ _ _ (by decide), F _ _ _ (by decide)⟩
    have rp : ∀ s, zrp m1 s = zrp m s := fun s => zrp_o (F _ _ _ (by decide)) fun i _ => F _ _ _ (by decide)
    have ok1 : zMOk 1000 m1 := by
      rw [hm1]
      refine ⟨hok.1, hok.2.1, hok.2.2.1, fun s hs => ?_, hok.2.2.2.2⟩
      have o := hok.2.2.2.1 s hs
      rw [← hm1, tt]
      refine ⟨?_, ?_⟩
      · split
        · omega
        · exact o.1
      · rw [hm1]; exact o.2
    obtain ⟨m', ev, r1, r2, r3, r4⟩ := s140 (L := L) (xs := xs) (A := A) (cn := false) hx (zKeep_lc kp hl) ok1 (fun b hb => (zbx_fr F b).trans (hA.1 b hb)) (fun s hs q => (zss_o (by rw [tt, if_neg (by rw [← es]; exact q)]) (F _ _ _ (by decide)) (F _ _ _ (by decide)) (vw s) (rp s) (F _ _ _ (by decide)) (fun i => F _ _ _ (by decide))).trans (hA.2.1 s hs)) ((F _ _ _ (by decide)).trans hA.2.2) (by rw [es, tt, if_pos rfl]; rfl) (by rw [es, rp]; exact S.2.2.2.1) (by rw [es, zln_fr kp.2.2.2.1 kp.2.2.2.2.1]; exact S.2.2.2.2)
    have rl : zRL m1 = zRL m := by unfold zRL; rw [es]; exact F _ _ _ (by decide)
    rw [hm1] at ev
    refine ⟨m', (p141_0_8 hx hl k5 k6 k9 k7 k8 (by omega) (by omega) k4 ev).trans (fin m' (zKeep_lc (zKeep_tr kp r3) hl)), ?_, r2, zKeep_tr kp r3, by omega⟩
    unfold zPf
    rw [if_neg k5, if_neg k6, if_neg k9, if_neg k78, if_pos k4, ← es]
    exact r1
  -- a mailbox is selected
  by_cases k1 : k = 1
  · refine ⟨m, (p141_0_11 hx hl k5 k6 k9 k7 k8 (by omega) (by omega) k4 (by omega) (by omega)).trans (fin m hl), ?_, hok, zKeep_rf m, by omega⟩
    have : zPf A (m 520 132 0) c k u a = A := by
      unfold zPf
      rw [if_neg k5, if_neg k6, if_neg k9, if_neg k78, if_neg k4]
      split
      · rfl
      · rw [if_neg (by omega), if_neg (by omega), if_neg (by omega), if_neg (by omega), if_neg (by omega)]
    rw [this]
    exact hA
  have nsel : m 0 142 (m 520 132 0) ≠ 4294967295 := by
    cases f1 with
    | inl q => exact absurd (show k = 2 ∨ k = 3 ∨ 10 ≤ k by omega) q
    | inr q => exact q
  obtain ⟨hb4, hQ⟩ : m 0 142 (m 520 132 0) < 4 ∧ zaQ A (m 520 132 0) = some (m 0 142 (m 520 132 0), decide (m 0 143 (m 520 132 0) ≠ 0)) := by
    cases zsq_of hok hA t3 with
    | inl q => exact q
    | inr q => exact absurd q.1 nsel
  have wb : m 0 143 (m 520 132 0) < 2147483648 := by have := (hok.2.2.2.1 _ t3).2.1; omega
  unfold zPf
  rw [if_neg k5, if_neg k6, if_neg k9, if_neg k78, if_neg k4, hQ]
  dsimp only
  by_cases k3 : k = 3
  · obtain ⟨m', ev, r1, r2, r3, r4⟩ := s131a (L := L) (xs := xs) hx hl hok hA hi hb4
    refine ⟨m', (p141_0_5 hx hl k5 k6 k9 k7 k8 k3 ev).trans (fin m' (zKeep_lc r3 hl)), ?_, r2, r3, by omega⟩
    rw [if_pos k3]
    exact r1
  rw [if_neg k3]
  by_cases k2 : k = 2
  · rw [if_pos k2]
    by_cases hw : m 0 143 (m 520 132 0) = 0
    · obtain ⟨m', ev, r1, r2, r3, r4⟩ := s140 (L := L) (xs := xs) (A := A) hx hl hok hA.1 (fun s hs _ => hA.2.1 s hs) hA.2.2 S.1 S.2.2.2.1 S.2.2.2.2
      refine ⟨m', (p141_0_7 hx hl k5 k6 k9 k7 k8 k3 k2 hw).trans ((p141_107_1 hx hl ev).trans (fin m' (zKeep_lc r3 hl))), ?_, r2, r3, by omega⟩
      rw [decide_eq_false (fun q => q hw)]
      exact r1
    · obtain ⟨m1, e1, r1, r2, r3, r4⟩ := s131a (L := L) (xs := xs) hx hl hok hA hi hb4
      have S1 := zRb_s r1 t3
      have es : m1 520 132 0 = m 520 132 0 := r3.1
      rw [← es] at S1
      obtain ⟨m', ev, p1, p2, p3, p4⟩ := s140 (L := L) (xs := xs) (A := zPclean A (zsb m)) hx (zKeep_lc r3 hl) r2 r1.1 (fun s hs _ => r1.2.1 s hs) r1.2.2 S1.1 S1.2.2.2.1 S1.2.2.2.2
      refine ⟨m', (p141_0_6 hx hl k5 k6 k9 k7 k8 k3 k2 hw e1).trans ((p141_107_1 hx (zKeep_lc r3 hl) ev).trans (fin m' (zKeep_lc (zKeep_tr r3 p3) hl))), ?_, p2, zKeep_tr r3 p3, by omega⟩
      rw [decide_eq_true hw]
      rw [es] at p1
      exact p1
  rw [if_neg k2]
  by_cases k13 : k = 13
  · obtain ⟨e1, e2, e, e3, e4⟩ := a7 k13
    have wl : m 523 132 0 ≤ 1 := by rw [e2]; cases a.2.2.2.2.2.2.1 <;> decide
    obtain ⟨m', ev, r1, r2, r3, r4⟩ := s137a (L := L) (xs := xs) hx hl hok hA hR hr hb4 e1 e3 (e4 hbd) hu hbd wl
    refine ⟨m', (p141_0_9 hx hl k5 k6 k9 k7 k8 k3 k2 k4 k13 ev).trans (fin m' (zKeep_lc r3 hl)), ?_, r2, r3, r4⟩
    rw [if_pos k13]
    exact r1
  rw [if_neg k13]
  obtain ⟨l, e1, e2, -, e4⟩ := a6 (by omega) (by omega)
  have e4 : a.2.2.2.2.2.2.2 = zPl l (zenv m c) u := e4
  by_cases k12 : k = 12
  · obtain ⟨b1, b2⟩ := a1 (by omega)
    rw [e4] at f8
    have f8 := f8.resolve_left (fun q => q k12)
    rw [k12]
    obtain ⟨m', ev, r1, r2, r3, r4⟩ := s138b (L := L) (xs := xs) hx hK hl hok hA hi hb4 e1 e2 hu (by omega) (by omega)
    rw [if_pos rfl]
    refine ⟨m', (p141_0_10 (p := 12) hx hl (by decide) (by decide) (by decide) (by decide) (by decide) (by decide) (by decide) (by decide) (by decide) (by decide) ev).trans (by rw [← k12]; exact fin m' (zKeep_lc r3 hl)), ?_, r2, r3, by omega⟩
    rw [e4, ← b1]
    exact r1
  rw [if_neg k12, if_pos (by omega)]
  have i5 : ∃ w, k = 11 → zL h 533 132 0 = nL w ∧ w < 18446744073709551616 ∧ zitem w = some a.2.2.2.2.2.1 := by
    by_cases q : k = 11
    · obtain ⟨w, hw⟩ := a5 q
      exact ⟨w, fun _ => hw⟩
    · exact ⟨0, fun z => absurd z q⟩
  obtain ⟨w, hw⟩ := i5
  obtain ⟨m', ev, r1, r2, r3, r4⟩ := s138a (L := L) (xs := xs) (sg := a.2.2.1) (k := k) (it := a.2.2.2.2.2.1) (w := w) hx (by omega) hw hl hok hA hi hR hr hb4 e1 e2 hu (fun q => ⟨(a3 q).1, by have := a2 (Or.inr q); omega⟩)
  refine ⟨m', (p141_0_10 hx hl k5 k6 k9 k7 k8 k3 k2 k4 k13 (by omega) ev).trans (fin m' (zKeep_lc r3 hl)), ?_, r2, r3, r4⟩
  rw [e4]
  by_cases q : k = 10
  · rw [← (a2 (Or.inr q)).1]
    exact r1
  · have : ∀ mk1 mk2 : Nat, zsF1 k a.2.2.1 mk1 a.2.2.2.2.2.1 (decide (m 0 143 (m 520 132 0) ≠ 0)) = zsF1 k a.2.2.1 mk2 a.2.2.2.2.2.1 (decide (m 0 143 (m 520 132 0) ≠ 0)) := by
      intro mk1 mk2
      funext n σ
      unfold zsF1
      simp only [if_neg q]
    rw [this a.2.1 (m 529 132 0)]
    exact r1
end
