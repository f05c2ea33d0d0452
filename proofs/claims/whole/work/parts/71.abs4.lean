/-! ===== performing and telling keep what is kept ===== -/
theorem zVI_F {F F' : Nat → zBx} {q : Option (Nat × Bool)} {V : List (Nat × Nat)} (h : zVI F q V) (hF : ∀ b w, q = some (b, w) → (F' b).1 ≠ 0 ∧ (F b).2.2.1 ≤ (F' b).2.2.1 ∧ ∀ g ∈ (F' b).2.2.2, (∃ g0 ∈ (F b).2.2.2, g0.1 = g.1) ∨ (F b).2.2.1 ≤ g.1) : zVI F' q V := by
  obtain ⟨h1, h2, h3⟩ := h
  refine ⟨h1, h2, ?_⟩
  cases q with
  | none => exact h3
  | some q =>
    obtain ⟨b, w⟩ := q
    obtain ⟨a1, a2, a3, a4⟩ := h3
    obtain ⟨f1, f2, f3⟩ := hF b w rfl
    refine ⟨a1, f1, fun v hv => by have := a3 v hv; omega, fun g hg hh v hv => ?_⟩
    rcases f3 g hg with ⟨g0, z1, z2⟩ | z
    · rw [← z2]
      rw [← z2] at hh
      exact a4 g0 z1 hh v hv
    · have := a3 v hv
      omega
theorem zVI_V {F : Nat → zBx} {q : Option (Nat × Bool)} {V V' : List (Nat × Nat)} (h : zVI F q V) (hm : (V'.map fun v => v.1) = V.map fun v => v.1) (hf : ∀ v ∈ V', v.2 < 16) : zVI F q V' := by
  obtain ⟨h1, h2, h3⟩ := h
  have ll : V'.length = V.length := by have := congrArg List.length hm; rwa [List.length_map, List.length_map] at this
  have mem : ∀ v ∈ V', ∃ v0 ∈ V, v0.1 = v.1 := fun v hv => by
    have : v.1 ∈ V'.map fun v => v.1 := List.mem_map.2 ⟨v, hv, rfl⟩
    rw [hm] at this
    exact List.mem_map.1 this
  refine ⟨by rw [hm]; exact h1, ⟨by omega, hf⟩, ?_⟩
  cases q with
  | none =>
    have h3 : V = [] := h3
    rw [h3] at ll
    exact List.eq_nil_of_length_eq_zero ll
  | some q =>
    obtain ⟨b, w⟩ := q
    obtain ⟨a1, a2, a3, a4⟩ := h3
    refine ⟨a1, a2, fun v hv => ?_, fun g hg hh v hv => ?_⟩
    · obtain ⟨v0, z1, z2⟩ := mem v hv
      rw [← z2]; exact a3 v0 z1
    · rw [zhas_m, hm, ← zhas_m] at hh
      obtain ⟨v0, z1, z2⟩ := mem v hv
      rw [← z2]; exact a4 g hg hh v0 z1
theorem zAI_B {K K' : Nat} {A : zAS} {b cr : Nat} {B : zBx} (h : zAI K A) (hk : K ≤ K') (hB : b < 4 → zBI K' B) (hs : ∀ s w, s < 3 → zaQ A s = some (b, w) → B.1 ≠ 0 ∧ (A.1 b).2.2.1 ≤ B.2.2.1 ∧ ∀ g ∈ B.2.2.2, (∃ g0 ∈ (A.1 b).2.2.2, g0.1 = g.1) ∨ (A.1 b).2.2.1 ≤ g.1) (hc : cr ≤ 1 + K') : zAI K' (zup A.1 b B, A.2.1, cr) := by
  obtain ⟨h1, h2, h3⟩ := h
  refine ⟨fun b' hb => ?_, fun s hs3 => ?_, hc⟩
  · show zBI K' (zup A.1 b B b')
    by_cases q : b' = b
    · rw [q] at hb ⊢; rw [zup_eq]; exact hB hb
    · rw [zup_ne q]; exact zBI_w (h1 b' hb) hk
  · refine zVI_F (h2 s hs3) fun b' w hq => ?_
    show (zup A.1 b B b').1 ≠ 0 ∧ _ ≤ (zup A.1 b B b').2.2.1 ∧ ∀ g ∈ (zup A.1 b B b').2.2.2, _
    by_cases q : b' = b
    · rw [q, zup_eq]
      rw [q] at hq
      exact hs s w hs3 hq
    · rw [zup_ne q]
      have h2s := h2 s hs3
      rw [show zaQ A s = some (b', w) from hq] at h2s
      exact ⟨h2s.2.2.2.1, Nat.le_refl _, fun g hg => Or.inl ⟨g, hg, rfl⟩⟩
theorem zAI_w {K K' : Nat} {A : zAS} (h : zAI K A) (hk : K ≤ K') : zAI K' A := ⟨fun b hb => zBI_w (h.1 b hb) hk, h.2.1, by have := h.2.2; omega⟩
theorem zAI_S {K : Nat} {A : zAS} {s : Nat} {S : zSs} (h : zAI K A) (hS : s < 3 → zVI A.1 S.2.1 S.2.2.1) : zAI K (zsS A s S) := by
  refine ⟨h.1, fun s' hs => ?_, h.2.2⟩
  rw [zaV_S, zaQ_S]
  by_cases q : s' = s
  · rw [if_pos q, if_pos q]; exact hS (by omega)
  · rw [if_neg q, if_neg q]; exact h.2.1 s' hs
/-- of the other sessions nothing, of the own one neither the line nor whether it is connected, but by leaving -/
def zOw (A A' : zAS) (s : Nat) : Prop := (∀ s', s' ≠ s → A'.2.1 s' = A.2.1 s') ∧ zaL A' s = zaL A s ∧ (zaC A' s = zaC A s ∨ zaQ A' s = none)
theorem zOw_B {A : zAS} {s : Nat} {F : Nat → zBx} {x : Nat} : zOw A (F, A.2.1, x) s := ⟨fun _ _ => rfl, rfl, Or.inl rfl⟩
theorem zOw_S {A : zAS} {s : Nat} {S : zSs} (h1 : S.2.2.2.2 = zaL A s) (h2 : S.1 = zaC A s ∨ S.2.1 = none) : zOw A (zsS A s S) s := by
  refine ⟨fun s' q => zup_ne q, ?_, ?_⟩
  · rw [zaL_S, if_pos rfl]; exact h1
  · rw [zaC_S, if_pos rfl, zaQ_S, if_pos rfl]; exact h2
theorem zOw_tr {A A1 A2 : zAS} {s : Nat} (h : zOw A A1 s) (g : zOw A1 A2 s) (hq : zaQ A1 s = none → zaQ A2 s = none) : zOw A A2 s := by
  refine ⟨fun s' q => (g.1 s' q).trans (h.1 s' q), g.2.1.trans h.2.1, ?_⟩
  rcases g.2.2 with z | z
  · rcases h.2.2 with y | y
    · exact Or.inl (z.trans y)
    · exact Or.inr (hq y)
  · exact Or.inr z
theorem zPtell_ok {K : Nat} {A : zAS} {s k b : Nat} {u : Bool} (hK : K ≤ 65) (h : zAI K A) (hs : s < 3) (hT : zTk b (zaT A s)) : zAI K (zPtell A s k u) ∧ zTk (b + 712) (zaT (zPtell A s k u) s) ∧ zOw A (zPtell A s k u) s ∧ zaQ (zPtell A s k u) s = zaQ A s := by
  unfold zPtell
  by_cases kk : k = 2 ∨ k = 4 ∨ k = 7 ∨ k = 8
  · rw [if_pos kk]
    exact ⟨h, zTk_w hT (by omega), ⟨fun _ _ => rfl, rfl, Or.inl rfl⟩, rfl⟩
  rw [if_neg kk]
  have hv := h.2.1 s hs
  cases hq : zaQ A s with
  | none => exact ⟨h, zTk_w hT (by omega), ⟨fun _ _ => rfl, rfl, Or.inl rfl⟩, hq⟩
  | some q =>
    obtain ⟨bx, w⟩ := q
    rw [hq] at hv
    dsimp only
    obtain ⟨v1, v2, v3, v4, v5, v6⟩ := hv
    obtain ⟨m1, m2, m3, m4, m5, m6⟩ := h.1 bx v3
    obtain ⟨kp, hkp⟩ : ∃ kp : Bool, kp = (!u && decide (k = 10 ∨ k = 11 ∨ k = 13)) := ⟨_, rfl⟩
    rw [← hkp]
    obtain ⟨M, hM⟩ : ∃ M, M = zaM A bx := ⟨_, rfl⟩
    have hM' : (A.1 bx).2.2.2 = M := hM.symm
    rw [← hM]
    rw [hM'] at m1 m2 m3 m6 v6
    obtain ⟨V, hV⟩ : ∃ V, V = zaV A s := ⟨_, rfl⟩
    rw [← hV] at v1 v2 v5 v6 ⊢
    obtain ⟨a, ha⟩ : ∃ a, a = (if kp then (V, []) else zgn M 1 V) := ⟨_, rfl⟩
    have gn := zgn_ok (M := M) V 1 (by have := v2.1; omega)
    -- the view without what is gone
    have A1 : (a.1.map fun v => v.1).Pairwise (· < ·) ∧ a.1.length ≤ 40 ∧ (∀ v ∈ a.1, v.2 < 16 ∧ v.1 < (A.1 bx).2.2.1) ∧ (∀ g ∈ M, zhas a.1 g.1 = false → ∀ v ∈ a.1, v.1 < g.1) ∧ zTk 520 a.2 := by
      cases kp with
      | true =>
        rw [ha, if_pos rfl]
        exact ⟨v1, v2.1, fun v hv => ⟨v2.2 v hv, v5 v hv⟩, v6, zTk_w zTk_nil (by decide)⟩
      | false =>
        rw [ha, if_neg Bool.noConfusion]
        have sub : ∀ v ∈ (zgn M 1 V).1, v ∈ V ∧ zfd M v.1 = true := fun v hv => by rw [gn.1] at hv; exact List.mem_filter.1 hv
        refine ⟨?_, ?_, fun v hv => ⟨v2.2 v (sub v hv).1, v5 v (sub v hv).1⟩, fun g hg hh v hv => ?_, zTk_w gn.2 (by have := v2.1; omega)⟩
        · rw [gn.1, List.pairwise_map]
          rw [List.pairwise_map] at v1
          exact v1.filter _
        · rw [gn.1]
          exact Nat.le_trans (List.length_filter_le _ _) v2.1
        · refine v6 g hg ?_ v (sub v hv).1
          rw [zhas_f] at hh ⊢
          intro v' hv' e
          refine hh v' ?_ e
          rw [gn.1]
          exact List.mem_filter.2 ⟨hv', zfd_t.2 ⟨g, hg, e.symm⟩⟩
    obtain ⟨p1, p2, p3, p4, p5⟩ := A1
    have tk := ztk_ok (x := (A.1 bx).2.2.1) M a.1 m1 (fun g hg => ⟨m6 g hg, m2 g hg⟩) p1 p2 p3 p4
    obtain ⟨t1, t2, t3, t4⟩ := tk
    have exk : zTk 12 (if a.1.length < (ztk M a.1).length then zex (ztk M a.1).length else []) := zTk_if (zTk_ex (by omega))
    have T2 : zTk (b + 520 + 12) (zaT A s ++ a.2 ++ (if a.1.length < (ztk M a.1).length then zex (ztk M a.1).length else [])) := zTk_ap (zTk_ap hT p5) exk
    have L := ztl_ok (M := M) (V := ztk M a.1) m6 (ztk M a.1).length 1 _ (ztk M a.1, zaT A s ++ a.2 ++ (if a.1.length < (ztk M a.1).length then zex (ztk M a.1).length else [])) (by omega) rfl (fun v hv => (t3 v hv).1) T2
    have c10 := zcn_10 (M := M) (P := fun _ => true) t1 (ztk M a.1).length
    have hz : ztell M kp V (zaT A s) = zov (fun _ => true) (ztl1 M) (ztk M a.1).length 1 (ztk M a.1, zaT A s ++ a.2 ++ (if a.1.length < (ztk M a.1).length then zex (ztk M a.1).length else [])) := by rw [ha]; rfl
    rw [← hz] at L
    refine ⟨zAI_S h fun _ => ?_, ?_, zOw_S rfl (Or.inl rfl), ?_⟩
    · show zVI A.1 (zaQ A s) (ztell M kp V (zaT A s)).1
      rw [hq]
      refine zVI_V (V := ztk M a.1) ⟨t1, ⟨t2, fun v hv => (t3 v hv).1⟩, v3, v4, fun v hv => (t3 v hv).2, ?_⟩ L.1 L.2.1
      rw [hM']
      exact t4
    · unfold zaVT
      rw [zaT_S, if_pos rfl]
      exact zTk_w L.2.2 (by omega)
    · unfold zaVT
      rw [zaQ_S, if_pos rfl]
      exact hq
theorem zfn_ok {M : List zMg} {V : List (Nat × Nat)} {P : zHd} {u : Bool} (hV : ∀ v ∈ V, v.1 < 10000) : ∀ (f n b : Nat) (T : List Nat), n + f ≤ 100 → zTk b T → zTk (b + 5 * f) (zov P (zfn1 M V u) f n T)
  | 0, _, _, _, _, h => h
  | f + 1, n, b, T, hn, h => by
    have st : zTk (b + 5) (if P n = true then zfn1 M V u n T else T) := by
      split
      · unfold zfn1
        cases hv : V[n - 1]? with
        | none => exact zTk_w h (Nat.le_add_right _ _)
        | some v =>
          obtain ⟨v, t⟩ := v
          dsimp only
          have vl := hV _ (List.mem_of_getElem? hv)
          have vl : v < 10000 := vl
          split
          · exact zTk_w h (Nat.le_add_right _ _)
          · refine zTk_ap h (zTk_ap (a := 1) (b := 4) (zTk_1 (by decide)) (zTk_d4 ?_))
            split <;> omega
      · exact zTk_w h (Nat.le_add_right _ _)
    have ih := zfn_ok (M := M) (P := P) (u := u) hV f (n + 1) _ _ (by omega) st
    exact zTk_w ih (by omega)
theorem zPf_ok {K : Nat} {A : zAS} {s k : Nat} {c : Nat → Nat} {u : Bool} {a : zArg} (hK : K ≤ 64) (h : zAI K A) (hs : s < 3) (hk : 1 ≤ k ∧ k ≤ 13) (hf : zrf A s k a = false) (h1 : 5 ≤ k ∧ k ≤ 9 ∨ k = 12 → a.1 < 4) (h2 : k = 9 ∨ k = 10 → a.2.1 < 16) (h9 : k = 9 → a.2.2.2.2.1 ≤ 6) (hc : ∀ q, c q < 127) (hT : zaT A s = []) : zAI (K + 1) (zPf A s c k u a) ∧ zTk 212 (zaT (zPf A s c k u a) s) ∧ zOw A (zPf A s c k u a) s := by
  have T0 : zTk 212 (zaT A s) := by rw [hT]; exact zTk_w zTk_nil (by decide)
  have nil : zAI (K + 1) A ∧ zTk 212 (zaT A s) ∧ zOw A A s := ⟨zAI_w h (by omega), T0, fun _ _ => rfl, rfl, Or.inl rfl⟩
  unfold zrf at hf
  simp only [Bool.or_eq_false_iff, Bool.and_eq_false_iff, decide_eq_false_iff_not] at hf
  obtain ⟨⟨⟨⟨⟨⟨⟨f1, f2⟩, f3⟩, f4⟩, f5⟩, f6⟩, f7⟩, f8⟩ := hf
  unfold zPf
  by_cases k5 : k = 5
  · rw [if_pos k5]
    have b4 := h1 (by omega)
    have th : (A.1 a.1).1 = 0 := by
      rcases f5 with z | z
      · exact absurd k5 z
      · exact Classical.byContradiction z
    refine ⟨zAI_B (A := A) (K' := K + 1) h (by omega) (fun _ => ⟨List.Pairwise.nil, (by intro g hg; cases hg), Nat.zero_le _, (by show 1 ≤ _; omega), (by show A.2.2 + 1 ≤ _; have := h.2.2; omega), (by intro g hg; cases hg)⟩) (fun s' w h3 hq => ?_) (by have := h.2.2; omega), T0, zOw_B⟩
    have := h.2.1 s' h3
    rw [hq] at this
    exact absurd th this.2.2.2.1
  rw [if_neg k5]
  by_cases k6 : k = 6
  · rw [if_pos k6]
    have b4 := h1 (by omega)
    have B := h.1 _ b4
    have ns := f6.resolve_left (fun z => z k6)
    refine ⟨zAI_B (A := A) (K' := K + 1) h (by omega) (fun _ => zBI_w ⟨B.1, B.2⟩ (by omega)) (fun s' w h3 hq => ?_) (Nat.le_trans h.2.2 (by omega)), T0, zOw_B⟩
    exfalso
    have z : zqB (zaQ A s') a.1 = true := by rw [hq]; exact decide_eq_true rfl
    have : s' = 0 ∨ s' = 1 ∨ s' = 2 := by omega
    rcases this with e | e | e <;> rw [e] at z
    · rw [z] at ns; exact Bool.noConfusion ns.1.1
    · rw [z] at ns; exact Bool.noConfusion ns.1.2
    · rw [z] at ns; exact Bool.noConfusion ns.2
  rw [if_neg k6]
  by_cases k9 : k = 9
  · rw [if_pos k9]
    have b4 := h1 (by omega)
    obtain ⟨m1, m2, m3, m4, m5, m6⟩ := h.1 _ b4
    have n10 := f7.resolve_left (fun z => z k9)
    have th := f4.resolve_left (fun z => z (Or.inl (by omega)))
    have n10 : ¬ (A.1 a.1).2.2.2.length = 10 := n10
    have tl : zGk ((A.1 a.1).2.2.1, a.2.1, (List.range a.2.2.2.2.1).map fun q => c (a.2.2.2.1 + q)) := ⟨h2 (Or.inl k9), by rw [List.length_map, List.length_range]; exact h9 k9, fun x hx => by
      obtain ⟨q, -, e⟩ := List.mem_map.1 hx
      rw [← e]; exact hc _⟩
    obtain ⟨T, hTt⟩ : ∃ T, T = (List.range a.2.2.2.2.1).map fun q => c (a.2.2.2.1 + q) := ⟨_, rfl⟩
    rw [← hTt] at tl ⊢
    have ap := zap_pw (f := a.2.1) (T := T) m1 m2
    refine ⟨zAI_B (A := A) (K' := K + 1) h (by omega) (fun _ => ⟨ap.1, ap.2, ?_, by show _ + 1 ≤ _; omega, by show (A.1 a.1).2.1 ≤ _; omega, fun g hg => ?_⟩) (fun s' w h3 hq => ⟨?_, by show _ ≤ _ + 1; omega, fun g hg => ?_⟩) (Nat.le_trans h.2.2 (by omega)), T0, zOw_B⟩
    · show ((A.1 a.1).2.2.2 ++ [_]).length ≤ 10
      rw [List.length_append, List.length_singleton]
      omega
    · rcases List.mem_append.1 hg with z | z
      · exact m6 g z
      · rw [List.mem_singleton.1 z]; exact tl
    · have := h.2.1 s' h3
      rw [hq] at this
      exact this.2.2.2.1
    · rcases List.mem_append.1 hg with z | z
      · exact Or.inl ⟨g, z, rfl⟩
      · rw [List.mem_singleton.1 z]; exact Or.inr (Nat.le_refl _)
  rw [if_neg k9]
  by_cases k78 : k = 7 ∨ k = 8
  · rw [if_pos k78]
    have b4 := h1 (by omega)
    obtain ⟨m1, m2, m3, m4, m5, m6⟩ := h.1 _ b4
    have th := f4.resolve_left (fun z => z (Or.inl (by omega)))
    have nm : (((A.1 a.1).2.2.2.map zvof).map fun v => v.1) = (A.1 a.1).2.2.2.map fun g => g.1 := by
      rw [List.map_map]; rfl
    refine ⟨zAI_w (zAI_S h fun _ => ⟨?_, ⟨?_, ?_⟩, b4, th, ?_, ?_⟩) (by omega), ?_, zOw_S rfl (Or.inl rfl)⟩
    · show (((A.1 a.1).2.2.2.map zvof).map fun v => v.1).Pairwise _
      rw [nm]; exact m1
    · show ((A.1 a.1).2.2.2.map zvof).length ≤ 40
      rw [List.length_map]; omega
    · intro v hv
      obtain ⟨g, z1, z2⟩ := List.mem_map.1 (show v ∈ (A.1 a.1).2.2.2.map zvof from hv)
      rw [← z2]; exact (m6 g z1).1
    · intro v hv
      obtain ⟨g, z1, z2⟩ := List.mem_map.1 (show v ∈ (A.1 a.1).2.2.2.map zvof from hv)
      rw [← z2]; exact m2 g z1
    · intro g hg hh
      exfalso
      rw [zhas_f] at hh
      exact hh (zvof g) (List.mem_map.2 ⟨g, hg, rfl⟩) rfl
    · unfold zPselect
      rw [zaT_S, if_pos rfl]
      show zTk 212 (zaT A s ++ zsT (A.1 a.1).2.2.2.length (A.1 a.1).2.1 (A.1 a.1).2.2.1)
      rw [hT]
      exact zTk_w (zTk_ap zTk_nil (zTk_sT (by omega) (by omega) (by omega))) (by decide)
  rw [if_neg k78]
  have lv : ∀ (A : zAS) (cn : Bool), zAI K A → zTk 212 (zaT A s) → zAI (K + 1) (zPleave A s cn) ∧ zTk 212 (zaT (zPleave A s cn) s) ∧ zOw A (zPleave A s cn) s := fun A cn h T0 => by
    refine ⟨zAI_w (zAI_S h fun _ => ⟨List.Pairwise.nil, ⟨Nat.zero_le _, by intro v hv; cases hv⟩, rfl⟩) (by omega), ?_, zOw_S rfl (Or.inr rfl)⟩
    unfold zPleave
    rw [zaT_S, if_pos rfl]
    exact T0
  by_cases k4 : k = 4
  · rw [if_pos k4]
    exact lv A false h T0
  rw [if_neg k4]
  cases hq : zaQ A s with
  | none => exact nil
  | some q =>
    obtain ⟨b, w⟩ := q
    dsimp only
    have hv := h.2.1 s hs
    rw [hq] at hv
    obtain ⟨v1, v2, v3, v4, v5, v6⟩ := hv
    obtain ⟨m1, m2, m3, m4, m5, m6⟩ := h.1 b v3
    have sel : ∀ s' w, s' < 3 → zaQ A s' = some (b, w) → (A.1 b).1 ≠ 0 := fun _ _ _ _ => v4
    have cl : zAI K (zPclean A b) := by
      refine zAI_B (A := A) h (Nat.le_refl K) (fun _ => ⟨?_, fun g hg => m2 g (List.mem_filter.1 hg).1, Nat.le_trans (List.length_filter_le _ _) m3, m4, m5, fun g hg => m6 g (List.mem_filter.1 hg).1⟩) (fun s' w h3 hq => ⟨v4, Nat.le_refl _, fun g hg => Or.inl ⟨g, (List.mem_filter.1 hg).1, rfl⟩⟩) h.2.2
      rw [List.pairwise_map] at m1 ⊢
      exact m1.filter _
    by_cases k3 : k = 3
    · rw [if_pos k3]
      exact ⟨zAI_w cl (by omega), T0, zOw_B⟩
    rw [if_neg k3]
    by_cases k2 : k = 2
    · rw [if_pos k2]
      cases w with
      | true =>
        rw [if_pos rfl]
        have L := lv (zPclean A b) (zaC A s) cl T0
        exact ⟨L.1, L.2.1, zOw_tr zOw_B L.2.2 (fun _ => by unfold zPleave; rw [zaQ_S, if_pos rfl])⟩
      | false =>
        rw [if_neg Bool.noConfusion]
        exact lv A (zaC A s) h T0
    rw [if_neg k2]
    by_cases k13 : k = 13
    · rw [if_pos k13]
      have t := zfn_ok (M := zaM A b) (V := zaV A s) (P := a.2.2.2.2.2.2.2) (u := u) (fun v hv => by have := v5 v hv; omega) (zaV A s).length 1 8 [42, 32, 83, 69, 65, 82, 67, 72] (by have := v2.1; omega) (zTk_l rfl)
      have L := v2.1
      refine ⟨zAI_w (zAI_S h fun _ => ?_) (by omega), ?_, zOw_S rfl (Or.inl rfl)⟩
      · show zVI A.1 (zaQ A s) (zaV A s)
        exact h.2.1 s hs
      · unfold zPfind zaVT
        rw [zaT_S, if_pos rfl]
        show zTk 212 (zaT A s ++ (_ ++ [10]))
        rw [hT]
        exact zTk_w (zTk_ap zTk_nil (zTk_ap t (zTk_1 (x := 10) (by decide)))) (by omega)
    rw [if_neg k13]
    by_cases k12 : k = 12
    · rw [if_pos k12]
      have b4 := h1 (Or.inr k12)
      obtain ⟨d1, d2, d3, d4, d5, d6⟩ := h.1 _ b4
      have th := f4.resolve_left (fun z => z (Or.inr k12))
      have cn := f8.resolve_left (fun z => z k12)
      have cn : ¬ 10 < (A.1 a.1).2.2.2.length + zcn (zaM A b) (zaV A s) a.2.2.2.2.2.2.2 (zaV A s).length 1 := by
        have e : zaN A s a.2.2.2.2.2.2.2 = zcn (zaM A b) (zaV A s) a.2.2.2.2.2.2.2 (zaV A s).length 1 := by unfold zaN; rw [hq]
        rw [← e]; exact cn
      have C := zcp_ok (M := zaM A b) (B := zaM A a.1) (V := zaV A s) (P := a.2.2.2.2.2.2.2) (x := (A.1 a.1).2.2.1) m6 (zaV A s).length 1 ((A.1 a.1).2.2.1, zaM A a.1) ⟨d1, d2, d6, fun g hg => Or.inl ⟨g, hg, rfl⟩, rfl, Nat.le_refl _⟩
      obtain ⟨σ, hσ⟩ : ∃ σ, σ = zov a.2.2.2.2.2.2.2 (zcp1 (zaM A b) (zaV A s)) (zaV A s).length 1 ((A.1 a.1).2.2.1, zaM A a.1) := ⟨_, rfl⟩
      rw [← hσ] at C ⊢
      obtain ⟨⟨e1, e2, e3, e4, e5, e6⟩, e7⟩ := C
      have e7 : σ.2.length ≤ (A.1 a.1).2.2.2.length + zcn (zaM A b) (zaV A s) a.2.2.2.2.2.2.2 (zaV A s).length 1 := e7
      have e5 : σ.1 + (A.1 a.1).2.2.2.length = (A.1 a.1).2.2.1 + σ.2.length := e5
      refine ⟨zAI_B (A := A) (K' := K + 1) h (by omega) (fun _ => ⟨e1, e2, by show σ.2.length ≤ 10; omega, by show σ.1 ≤ _; omega, by show (A.1 a.1).2.1 ≤ _; omega, e3⟩) (fun s' w h3 hq => ⟨th, e6, e4⟩) (Nat.le_trans h.2.2 (by omega)), T0, zOw_B⟩
    rw [if_neg k12]
    by_cases k10 : 10 ≤ k
    · rw [if_pos k10]
      have J := zsF_ok (M := zaM A b) (V := zaV A s) (P := a.2.2.2.2.2.2.2) (k := k) (sg := a.2.2.1) (mk := a.2.1) (it := a.2.2.2.2.2.1) (w := w) (x := (A.1 b).2.2.1) (fun z => h2 (Or.inr z)) m2 (by omega) (zaV A s).length 1 0 (zaM A b, zaV A s, zaT A s) (by have := v2.1; omega) ⟨rfl, rfl, m6, v2.2, by show zTk 0 (zaT A s); rw [hT]; exact zTk_nil⟩
      have c10 := zcn_10 (M := zaM A b) (P := fun _ => true) v1 (zaV A s).length
      have c10 : zcn (zaM A b) (zaV A s) (fun _ => true) (zaV A s).length 1 ≤ (A.1 b).2.2.2.length := c10
      obtain ⟨σ, hσ⟩ : ∃ σ, σ = zov a.2.2.2.2.2.2.2 (zsF1 k a.2.2.1 a.2.1 a.2.2.2.2.2.1 w) (zaV A s).length 1 (zaM A b, zaV A s, zaT A s) := ⟨_, rfl⟩
      rw [← hσ] at J ⊢
      obtain ⟨e1, e2, e3, e4, e5⟩ := J
      have e1 : (σ.1.map fun g => g.1) = (A.1 b).2.2.2.map fun g => g.1 := e1
      have memo : ∀ g ∈ σ.1, ∃ g0 ∈ (A.1 b).2.2.2, g0.1 = g.1 := fun g hg => by
        have : g.1 ∈ σ.1.map fun g => g.1 := List.mem_map.2 ⟨g, hg, rfl⟩
        rw [e1] at this
        exact List.mem_map.1 this
      have ln : σ.1.length = (A.1 b).2.2.2.length := by have := congrArg List.length e1; rwa [List.length_map, List.length_map] at this
      have h' : zAI K (zaMs A b σ.1) := zAI_B (A := A) h (Nat.le_refl K) (fun _ => ⟨by rw [e1]; exact m1, fun g hg => by
        obtain ⟨g0, z1, z2⟩ := memo g hg
        rw [← z2]; exact m2 g0 z1, by show σ.1.length ≤ 10; omega, m4, m5, e3⟩) (fun s' w h3 hq => ⟨v4, Nat.le_refl _, fun g hg => Or.inl (memo g hg)⟩) h.2.2
      refine ⟨zAI_w (zAI_S h' fun _ => ?_) (by omega), ?_, ⟨fun s' q => zup_ne q, ?_, ?_⟩⟩
      · show zVI (zaMs A b σ.1).1 (zaQ (zaMs A b σ.1) s) σ.2.1
        exact zVI_V (h'.2.1 s hs) e2 e4
      · unfold zPover zaVT
        rw [zaT_S, if_pos rfl]
        exact zTk_w e5 (by omega)
      · unfold zPover zaVT
        rw [zaL_S, if_pos rfl]
        rfl
      · unfold zPover zaVT
        rw [zaC_S, if_pos rfl]
        exact Or.inl rfl
    · rw [if_neg k10]
      exact nil
