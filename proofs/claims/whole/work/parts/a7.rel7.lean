/-! ===== the class tells a view's changes ===== -/
section
variable {L : Nat} {xs : Nat → Int32} {h : zH} {m : zMm} {O : zOt} {R : Nat → List Nat} {W : Nat → List (Nat × Nat)} {A : zAS} {K : Nat}
theorem zLk_mp {O : zOt} {R : List Nat} {V U : List (Nat × Nat)} (h : zLk O R V) (e : U.map (fun v => v.1) = V.map fun v => v.1) : zLk O R U := by
  have mem : ∀ v ∈ U, ∃ x ∈ V, x.1 = v.1 := fun v hv => by
    have : v.1 ∈ V.map (fun v => v.1) := by rw [← e]; exact List.mem_map_of_mem hv
    obtain ⟨x, hx, e⟩ := List.mem_map.mp this
    exact ⟨x, hx, e⟩
  refine ⟨fun v hv p => ?_, h.2.1, fun v hv r hr p => ?_⟩
  · obtain ⟨x, hx, e⟩ := mem v hv
    rw [← e]
    exact h.1 x hx (by rw [e]; exact p)
  · obtain ⟨x, hx, e⟩ := mem v hv
    rw [← e]
    exact h.2.2 x hx r hr (by rw [e]; exact p)
theorem zhas_mp {O : zOt} {V U : List (Nat × Nat)} (e : U.map (fun v => v.1) = V.map fun v => v.1) (x : Nat) : zhas (zVs O U) x = zhas (zVs O V) x := by
  have en : ∀ U : List (Nat × Nat), zhas (zVs O U) x = (U.map (fun v => v.1)).any fun o => decide ((O o).1 = x) := fun U => by
    unfold zhas zVs
    rw [List.any_map, List.any_map]
    rfl
  rw [en, en, e]
theorem ztF_m {O : zOt} : ∀ (V : List (Nat × Nat)) (n : Nat), (ztF O n V).1.map (fun v => v.1) = V.map fun v => v.1
  | [], _ => rfl
  | v :: V, n => by
    unfold ztF
    split
    · exact congrArg (List.cons v.1) (ztF_m V (n + 1))
    · exact congrArg (List.cons v.1) (ztF_m V (n + 1))
theorem ztC_ok {O : zOt} {R : List Nat} {V : List (Nat × Nat)} {n x : Nat} {g : Bool} (h : zLk O R V) (hp : (R.map fun r => (O r).1).Pairwise (· < ·)) (hh : ∀ r ∈ R, (n < (O r).1 ↔ zhas (zVs O V) (O r).1 = false)) (hn : n < x) (hx : ∀ r ∈ R, (O r).1 < x) : zLk O R (ztC O R g V n).1 ∧ (ztC O R g V n).2.2 < x ∧ ∀ r ∈ R, ((ztC O R g V n).2.2 < (O r).1 ↔ zhas (zVs O (ztC O R g V n).1) (O r).1 = false) := by
  obtain ⟨U, hU⟩ : ∃ U, U = (if g = true then ztG O 1 V else (V, [])).1 := ⟨_, rfl⟩
  have hu : zLk O R U ∧ ∀ r ∈ R, (n < (O r).1 ↔ zhas (zVs O U) (O r).1 = false) := by
    rw [hU]
    cases g with
    | false => exact ⟨h, hh⟩
    | true =>
      rw [if_pos rfl]
      have fl := ztG_fl (O := O) V 1
      rw [fl]
      refine ⟨zLk_sub h fun v hv => (List.mem_filter.mp hv).1, fun r hr => (hh r hr).trans ?_⟩
      have key : zhas (zVs O (V.filter fun v => !(O v.1).2.2.1)) (O r).1 = zhas (zVs O V) (O r).1 := by
        unfold zhas zVs
        rw [List.any_map, List.any_map, Bool.eq_iff_iff, List.any_eq_true, List.any_eq_true]
        constructor
        · rintro ⟨v, hv, p⟩
          exact ⟨v, (List.mem_filter.mp hv).1, p⟩
        · rintro ⟨v, hv, p⟩
          refine ⟨v, List.mem_filter.mpr ⟨hv, ?_⟩, p⟩
          have e := h.2.2 v hv r hr (of_decide_eq_true p)
          rw [e, h.2.1 r hr]
          rfl
      rw [key]
  have e1 : (ztC O R g V n).1 = (ztF O 1 (ztN O R U n).1).1 := by rw [hU]; rfl
  have e2 : (ztC O R g V n).2.2 = (ztN O R U n).2 := by rw [hU]; rfl
  rw [e1, e2]
  refine ⟨zLk_mp (zLk_N hu.1 hp) (ztF_m _ 1), ?_, fun r hr => ?_⟩
  · rcases ztN_n (O := O) R U n with e | ⟨r, hr, e⟩
    · rw [e]; exact hn
    · rw [e]; exact hx r hr
  · rw [zhas_mp (ztF_m _ 1)]
    exact ztN_new R U n hp hu.2 r hr
/-- the view is told, gone places too where g -/
def zTl (A : zAS) (s : Nat) (g : Bool) : zAS := match zaQ A s with
  | none => A
  | some q => zaVT A s (ztell (zaM A q.1) (!g) (zaV A s) (zaT A s)).1 (ztell (zaM A q.1) (!g) (zaV A s) (zaT A s)).2
theorem s58k (z : zKJ h m O R W A) (I : zAI K A) (hK : K ≤ 65) {s : Nat} (hs : s < 3) (g : Bool) (hl : (zaT (zTl A s g) s).length ≤ 1024) : ∃ h' m' W', zCl (zPr L xs) 58 [.ref (111 + 7 * s), .int (nI g.toNat)] (zMH h m) = some (.inl none, zMH h' m') ∧ zKJ h' m' O R W' (zTl A s g) ∧ zHf 0 0 h h' ∧ zCg m m' := by
  have hx := z.1.1
  have k := z.2.2.1 s hs
  obtain ⟨k1, k2, k3, k4, k6, k7⟩ := k
  cases hq : zaQ A s with
  | none =>
    have e : zTl A s g = A := by unfold zTl; rw [hq]
    rw [e]
    rw [hq] at k2
    exact ⟨h, m, W, s58n hs hx k2, z, zHf_rf h, zCg_rf m⟩
  | some q =>
    obtain ⟨b, w⟩ := q
    rw [hq] at k2 k7
    obtain ⟨q1, q2, q3, q4⟩ := k7
    have hb : b < 4 := q1
    have q2 : zLk O (R b) (W s) := q2
    have q3 : m 403 (115 + 7 * s) 0 < (A.1 b).2.2.1 := q3
    have q4 : ∀ r ∈ R b, (m 403 (115 + 7 * s) 0 < (O r).1 ↔ zhas (zVs O (W s)) (O r).1 = false) := q4
    obtain ⟨p1, p2, p3, p4, -⟩ := zrow_p z I hb
    have ob := z.2.1 b hb
    obtain ⟨h', m', e, f, cf, c3, -, ry, gl⟩ := s58 (L := L) (xs := xs) (g := g) hs hb z.1 k2 k4.1 (by omega)
    have tl := ztC_lk (g := g) (zaT A s) q2 p1 q4
    have eT : zTl A s g = zaVT A s (zVs O (ztC O (R b) g (W s) (m 403 (115 + 7 * s) 0)).1) (zaT A s ++ (ztC O (R b) g (W s) (m 403 (115 + 7 * s) 0)).2.1) := by
      unfold zTl
      rw [hq]
      dsimp only
      rw [ob.2.2.2.1, k6, tl]
    rw [eT] at hl ⊢
    have hl' : (zaT A s ++ (ztC O (R b) g (W s) (m 403 (115 + 7 * s) 0)).2.1).length ≤ 1024 := by
      unfold zaVT at hl
      rw [zaT_S, if_pos rfl] at hl
      exact hl
    have rp := zRy_eq ry k4.2 hl'
    have co := ztC_ok (g := g) q2 p1 q4 q3 p2
    refine ⟨h', m', _, e, zKJ_S z hs gl (fun g a i ha => cf _ _ _ (by unfold zVq zRq; omega)) (fun s' hs' ne g a i h1 h2 => cf _ _ _ (by unfold zVq zRq; omega)) (fun s' hs' _ => zHf_355 hx hs' f) ?_, f, zCg_vq hs cf⟩
    unfold zKT
    rw [zaC_S, zaQ_S, zaV_S, zaT_S, if_pos rfl, if_pos rfl, if_pos rfl, if_pos rfl, zup_eq, zHf_355 hx hs f, cf 353 _ _ (by unfold zVq zRq; omega), cf 356 _ _ (by unfold zVq zRq; omega), c3, hq]
    refine ⟨k1, k2, ?_, rp, rfl, hb, co.1, co.2.1, co.2.2⟩
    rw [k3, hq]
/-! nothing is told where a view is as its mailbox -/
theorem zfind_of {M : List zMg} (hp : (M.map fun g => g.1).Pairwise (· < ·)) : ∀ g ∈ M, zfind M g.1 = some g := by
  induction M with
  | nil => exact fun g hg => absurd hg List.not_mem_nil
  | cons x M ih =>
    rw [List.map_cons, List.pairwise_cons] at hp
    intro g hg
    unfold zfind
    rcases List.mem_cons.mp hg with rfl | hg
    · exact List.find?_cons_of_pos (p := fun x : zMg => decide (x.1 = g.1)) (decide_eq_true rfl)
    · have := hp.1 _ (List.mem_map_of_mem hg)
      rw [List.find?_cons_of_neg (by intro q; have := of_decide_eq_true q; omega)]
      exact ih hp.2 g hg
theorem zgn_all {M : List zMg} : ∀ (V : List (Nat × Nat)) (n : Nat), (∀ v ∈ V, (zfind M v.1).isSome = true) → zgn M n V = (V, [])
  | [], _, _ => rfl
  | v :: V, n, h => by
    unfold zgn
    have hv := h v List.mem_cons_self
    cases e : zfind M v.1 with
    | none => rw [e] at hv; cases hv
    | some g =>
      dsimp only
      rw [zgn_all V (n + 1) fun x hx => h x (List.mem_cons_of_mem _ hx)]
theorem ztk_id : ∀ (M : List zMg) (V : List (Nat × Nat)), (∀ g ∈ M, zhas V g.1 = true) → ztk M V = V
  | [], _, _ => rfl
  | g :: M, V, h => by
    unfold ztk
    rw [if_neg (fun q => by rw [h g List.mem_cons_self] at q; cases q.2)]
    exact ztk_id M V fun x hx => h x (List.mem_cons_of_mem _ hx)
theorem zov_id {α : Type} {P : zHd} {step : Nat → α → α} {σ : α} : ∀ (f n : Nat), (∀ q, n ≤ q → step q σ = σ) → zov P step f n σ = σ
  | 0, _, _ => rfl
  | f + 1, n, h => by
    unfold zov
    rw [h n (Nat.le_refl _), ite_self]
    exact zov_id f (n + 1) fun q hq => h q (by omega)
theorem ztell_id {M : List zMg} {T : List Nat} (hp : (M.map fun g => g.1).Pairwise (· < ·)) : ztell M false (M.map zvof) T = (M.map zvof, T) := by
  have fd := zfind_of hp
  have e1 : zgn M 1 (M.map zvof) = (M.map zvof, []) := zgn_all _ _ fun v hv => by
    obtain ⟨g, hg, rfl⟩ := List.mem_map.mp hv
    show (zfind M g.1).isSome = true
    rw [fd g hg]
    rfl
  have e2 : ztk M (M.map zvof) = M.map zvof := ztk_id _ _ fun g hg => List.any_eq_true.mpr ⟨zvof g, List.mem_map_of_mem hg, decide_eq_true rfl⟩
  unfold ztell
  dsimp only
  rw [if_neg Bool.noConfusion, e1]
  dsimp only
  rw [e2, if_neg (Nat.lt_irrefl _), List.append_nil, List.append_nil]
  refine zov_id _ _ fun q hq => ?_
  unfold ztl1
  dsimp only
  rw [List.getElem?_map]
  cases eg : M[q - 1]? with
  | none => rfl
  | some g =>
    show (match zfind M g.1 with
      | none => (M.map zvof, T)
      | some x => if x.2.1 = g.2.1 then (M.map zvof, T) else _) = _
    rw [fd g (List.mem_of_getElem? eg)]
    dsimp only
    rw [if_pos rfl]
/-- what the abstract machine tells -/
theorem zPtell_tl {A : zAS} {s k : Nat} {u : Bool} (hk : ¬ (k = 2 ∨ k = 4 ∨ k = 7 ∨ k = 8)) : zPtell A s k u = zTl A s (u || !decide (k = 10 ∨ k = 11 ∨ k = 13)) := by
  unfold zPtell zTl
  rw [if_neg hk]
  cases zaQ A s with
  | none => rfl
  | some q =>
    obtain ⟨b, w⟩ := q
    dsimp only
    rw [Bool.not_or, Bool.not_not]
theorem zTl_none {A : zAS} {s : Nat} {g : Bool} (hq : zaQ A s = none) : zTl A s g = A := by
  unfold zTl
  rw [hq]
theorem zaVT_self (A : zAS) (s : Nat) : zaVT A s (zaV A s) (zaT A s) = A := zsS_self A s
theorem zTl_sel {A : zAS} {s b : Nat} {w : Bool} {K : Nat} (I : zAI K A) (hb : b < 4) : zTl (zPselect A s b w) s true = zPselect A s b w := by
  have eS : (zPselect A s b w).2.1 s = (zaC A s, some (b, w), (zaM A b).map zvof, zaT A s ++ zsT (zaM A b).length (A.1 b).2.1 (A.1 b).2.2.1, zaL A s) := zup_eq _ _ _
  have eQ : zaQ (zPselect A s b w) s = some (b, w) := (congrArg (fun S : zSs => S.2.1) eS).trans rfl
  have eV : zaV (zPselect A s b w) s = (zaM A b).map zvof := (congrArg (fun S : zSs => S.2.2.1) eS).trans rfl
  have eM : zaM (zPselect A s b w) b = zaM A b := rfl
  have id := ztell_id (T := zaT (zPselect A s b w) s) (I.1 b hb).1
  unfold zTl
  rw [eQ]
  dsimp only
  rw [eM, eV]
  show zaVT _ s (ztell (zaM A b) false ((zaM A b).map zvof) _).1 (ztell (zaM A b) false ((zaM A b).map zvof) _).2 = _
  rw [show ztell (zaM A b) false ((zaM A b).map zvof) (zaT (zPselect A s b w) s) = _ from id]
  show zaVT (zPselect A s b w) s ((zaM A b).map zvof) (zaT (zPselect A s b w) s) = _
  rw [← eV]
  exact zaVT_self _ _
theorem zTl_ptell {A : zAS} {s k : Nat} {c : Nat → Nat} {u : Bool} {a : zArg} {K : Nat} (I : zAI K A) (hk : 1 ≤ k ∧ k ≤ 13) (ha : a.1 < 4) (hf : zrf A s k a = false) (hu : u = true → 10 ≤ k) : zPtell (zPf A s c k u a) s k u = zTl (zPf A s c k u a) s (u || !decide (k = 10 ∨ k = 11 ∨ k = 13)) := by
  by_cases kk : k = 2 ∨ k = 4 ∨ k = 7 ∨ k = 8
  · have e : zPtell (zPf A s c k u a) s k u = zPf A s c k u a := if_pos kk
    have uf : u = false := by
      cases u with
      | false => rfl
      | true => have := hu rfl; omega
    rw [e, uf]
    rcases kk with rfl | rfl | rfl | rfl
    · rw [zrf_2] at hf
      cases hq : zaQ A s with
      | none => rw [hq] at hf; cases hf
      | some q =>
        obtain ⟨b, w⟩ := q
        rw [zPf_2 hq, zTl_none]
        unfold zPleave
        rw [zaQ_S, if_pos rfl]
    · rw [zPf_4, zTl_none]
      unfold zPleave
      rw [zaQ_S, if_pos rfl]
    · rw [zPf_7]
      exact (zTl_sel I ha).symm
    · rw [zPf_8]
      exact (zTl_sel I ha).symm
  · exact zPtell_tl kk
end
