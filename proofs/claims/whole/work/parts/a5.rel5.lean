/-! ===== sessions in the class ===== -/
section
variable {h h' : zH} {m m' : zMm} {O O' : zOt} {R : Nat → List Nat} {W : Nat → List (Nat × Nat)} {A : zAS} {K : Nat} {s : Nat}
/-- only one session is another -/
theorem zKJ_S {V : List (Nat × Nat)} {S : zSs} (z : zKJ h m O R W A) (hs : s < 3) (g : zGl h' m' O R (zup W s V)) (lo : ∀ g a i, a < 111 → m' g a i = m g a i) (oth : ∀ s', s' < 3 → s' ≠ s → ∀ g a i, 111 + 7 * s' ≤ a → a < 118 + 7 * s' → m' g a i = m g a i) (hq : ∀ s', s' < 3 → s' ≠ s → zR h' 355 (111 + 7 * s') 0 = zR h 355 (111 + 7 * s') 0) (kt : zKT h' m' O R (zup W s V) (zsS A s S) s) : zKJ h' m' O R (zup W s V) (zsS A s S) := by
  refine ⟨g, fun b hb => zKB_fr (z.2.1 b hb) (fun g i => lo _ _ _ (by omega)) rfl, fun s' hs' => ?_, (lo _ _ _ (by omega)).trans z.2.2.2.1, z.2.2.2.2⟩
  by_cases e : s' = s
  · rw [e]
    exact kt
  · exact zKT_cg (z.2.2.1 s' hs') (oth s' hs' e) (hq s' hs' e) (zup_ne e) (zup_ne e) (fun v _ => rfl) fun q => q
theorem zsS_self (A : zAS) (s : Nat) : zsS A s (zaC A s, zaQ A s, zaV A s, zaT A s, zaL A s) = A := by
  obtain ⟨B, S, n⟩ := A
  show (B, zup S s (S s), n) = (B, S, n)
  rw [zup_id]
theorem zsR_o {h : zH} {s s' : Nat} {x : Option Nat} (e : s' ≠ s) : zR (zsR h 355 (111 + 7 * s) 0 x) 355 (111 + 7 * s') 0 = zR h 355 (111 + 7 * s') 0 := if_neg fun q => e (by omega)
/-- a session leaves its mailbox -/
theorem zKJ_leave (z : zKJ h m O R W A) (hs : s < 3) {cn : Bool} (g : zGl (zsR h 355 (111 + 7 * s) 0 none) m' O R (zup W s [])) (c1 : m' 356 (111 + 7 * s) 0 = 0) (c2 : m' 353 (111 + 7 * s) 0 = cn.toNat) (cf : zCf (fun g a => ((g = 356 ∨ g = 353) ∧ a = 111 + 7 * s) ∨ ((g = 402 ∨ g = 403) ∧ a = 115 + 7 * s)) m m') : zKJ (zsR h 355 (111 + 7 * s) 0 none) m' O R (zup W s []) (zPleave A s cn) := by
  refine zKJ_S z hs g (fun g a i ha => cf _ _ _ (by omega)) (fun s' hs' e g a i h1 h2 => cf _ _ _ (by omega)) (fun s' hs' e => zsR_o e) ?_
  have k := z.2.2.1 s hs
  have cp := zcp_cf (s := s) cf (by omega) (by omega)
  unfold zKT
  rw [zaC_S, zaQ_S, zaV_S, zaT_S, if_pos rfl, if_pos rfl, if_pos rfl, if_pos rfl, zup_eq, c1, c2, cp.1, cp.2, zsR_e]
  exact ⟨rfl, rfl, rfl, k.2.2.2.1, rfl, rfl⟩
theorem zRy_eq {t T : List Nat} (a : zRy s m m' t) (hT : zcp m s = T) (hl : (T ++ t).length ≤ 1024) : zcL m' s ≤ 1024 ∧ zcp m' s = T ++ t := ⟨a.1, by rw [a.2, hT, List.take_of_length_le hl]⟩
theorem ztk_all : ∀ (M : List zMg) (V : List (Nat × Nat)), ((V.map fun v => v.1) ++ (M.map fun g => g.1)).Pairwise (· < ·) → V.length + M.length ≤ 40 → ztk M V = V ++ M.map zvof
  | [], V, _, _ => (List.append_nil V).symm
  | g :: M, V, hp, hl => by
    rw [List.length_cons] at hl
    have nh : zhas V g.1 = false := by
      unfold zhas
      rw [List.any_eq_false]
      intro v hv q
      have e := of_decide_eq_true q
      have := (List.pairwise_append.mp hp).2.2 v.1 (List.mem_map_of_mem hv) g.1 List.mem_cons_self
      omega
    unfold ztk
    rw [if_pos ⟨by omega, nh⟩, ztk_all M (V ++ [(g.1, g.2.1)]) (by rw [List.map_append, List.append_assoc]; exact hp) (by rw [List.length_append]; show V.length + 1 + M.length ≤ 40; omega), List.append_assoc]
    rfl
/-- what is newest in a view -/
theorem ztN_n : ∀ (S : List Nat) (V : List (Nat × Nat)) (n : Nat), (ztN O S V n).2 = n ∨ ∃ r ∈ S, (ztN O S V n).2 = (O r).1
  | [], _, _ => Or.inl rfl
  | r :: S, V, n => by
    unfold ztN
    by_cases q : n < (O r).1 ∧ V.length < 40
    · rw [if_pos q]
      rcases ztN_n S (V ++ [(r, (O r).2.1)]) (O r).1 with e | ⟨x, hx, e⟩
      · exact Or.inr ⟨r, List.mem_cons_self, e⟩
      · exact Or.inr ⟨x, List.mem_cons_of_mem _ hx, e⟩
    · rw [if_neg q]
      rcases ztN_n S V n with e | ⟨x, hx, e⟩
      · exact Or.inl e
      · exact Or.inr ⟨x, List.mem_cons_of_mem _ hx, e⟩
theorem zhas_ap (V U : List (Nat × Nat)) (x : Nat) : zhas (V ++ U) x = (zhas V x || zhas U x) := List.any_append
theorem ztN_full : ∀ (S : List Nat) (V : List (Nat × Nat)) (n : Nat), 40 ≤ V.length → ztN O S V n = (V, n)
  | [], _, _, _ => rfl
  | r :: S, V, n, h => by
    unfold ztN
    rw [if_neg (fun q => by omega), ztN_full S V n h]
/-- what was in a view stays, and the newest rises -/
theorem ztN_mono : ∀ (S : List Nat) (V : List (Nat × Nat)) (n : Nat), n ≤ (ztN O S V n).2 ∧ ∀ x, zhas (zVs O V) x = true → zhas (zVs O (ztN O S V n).1) x = true
  | [], _, _ => ⟨Nat.le_refl _, fun _ h => h⟩
  | r :: S, V, n => by
    unfold ztN
    by_cases q : n < (O r).1 ∧ V.length < 40
    · rw [if_pos q]
      obtain ⟨a, b⟩ := ztN_mono S (V ++ [(r, (O r).2.1)]) (O r).1
      exact ⟨by omega, fun x h => b x (by rw [zVs_ap, zhas_ap, h, Bool.true_or])⟩
    · rw [if_neg q]
      exact ztN_mono S V n
theorem ztN_new : ∀ (S : List Nat) (V : List (Nat × Nat)) (n : Nat), (S.map fun r => (O r).1).Pairwise (· < ·) → (∀ r ∈ S, (n < (O r).1 ↔ zhas (zVs O V) (O r).1 = false)) → ∀ r ∈ S, ((ztN O S V n).2 < (O r).1 ↔ zhas (zVs O (ztN O S V n).1) (O r).1 = false)
  | [], _, _, _, _, _, hr => absurd hr List.not_mem_nil
  | o :: S, V, n, hp, hh, r, hr => by
    rw [List.map_cons, List.pairwise_cons] at hp
    by_cases q : n < (O o).1 ∧ V.length < 40
    · have e : ztN O (o :: S) V n = ztN O S (V ++ [(o, (O o).2.1)]) (O o).1 := if_pos q
      rw [e]
      rcases List.mem_cons.mp hr with rfl | hr
      · obtain ⟨a, b⟩ := ztN_mono (O := O) S (V ++ [(r, (O r).2.1)]) (O r).1
        have hm : zhas (zVs O (V ++ [(r, (O r).2.1)])) (O r).1 = true := by
          rw [zVs_ap, zhas_ap]
          have : zhas (zVs O [(r, (O r).2.1)]) (O r).1 = true := by
            show (decide ((O r).1 = (O r).1) || false) = true
            rw [decide_eq_true rfl]
            rfl
          rw [this, Bool.or_true]
        rw [b _ hm]
        exact ⟨fun c => by omega, fun c => by cases c⟩
      · refine ztN_new S (V ++ [(o, (O o).2.1)]) (O o).1 hp.2 (fun x hx => ?_) r hr
        have lt := hp.1 _ (List.mem_map_of_mem hx)
        have hx' := hh x (List.mem_cons_of_mem _ hx)
        rw [zVs_ap, zhas_ap, hx'.mp (by omega), Bool.false_or]
        refine ⟨fun _ => ?_, fun _ => lt⟩
        show (decide ((O o).1 = (O x).1) || false) = false
        rw [decide_eq_false (by omega)]
        rfl
    · have e : ztN O (o :: S) V n = ztN O S V n := if_neg q
      by_cases f : 40 ≤ V.length
      · rw [ztN_full _ _ _ f]
        exact hh r hr
      · rw [e]
        rcases List.mem_cons.mp hr with rfl | hr
        · have nl : ¬ n < (O r).1 := fun c => q ⟨c, by omega⟩
          have hv : zhas (zVs O V) (O r).1 = true := by
            cases t : zhas (zVs O V) (O r).1 with
            | true => rfl
            | false => exact absurd ((hh r List.mem_cons_self).mpr t) nl
          obtain ⟨a, b⟩ := ztN_mono (O := O) S V n
          rw [b _ hv]
          exact ⟨fun c => by omega, fun c => by cases c⟩
        · exact ztN_new S V n hp.2 (fun x hx => hh x (List.mem_cons_of_mem _ hx)) r hr
/-- the numbers of a row -/
theorem zrow_p (z : zKJ h m O R W A) (I : zAI K A) {b : Nat} (hb : b < 4) : ((R b).map fun r => (O r).1).Pairwise (· < ·) ∧ (∀ r ∈ R b, (O r).1 < (A.1 b).2.2.1) ∧ (R b).length ≤ 10 ∧ (A.1 b).2.2.1 ≤ 1 + 10 * K ∧ (A.1 b).2.1 ≤ 1 + K := by
  obtain ⟨i1, i2, i3, i4, i5, -⟩ := I.1 b hb
  have e : (A.1 b).2.2.2 = zMs O (R b) := (z.2.1 b hb).2.2.2.1
  rw [e] at i1 i2 i3
  unfold zMs at i1 i2 i3
  rw [List.map_map] at i1
  rw [List.length_map] at i3
  exact ⟨i1, fun r hr => i2 _ (List.mem_map_of_mem hr), i3, i4, i5⟩
/-- a session enters a mailbox -/
theorem zKJ_select (z : zKJ h m O R W A) (I : zAI K A) (hs : s < 3) {b : Nat} {w : Bool} (hb : b < 4) (h1 : (A.1 b).1 ≠ 0) (g : zGl h' m' O R (zup W s (ztN O (R b) [] 0).1)) (f : zHf 0 0 (zsR h 355 (111 + 7 * s) 0 (some (102 + 2 * b))) h') (cf : zCf (fun g a => (g = 356 ∧ a = 111 + 7 * s) ∨ zVq s g a) m m') (c1 : m' 356 (111 + 7 * s) 0 = w.toNat) (c2 : m' 403 (115 + 7 * s) 0 = (ztN O (R b) [] 0).2) (ry : zRy s m m' (zsT (R b).length (m 152 (102 + 2 * b) 0) (m 153 (102 + 2 * b) 0))) (hl : (zaT (zPselect A s b w) s).length ≤ 1024) : zKJ h' m' O R (zup W s (ztN O (R b) [] 0).1) (zPselect A s b w) := by
  have n0 := z.1.1.1
  have tn : ∀ s', s' < 3 → zR h' 355 (111 + 7 * s') 0 = zR (zsR h 355 (111 + 7 * s) 0 (some (102 + 2 * b))) 355 (111 + 7 * s') 0 := fun s' hs' => zHf_355 (zFx_sRg z.1.1 (by decide)) hs' f
  obtain ⟨p1, p2, p3, -⟩ := zrow_p z I hb
  have kb := z.2.1 b hb
  have k := z.2.2.1 s hs
  refine zKJ_S z hs g (fun g a i ha => cf _ _ _ (by unfold zVq zRq; omega)) (fun s' hs' e g a i h1 h2 => cf _ _ _ (by unfold zVq zRq; omega)) (fun s' hs' e => (tn s' hs').trans (zsR_o e)) ?_
  have eT : zaT A s ++ zsT (R b).length (m 152 (102 + 2 * b) 0) (m 153 (102 + 2 * b) 0) = zaT A s ++ zsT (zaM A b).length (A.1 b).2.1 (A.1 b).2.2.1 := by
    rw [kb.2.1, kb.2.2.1.1, kb.2.2.2.1]
    unfold zMs
    rw [List.length_map]
  unfold zPselect at hl
  rw [zaT_S, if_pos rfl, ← eT] at hl
  have rp := zRy_eq ry k.2.2.2.1.2 hl
  rw [eT] at rp
  have hh : ∀ r ∈ R b, (0 < (O r).1 ↔ zhas (zVs O []) (O r).1 = false) := fun r hr => ⟨fun _ => rfl, fun _ => (kb.2.2.2.2 r hr).2⟩
  have lk : zLk O (R b) [] := ⟨fun v hv => absurd hv List.not_mem_nil, fun r hr => (kb.2.2.2.2 r hr).1, fun v hv => absurd hv List.not_mem_nil⟩
  unfold zKT
  rw [zaC_S, zaQ_S, zaV_S, zaT_S, if_pos rfl, if_pos rfl, if_pos rfl, if_pos rfl, zup_eq, c1, c2, tn s hs, zsR_e, cf 353 _ _ (by unfold zVq zRq; omega)]
  refine ⟨k.1, rfl, rfl, rp, ?_, hb, zLk_N lk p1, ?_, ztN_new _ _ _ p1 hh⟩
  · rw [ztN_lk (R b) [] 0 p1 hh, kb.2.2.2.1]
    have e := ztk_all (zMs O (R b)) [] (by
      unfold zMs
      rw [List.map_map]
      exact p1) (by unfold zMs; rw [List.length_map]; show 0 + _ ≤ 40; omega)
    exact e.symm
  · show (ztN O (R b) [] 0).2 < (A.1 b).2.2.1
    rcases ztN_n (O := O) (R b) [] 0 with e | ⟨r, hr, e⟩
    · rw [e]
      exact kb.2.2.1.2 h1
    · rw [e]
      exact p2 r hr
/-- the flags of messages in one mailbox are others; a view's told flags, and its reply -/
theorem zKJ_over (z : zKJ h m O R W A) (hs : s < 3) {b : Nat} {w : Bool} {V : List (Nat × Nat)} {t : List Nat} (hQ : zaQ A s = some (b, w)) (c : ∀ p, (O' p).1 = (O p).1 ∧ (O' p).2.2 = (O p).2.2) (co : ∀ p, p ∉ R b → O' p = O p) (vm : V.map (fun v => v.1) = (W s).map (fun v => v.1)) (g : zGl h' m' O' R (zup W s V)) (f : zHf 0 0 h h') (cf : zCf (zVq s) m m') (c3 : m' 403 (115 + 7 * s) 0 = m 403 (115 + 7 * s) 0) (ry : zRy s m m' t) (hl : (zaT A s ++ t).length ≤ 1024) : zKJ h' m' O' R (zup W s V) (zPover A s b (zMs O' (R b), zVs O V, zaT A s ++ t)) := by
  have kq := (z.2.2.1 s hs).2.2.2.2.2
  rw [hQ] at kq
  have hb : b < 4 := kq.1
  have bx : ∀ b', (zPover A s b (zMs O' (R b), zVs O V, zaT A s ++ t)).1 b' = if b' = b then ((A.1 b).1, (A.1 b).2.1, (A.1 b).2.2.1, zMs O' (R b)) else A.1 b' := fun b' => rfl
  have nx : ∀ b', ((zPover A s b (zMs O' (R b), zVs O V, zaT A s ++ t)).1 b').2.2.1 = (A.1 b').2.2.1 := fun b' => by
    rw [bx]
    split
    · rename_i e; rw [e]
    · rfl
  have vs : ∀ U, zVs O' U = zVs O U := fun U => zVs_cg fun v _ => (c v.1).1
  have qq : ∀ {n : Nat} {x : Nat × Bool} {U : List (Nat × Nat)}, zKQ n O R A U (some x) → zKQ n O' R (zPover A s b (zMs O' (R b), zVs O V, zaT A s ++ t)) U (some x) := fun {n x U} q => by
    obtain ⟨q1, q2, q3, q4⟩ := q
    refine ⟨q1, zLk_cg q2 c, by rw [nx]; exact q3, fun r hr => ?_⟩
    rw [vs, (c r).1]
    exact q4 r hr
  refine ⟨g, fun b' hb' => ?_, fun s' hs' => ?_, (cf _ _ _ (by unfold zVq zRq; omega)).trans z.2.2.2.1, z.2.2.2.2⟩
  · by_cases e : b' = b
    · obtain ⟨k1, k2, k3, k4, k5⟩ := z.2.1 b' hb'
      rw [e] at k1 k2 k3 k4 k5 ⊢
      unfold zKB zaM
      rw [bx, if_pos rfl, cf 151 _ _ (by unfold zVq zRq; omega), cf 152 _ _ (by unfold zVq zRq; omega), cf 153 _ _ (by unfold zVq zRq; omega)]
      exact ⟨k1, k2, k3, rfl, fun r hr => by rw [(c r).2, (c r).1]; exact k5 r hr⟩
    · refine zKB_cg (z.2.1 b' hb') (cf _ _ _ (by unfold zVq zRq; omega)) (cf _ _ _ (by unfold zVq zRq; omega)) (cf _ _ _ (by unfold zVq zRq; omega)) rfl (fun r hr => ?_) (by rw [bx, if_neg e])
      unfold zmA
      rw [co r (z.2.2.2.2 b' hb' b hb e r hr)]
      exact ⟨rfl, rfl⟩
  · by_cases e : s' = s
    · have k := z.2.2.1 s hs
      have rp := zRy_eq ry k.2.2.2.1.2 hl
      rw [e]
      unfold zKT
      have eS : (zPover A s b (zMs O' (R b), zVs O V, zaT A s ++ t)).2.1 s = (zaC A s, zaQ A s, zVs O V, zaT A s ++ t, zaL A s) := zup_eq _ _ _
      rw [show zaC (zPover A s b (zMs O' (R b), zVs O V, zaT A s ++ t)) s = zaC A s from (congrArg (fun S : zSs => S.1) eS).trans rfl, show zaQ (zPover A s b (zMs O' (R b), zVs O V, zaT A s ++ t)) s = zaQ A s from (congrArg (fun S : zSs => S.2.1) eS).trans rfl, show zaV (zPover A s b (zMs O' (R b), zVs O V, zaT A s ++ t)) s = zVs O V from (congrArg (fun S : zSs => S.2.2.1) eS).trans rfl, show zaT (zPover A s b (zMs O' (R b), zVs O V, zaT A s ++ t)) s = zaT A s ++ t from (congrArg (fun S : zSs => S.2.2.2.1) eS).trans rfl, zup_eq, vs, c3, zHf_355 z.1.1 hs f, cf 353 _ _ (by unfold zVq zRq; omega), cf 356 _ _ (by unfold zVq zRq; omega)]
      refine ⟨k.1, k.2.1, k.2.2.1, rp, rfl, ?_⟩
      rw [hQ]
      have ev : zVs O V = zVs O V := rfl
      obtain ⟨q1, q2, q3, q4⟩ := kq
      have mem : ∀ v ∈ V, ∃ x ∈ W s, x.1 = v.1 := fun v hv => by
        have : v.1 ∈ (W s).map (fun v => v.1) := by rw [← vm]; exact List.mem_map_of_mem hv
        obtain ⟨x, hx, e⟩ := List.mem_map.mp this
        exact ⟨x, hx, e⟩
      have hz : ∀ x, zhas (zVs O V) x = zhas (zVs O (W s)) x := fun x => by
        have en : ∀ U : List (Nat × Nat), zhas (zVs O U) x = (U.map (fun v => v.1)).any fun o => decide ((O o).1 = x) := fun U => by
          unfold zhas zVs
          rw [List.any_map, List.any_map]
          rfl
        rw [en, en, vm]
      refine qq (x := (b, w)) ⟨q1, ⟨fun v hv p => ?_, q2.2.1, fun v hv r hr p => ?_⟩, q3, fun r hr => ?_⟩
      · obtain ⟨x, hx, e⟩ := mem v hv
        rw [← e]
        exact q2.1 x hx (by rw [e]; exact p)
      · obtain ⟨x, hx, e⟩ := mem v hv
        rw [← e]
        exact q2.2.2 x hx r hr (by rw [e]; exact p)
      · rw [hz]
        exact q4 r hr
    · refine zKT_cg (z.2.2.1 s' hs') (fun g a i h1 h2 => cf _ _ _ (by unfold zVq zRq; omega)) (zHf_355 z.1.1 hs' f) (zup_ne e) (zup_ne e) (fun v _ => (c v.1).1) fun q => ?_
      cases eq : zaQ A s' with
      | none => rw [eq] at q; exact q
      | some x => rw [eq] at q; exact qq q
/-- what is found is said -/
theorem zKJ_say (z : zKJ h m O R W A) (hs : s < 3) {t : List Nat} (f : zfo (zRq s) m m') (ry : zRy s m m' t) (hl : (zaT A s ++ t).length ≤ 1024) : zKJ h m' O R W (zaVT A s (zaV A s) (zaT A s ++ t)) := by
  have k := z.2.2.1 s hs
  have rp := zRy_eq ry k.2.2.2.1.2 hl
  have c : ∀ g a i, ¬ (a = 113 + 7 * s ∨ a = 114 + 7 * s) → m' g a i = m g a i := fun g a i n => f g a i n
  have g0 := zGl_rp hs f z.1
  have g1 : zGl h m' O R (zup W s (W s)) := by rw [zup_id]; exact g0
  have r := zKJ_S (S := (zaC A s, zaQ A s, zaV A s, zaT A s ++ t, zaL A s)) z hs g1 (fun g a i ha => c _ _ _ (by omega)) (fun s' hs' e g a i h1 h2 => c _ _ _ (by omega)) (fun _ _ _ => rfl) (by
    unfold zKT
    rw [zaC_S, zaQ_S, zaV_S, zaT_S, if_pos rfl, if_pos rfl, if_pos rfl, if_pos rfl, zup_id, c 353 _ _ (by omega), c 356 _ _ (by omega), c 403 _ _ (by omega)]
    refine ⟨k.1, k.2.1, k.2.2.1, rp, k.2.2.2.2.1, ?_⟩
    have q := k.2.2.2.2.2
    cases e : zaQ A s with
    | none => rw [e] at q; exact q
    | some x => rw [e] at q; exact q)
  rw [zup_id] at r
  exact r
end
