/-! ===== mailboxes in the class: messages go, come; mailboxes come and go ===== -/
theorem zbr_lt {h : zH} {m : zMm} {O : zOt} {b : Nat} {R : List Nat} (g : zBr h m O b R) : ∀ r ∈ R, r < zN h := fun r hr => by
  obtain ⟨i, hi, e⟩ := List.getElem_of_mem hr
  have := (g.2.2 i hi).2.1.2.1
  rw [List.getD_eq_getElem?_getD, List.getElem?_eq_getElem hi] at this
  rw [← e]
  exact this
section
variable {h h' : zH} {m m' : zMm} {O O' : zOt} {R : Nat → List Nat} {W : Nat → List (Nat × Nat)} {A : zAS} {K : Nat}
/-- a view's messages in another mailbox's row: none -/
theorem zdj_v {b : Nat} {V : List (Nat × Nat)} {x : Nat} (dj : zDj R) (hb : b < 4) (hx : x < 4) (ne : x ≠ b) (ng : ∀ r ∈ R b, (O r).2.2.1 = false) (l : zLk O (R x) V) : ∀ v ∈ V, v.1 ∉ R b := fun v hv hr => dj x hx b hb ne _ (l.1 v hv (ng _ hr)) hr
theorem zKJ_clean (z : zKJ h m O R W A) {b : Nat} (hb : b < 4) (g : zGl h' m' (zGx O (R b)) (zup R b ((R b).filter (zgo1 O))) W) (cf : zCf (fun g a => g = 154 ∧ a = 102 + 2 * b) m m') (hq : ∀ s, s < 3 → zR h' 355 (111 + 7 * s) 0 = zR h 355 (111 + 7 * s) 0) : zKJ h' m' (zGx O (R b)) (zup R b ((R b).filter (zgo1 O))) W (zPclean A b) := by
  have nx : ∀ b', ((zPclean A b).1 b').2.2.1 = (A.1 b').2.2.1 := fun b' => by
    show (zup A.1 b _ b').2.2.1 = _
    by_cases e : b' = b
    · rw [e, zup_eq]
    · rw [zup_ne e]
  have sub : ∀ b', ∀ r ∈ zup R b ((R b).filter (zgo1 O)) b', r ∈ R b' := fun b' r hr => by
    by_cases e : b' = b
    · rw [e, zup_eq] at hr
      rw [e]
      exact (List.mem_filter.mp hr).1
    · rw [zup_ne e] at hr
      exact hr
  refine ⟨g, fun b' hb' => ?_, fun s hs => ?_, (cf _ _ _ (by omega)).trans z.2.2.2.1, fun x hx y hy ne r hr hr' => z.2.2.2.2 x hx y hy ne r (sub x r hr) (sub y r hr')⟩
  · by_cases e : b' = b
    · obtain ⟨k1, k2, k3, k4, k5⟩ := z.2.1 b' hb'
      rw [e] at k1 k2 k3 k4 k5 ⊢
      have c : (zPclean A b).1 b = ((A.1 b).1, (A.1 b).2.1, (A.1 b).2.2.1, (zaM A b).filter zgd) := zup_eq _ _ _
      unfold zKB zaM
      rw [c, zup_eq]
      refine ⟨⟨(cf _ _ _ (by omega)).trans k1.1, k1.2⟩, (cf _ _ _ (by omega)).trans k2, ⟨(cf _ _ _ (by omega)).trans k3.1, k3.2⟩, ?_, fun r hr => ?_⟩
      · show (zaM A b).filter zgd = _
        rw [k4, zMs_gx]
      · obtain ⟨r1, r2⟩ := List.mem_filter.mp hr
        have gm := zGx_m (R b) O r
        refine ⟨?_, ?_⟩
        · cases q : (zGx O (R b) r).2.2.1 with
          | false => rfl
          | true =>
            rcases gm.2.mp q with a | ⟨-, a⟩
            · rw [(k5 r r1).1] at a; cases a
            · rw [r2] at a; cases a
        · rw [show (zGx O (R b) r).1 = (O r).1 from congrArg (fun g : zMg => g.1) gm.1]
          exact (k5 r r1).2
    · refine zKB_cg (z.2.1 b' hb') (cf _ _ _ (by omega)) (cf _ _ _ (by omega)) (cf _ _ _ (by omega)) (zup_ne e) (fun r hr => ?_) (zup_ne e)
      have gm := zGx_m (R b) O r
      refine ⟨gm.1, ?_⟩
      cases q : (zGx O (R b) r).2.2.1 with
      | false =>
        cases p : (O r).2.2.1 with
        | false => rfl
        | true => rw [gm.2.mpr (Or.inl p)] at q; cases q
      | true =>
        rcases gm.2.mp q with a | ⟨a, -⟩
        · exact a.symm
        · exact absurd a (z.2.2.2.2 b' hb' b hb e r hr)
  · have gn : ∀ p, (zGx O (R b) p).1 = (O p).1 := fun p => congrArg (fun g : zMg => g.1) (zGx_m (R b) O p).1
    refine zKT_cg (z.2.2.1 s hs) (fun g a i h1 h2 => cf _ _ _ (by omega)) (hq s hs) rfl rfl (fun v _ => gn v.1) fun q => ?_
    cases e : zaQ A s with
    | none => rw [e] at q; exact q
    | some x =>
      rw [e] at q
      obtain ⟨q1, q2, q3, q4⟩ := q
      refine ⟨q1, ?_, by rw [nx]; exact q3, fun r hr => ?_⟩
      · by_cases eb : x.1 = b
        · rw [eb, zup_eq]
          rw [eb] at q2
          exact zLk_gx q2
        · rw [zup_ne eb]
          exact zLk_gy q2 (z.2.2.2.2 x.1 q1 b hb eb) (zdj_v z.2.2.2.2 hb q1 eb (fun r hr => ((z.2.1 b hb).2.2.2.2 r hr).1) q2)
      · rw [gn, zVs_gx]
        exact q4 r (sub _ r hr)
/-- messages come to a mailbox -/
theorem zKJ_add (z : zKJ h m O R W A) (I : zAI K A) {b n : Nat} {N : List Nat} {X : List (Nat × Nat × Bool × List Nat)} (hb : b < 4) (hO : ∀ o, o < zN h → O' o = O o) (hN : ∀ o ∈ N, zN h ≤ o) (hX : N.map O' = X) (x1 : ∀ x ∈ X, x.2.2.1 = false ∧ (A.1 b).2.2.1 ≤ x.1 ∧ x.1 < n) (x0 : (A.1 b).1 ≠ 0 ∧ (A.1 b).2.2.1 ≤ n) (g : zGl h' m' O' (zup R b (R b ++ N)) W) (cf : zCf (fun g a => (g = 153 ∨ g = 154) ∧ a = 102 + 2 * b) m m') (c3 : m' 153 (102 + 2 * b) 0 = n) (hq : ∀ s, s < 3 → zR h' 355 (111 + 7 * s) 0 = zR h 355 (111 + 7 * s) 0) : zKJ h' m' O' (zup R b (R b ++ N)) W (zsB A b ((A.1 b).1, (A.1 b).2.1, n, zaM A b ++ X.map fun g => (g.1, g.2.1, g.2.2.2))) := by
  have lt := fun b' hb' => zbr_lt (z.1.2.1 b' hb')
  have xn : ∀ o ∈ N, (O' o).2.2.1 = false ∧ (A.1 b).2.2.1 ≤ (O' o).1 ∧ (O' o).1 < n := fun o ho => x1 _ (by rw [← hX]; exact List.mem_map_of_mem ho)
  have n1 := (z.2.1 b hb).2.2.1.2 x0.1
  have bx : (zsB A b ((A.1 b).1, (A.1 b).2.1, n, zaM A b ++ X.map fun g => (g.1, g.2.1, g.2.2.2))).1 b = ((A.1 b).1, (A.1 b).2.1, n, zaM A b ++ X.map fun g => (g.1, g.2.1, g.2.2.2)) := zup_eq _ _ _
  refine ⟨g, fun b' hb' => ?_, fun s hs => ?_, (cf _ _ _ (by omega)).trans z.2.2.2.1, fun x hx y hy ne r hr hr' => ?_⟩
  · by_cases e : b' = b
    · obtain ⟨k1, k2, k3, k4, k5⟩ := z.2.1 b' hb'
      rw [e] at k1 k2 k3 k4 k5 ⊢
      unfold zKB
      rw [zup_eq]
      refine ⟨⟨by rw [bx]; exact (cf _ _ _ (by omega)).trans k1.1, by rw [bx]; exact k1.2⟩, by rw [bx]; exact (cf _ _ _ (by omega)).trans k2, ⟨by rw [bx]; exact c3, fun _ => by rw [bx]; exact Nat.le_trans n1 x0.2⟩, ?_, fun r hr => ?_⟩
      · have eM : zMs O' (R b) = zMs O (R b) := zMs_cg fun r hr => by unfold zmA; rw [hO r (lt b hb r hr)]
        show (zsB A b _).1 b |>.2.2.2 = _
        rw [bx]
        show zaM A b ++ X.map _ = zMs O' (R b ++ N)
        unfold zMs at eM ⊢
        rw [List.map_append, eM, k4, ← hX, List.map_map]
        rfl
      · rcases List.mem_append.mp hr with hr | hr
        · rw [hO r (lt b hb r hr)]; exact k5 r hr
        · have := xn r hr
          exact ⟨this.1, Nat.le_trans n1 this.2.1⟩
    · exact zKB_cg (z.2.1 b' hb') (cf _ _ _ (by omega)) (cf _ _ _ (by omega)) (cf _ _ _ (by omega)) (zup_ne e) (fun r hr => by unfold zmA; rw [hO r (lt b' hb' r hr)]; exact ⟨rfl, rfl⟩) (zup_ne e)
  · have wl := zWv_lt (z.1.2.2 s hs)
    have kt := z.2.2.1 s hs
    refine zKT_cg kt (fun g a i h1 h2 => cf _ _ _ (by omega)) (hq s hs) rfl rfl (fun v hv => by rw [hO v.1 (wl v hv)]) fun q => ?_
    cases e : zaQ A s with
    | none => rw [e] at q; exact q
    | some x =>
      rw [e] at q
      obtain ⟨q1, q2, q3, q4⟩ := q
      have vi := (I.2.1 s hs).2.2
      rw [e, kt.2.2.2.2.1] at vi
      obtain ⟨-, -, v3, -⟩ := vi
      have vn : ∀ v ∈ W s, (O v.1).1 < (A.1 x.1).2.2.1 := fun v hv => v3 _ (List.mem_map_of_mem hv)
      have l0 : zLk O' (R x.1) (W s) := ⟨fun v hv p => q2.1 v hv (by rw [← hO v.1 (wl v hv)]; exact p), fun r hr => by rw [hO r (lt _ q1 r hr)]; exact q2.2.1 r hr, fun v hv r hr p => q2.2.2 v hv r hr (by rw [← hO v.1 (wl v hv), ← hO r (lt _ q1 r hr)]; exact p)⟩
      have ev : zVs O' (W s) = zVs O (W s) := zVs_cg fun v hv => by rw [hO v.1 (wl v hv)]
      by_cases eb : x.1 = b
      · rw [eb] at q2 q3 q4 l0 vn
        refine ⟨q1, ?_, ?_, ?_⟩
        · rw [eb, zup_eq]
          refine ⟨fun v hv p => List.mem_append_left _ (l0.1 v hv p), fun r hr => ?_, fun v hv r hr p => ?_⟩
          · rcases List.mem_append.mp hr with hr | hr
            · exact l0.2.1 r hr
            · exact (xn r hr).1
          · rcases List.mem_append.mp hr with hr | hr
            · exact l0.2.2 v hv r hr p
            · have a1 := (xn r hr).2.1
              have a2 := vn v hv
              rw [hO v.1 (wl v hv)] at p
              omega
        · rw [eb, bx]
          exact Nat.lt_of_lt_of_le q3 x0.2
        · rw [eb, zup_eq, ev]
          intro r hr
          rcases List.mem_append.mp hr with hr | hr
          · rw [hO r (lt b hb r hr)]; exact q4 r hr
          · have a1 := (xn r hr).2.1
            refine ⟨fun _ => ?_, fun _ => by omega⟩
            unfold zhas
            rw [List.any_eq_false]
            intro y hy
            obtain ⟨v, hv, rfl⟩ := List.mem_map.mp hy
            have a2 := vn v hv
            exact fun p => by have := of_decide_eq_true p; omega
      · refine ⟨q1, by rw [zup_ne eb]; exact l0, ?_, ?_⟩
        · rw [show (zsB A b _).1 x.1 = A.1 x.1 from zup_ne eb]
          exact q3
        · rw [zup_ne eb, ev]
          intro r hr
          rw [hO r (lt _ q1 r hr)]
          exact q4 r hr
  · have old : ∀ c, c < 4 → ∀ r ∈ zup R b (R b ++ N) c, r ∈ R c ∨ (c = b ∧ zN h ≤ r) := fun c hc r hr => by
      by_cases e : c = b
      · rw [e, zup_eq] at hr
        rcases List.mem_append.mp hr with hr | hr
        · exact Or.inl (by rw [e]; exact hr)
        · exact Or.inr ⟨e, hN r hr⟩
      · rw [zup_ne e] at hr
        exact Or.inl hr
    rcases old x hx r hr with a | ⟨a, a'⟩ <;> rcases old y hy r hr' with c | ⟨c, c'⟩
    · exact z.2.2.2.2 x hx y hy ne r a c
    · have := lt x hx r a; omega
    · have := lt y hy r c; omega
    · exact ne (a.trans c.symm)
/-- a mailbox comes -/
theorem zKJ_create (z : zKJ h m O R W A) (I : zAI K A) {b : Nat} (hb : b < 4) (h0 : (A.1 b).1 = 0) (g : zGl h m' O (zup R b []) W) (c1 : m' 151 (102 + 2 * b) 0 = 1 ∧ m' 152 (102 + 2 * b) 0 = A.2.2 + 1 ∧ m' 153 (102 + 2 * b) 0 = 1) (c2 : m' 452 100 0 = A.2.2 + 1) (cf : ∀ g a i, a ≠ 100 → a ≠ 102 + 2 * b → m' g a i = m g a i) : zKJ h m' O (zup R b []) W (zPcreate A b) := by
  have bx : (zPcreate A b).1 b = (1, A.2.2 + 1, 1, []) := zup_eq _ _ _
  refine ⟨g, fun b' hb' => ?_, fun s hs => ?_, c2, fun x hx y hy ne r hr hr' => ?_⟩
  · by_cases e : b' = b
    · rw [e]
      unfold zKB zaM
      rw [bx, zup_eq]
      exact ⟨⟨c1.1, (by decide : 1 < 2)⟩, c1.2.1, ⟨c1.2.2, fun _ => Nat.le_refl _⟩, rfl, fun r hr => absurd hr List.not_mem_nil⟩
    · exact zKB_cg (z.2.1 b' hb') (cf _ _ _ (by omega) (by omega)) (cf _ _ _ (by omega) (by omega)) (cf _ _ _ (by omega) (by omega)) (zup_ne e) (fun r hr => ⟨rfl, rfl⟩) (zup_ne e)
  · refine zKT_cg (z.2.2.1 s hs) (fun g a i h1 h2 => cf _ _ _ (by omega) (by omega)) rfl rfl rfl (fun v _ => rfl) fun q => ?_
    cases e : zaQ A s with
    | none => rw [e] at q; exact q
    | some x =>
      rw [e] at q
      have vi := (I.2.1 s hs).2.2
      rw [e] at vi
      have eb : x.1 ≠ b := fun q => vi.2.1 (by rw [q]; exact h0)
      obtain ⟨q1, q2, q3, q4⟩ := q
      refine ⟨q1, by rw [zup_ne eb]; exact q2, ?_, by rw [zup_ne eb]; exact q4⟩
      rw [show (zPcreate A b).1 x.1 = A.1 x.1 from zup_ne eb]
      exact q3
  · have sub : ∀ c, ∀ r ∈ zup R b [] c, r ∈ R c := fun c r hr => by
      by_cases e : c = b
      · rw [e, zup_eq] at hr
        exact absurd hr List.not_mem_nil
      · rw [zup_ne e] at hr
        exact hr
    exact z.2.2.2.2 x hx y hy ne r (sub x r hr) (sub y r hr')
/-- a mailbox goes -/
theorem zKJ_delete (z : zKJ h m O R W A) {b : Nat} (hb : b < 4) : zKJ h (u3 m 151 (102 + 2 * b) 0 0) O R W (zPdelete A b) := by
  have fr : ∀ g a i, g ≠ 151 → u3 m 151 (102 + 2 * b) 0 0 g a i = m g a i := fun g a i hg => u3_g hg
  have fa : ∀ g a i, a ≠ 102 + 2 * b → u3 m 151 (102 + 2 * b) 0 0 g a i = m g a i := fun g a i hg => u3_a hg
  refine ⟨zGl_m z.1 (fun b hb => fr _ _ _ (by decide)) (fun s hs => ⟨fr _ _ _ (by decide), fun i => fr _ _ _ (by decide)⟩), fun b' hb' => ?_, fun s hs => ?_, (fr _ _ _ (by decide)).trans z.2.2.2.1, z.2.2.2.2⟩
  · by_cases e : b' = b
    · obtain ⟨k1, k2, k3, k4, k5⟩ := z.2.1 b' hb'
      rw [e] at k1 k2 k3 k4 k5 ⊢
      have c : (zPdelete A b).1 b = (0, (A.1 b).2) := zup_eq _ _ _
      unfold zKB zaM
      rw [c, u3_eq, fr _ _ _ (by decide), fr _ _ _ (by decide)]
      exact ⟨⟨rfl, (by decide : 0 < 2)⟩, k2, ⟨k3.1, fun q => absurd rfl q⟩, k4, k5⟩
    · exact zKB_cg (z.2.1 b' hb') (fa _ _ _ (by omega)) (fa _ _ _ (by omega)) (fa _ _ _ (by omega)) rfl (fun r hr => ⟨rfl, rfl⟩) (zup_ne e)
  · refine zKT_cg (z.2.2.1 s hs) (fun g a i h1 h2 => fa _ _ _ (by omega)) rfl rfl rfl (fun v _ => rfl) fun q => ?_
    cases e : zaQ A s with
    | none => rw [e] at q; exact q
    | some x =>
      rw [e] at q
      obtain ⟨q1, q2, q3, q4⟩ := q
      refine ⟨q1, q2, ?_, q4⟩
      by_cases eb : x.1 = b
      · rw [eb, show (zPdelete A b).1 b = (0, (A.1 b).2) from zup_eq _ _ _]
        rw [eb] at q3
        exact q3
      · rw [show (zPdelete A b).1 x.1 = A.1 x.1 from zup_ne eb]
        exact q3
end
