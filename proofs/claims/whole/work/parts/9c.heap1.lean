/-! ===== the class's objects: mailboxes and views over messages ===== -/
theorem zSt_nf {h h' : zH} {v : Nat} {T : List Nat} (hx : zFx h) (hn : zN h ≤ zN h') (ht : ∀ a, a < zN h → zT h' a = zT h a ∧ zE h' a = zE h a) (hc : ∀ g a i, a < zN h → (zT h a = 1 ∨ zT h a = 24) → zI h' g a i = zI h g a i ∧ zR h' g a i = zR h g a i) (hs : zSt h v T) : zSt h' v T := by
  obtain ⟨hT, b, hb, z⟩ := hs
  have h155 := hx.1
  have by' : b < zN h → zBy h' b T := fun hbn => by
    rcases hb with ⟨⟨h1, h2⟩, h3, h4, h5⟩ | ⟨h1, h2⟩
    · refine Or.inl ⟨⟨h1, Nat.lt_of_lt_of_le h2 hn⟩, by rw [(ht b h2).1]; exact h3, by rw [(ht b h2).2]; exact h4, fun i hi => ?_⟩
      rw [(hc _ _ _ h2 (Or.inr h3)).1]
      exact h5 i hi
    · exact Or.inr ⟨by rw [(ht b hbn).1]; exact h1, h2⟩
  rcases z with ⟨⟨h1, h2⟩, h3, h4, h5, h6⟩ | ⟨h1, h2, h3, h4⟩
  · have hbn : b < zN h := by
      rcases hb with z | z
      · exact z.1.2
      · rcases h6 with y | y <;> omega
    exact ⟨hT, b, by' hbn, Or.inl ⟨⟨h1, Nat.lt_of_lt_of_le h2 hn⟩, by rw [(ht v h2).1]; exact h3, by rw [(hc _ _ _ h2 (Or.inl h3)).1]; exact h4, by rw [(hc _ _ _ h2 (Or.inl h3)).2]; exact h5, by rw [(ht b hbn).1]; exact h6⟩⟩
  · exact ⟨hT, b, by' (by omega), Or.inr ⟨by rw [(ht v (by omega)).1]; exact h1, by rw [(ht (40 + v) (by omega)).1]; exact h2, h3, h4⟩⟩
/-- strings and messages are as they were -/
def zMf (h h' : zH) : Prop := zN h ≤ zN h' ∧ (∀ a, a < zN h → zT h' a = zT h a ∧ zE h' a = zE h a) ∧ ∀ g a i, a < zN h → (zT h a = 1 ∨ zT h a = 24 ∨ zT h a = 4) → zI h' g a i = zI h g a i ∧ zR h' g a i = zR h g a i
theorem zMf_st {h h' : zH} {v : Nat} {T : List Nat} (hx : zFx h) (f : zMf h h') (hs : zSt h v T) : zSt h' v T := zSt_nf hx f.1 f.2.1 (fun g a i ha hc => f.2.2 g a i ha (by rcases hc with e | e <;> simp [e])) hs
theorem zMf_ob {h h' : zH} {O : zOt} {o : Nat} (hx : zFx h) (f : zMf h h') (ho : zOb h O o) : zOb h' O o := by
  obtain ⟨⟨h1, h2, h3⟩, h4, h5, h6, h7, t, h8, h9⟩ := ho
  have nv := fun g => f.2.2 g o 0 h2 (Or.inr (Or.inr h3))
  exact ⟨⟨h1, Nat.lt_of_lt_of_le h2 f.1, by rw [(f.2.1 o h2).1]; exact h3⟩, by rw [(nv _).1]; exact h4, by rw [(nv _).1]; exact h5, by rw [(nv _).1]; exact h6, h7, t, by rw [(nv _).2]; exact h8, zMf_st hx f h9⟩
theorem zMf_R {h : zH} {g a i : Nat} {x : Option Nat} (ha : zT h a ≠ 1 ∧ zT h a ≠ 24 ∧ zT h a ≠ 4) : zMf h (zsR h g a i x) := ⟨Nat.le_refl _, fun _ _ => ⟨rfl, rfl⟩, fun g' b j _ hb => ⟨rfl, if_neg fun e => by rw [e.2.1] at hb; omega⟩⟩
theorem zMf_new {h : zH} {t n k : Nat} : zMf h (zNew h t n k) := ⟨Nat.le_succ _, fun a ha => ⟨if_neg (Nat.ne_of_lt ha), if_neg (Nat.ne_of_lt ha)⟩, fun g a i ha _ => ⟨if_neg (Nat.ne_of_lt ha), if_neg (Nat.ne_of_lt ha)⟩⟩
theorem zMf_I {h : zH} {g a i : Nat} {x : Int32} (ha : zT h a ≠ 1 ∧ zT h a ≠ 24 ∧ zT h a ≠ 4) : zMf h (zsI h g a i x) := ⟨Nat.le_refl _, fun _ _ => ⟨rfl, rfl⟩, fun g' b j _ hb => ⟨if_neg fun e => by rw [e.2.1] at hb; omega, rfl⟩⟩
/-- what is written to a message's field -/
theorem zOb_I {h : zH} {O : zOt} {o p g : Nat} {x : Int32} {y : Nat × Nat × Bool × List Nat} (hx : zFx h) (hg : g = 202 ∨ g = 203) (ho : zOb h O o) (hy : y.1 = (O o).1 ∧ y.2.2.2 = (O o).2.2.2 ∧ y.2.1 < 16) (h1 : zI (zsI h g o 0 x) 202 o 0 = nI y.2.1) (h2 : zI (zsI h g o 0 x) 203 o 0 = nI y.2.2.1.toNat) (hp : zOb h O p) : zOb (zsI h g o 0 x) (zup O o y) p := by
  have t4 := ho.1.2.2
  have st : ∀ {v T}, zSt h v T → zSt (zsI h g o 0 x) v T := fun z => zSt_nf hx (Nat.le_refl _) (fun _ _ => ⟨rfl, rfl⟩) (fun g' a i _ hc => ⟨if_neg fun e => by rw [e.2.1, t4] at hc; omega, rfl⟩) z
  by_cases e : p = o
  · subst e
    obtain ⟨b1, b2, b3, b4, b5, t, b6, b7⟩ := hp
    refine ⟨b1, ?_, ?_, ?_, ?_, t, b6, ?_⟩ <;> rw [zup_eq]
    · rw [hy.1]
      exact (zsI_g (by omega)).trans b2
    · exact h1
    · exact h2
    · exact ⟨by rw [hy.1]; exact b5.1, hy.2.2⟩
    · rw [hy.2.1]
      exact st b7
  · obtain ⟨b1, b2, b3, b4, b5, t, b6, b7⟩ := hp
    refine ⟨b1, ?_, ?_, ?_, ?_, t, b6, ?_⟩ <;> rw [zup_ne e]
    · exact (zsI_a e).trans b2
    · exact (zsI_a e).trans b3
    · exact (zsI_a e).trans b4
    · exact b5
    · exact st b7
/-- a mailbox's row -/
def zBr (h : zH) (m : zMm) (O : zOt) (b : Nat) (R : List Nat) : Prop := m 154 (102 + 2 * b) 0 = R.length ∧ R.length ≤ 10 ∧ ∀ i, i < R.length → zR h 0 (103 + 2 * b) i = some (R.getD i 0) ∧ zOb h O (R.getD i 0)
/-- all rows and views -/
def zGl (h : zH) (m : zMm) (O : zOt) (R : Nat → List Nat) (W : Nat → List (Nat × Nat)) : Prop := zFx h ∧ (∀ b, b < 4 → zBr h m O b (R b)) ∧ ∀ s, s < 3 → zWv h m O s (W s)
theorem zGl_m {h : zH} {m m' : zMm} {O : zOt} {R : Nat → List Nat} {W : Nat → List (Nat × Nat)} (z : zGl h m O R W) (h1 : ∀ b, b < 4 → m' 154 (102 + 2 * b) 0 = m 154 (102 + 2 * b) 0) (h2 : ∀ s, s < 3 → m' 402 (115 + 7 * s) 0 = m 402 (115 + 7 * s) 0 ∧ ∀ i, m' 0 (117 + 7 * s) i = m 0 (117 + 7 * s) i) : zGl h m' O R W := by
  obtain ⟨hx, zb, zw⟩ := z
  refine ⟨hx, fun b hb => ?_, fun s hs => ?_⟩
  · obtain ⟨a1, a2, a3⟩ := zb b hb
    exact ⟨(h1 b hb).trans a1, a2, a3⟩
  · obtain ⟨a1, a2, a3⟩ := zw s hs
    refine ⟨(h2 s hs).1.trans a1, a2, fun i hi => ?_⟩
    obtain ⟨c1, c2, c3⟩ := a3 i hi
    exact ⟨c1, ((h2 s hs).2 i).trans c2, c3⟩
/-- another heap, the same rows -/
theorem zGl_h {h h' : zH} {m : zMm} {O O' : zOt} {R : Nat → List Nat} {W : Nat → List (Nat × Nat)} (z : zGl h m O R W) (hx' : zFx h') (hr : ∀ b i, b < 4 → zR h' 0 (103 + 2 * b) i = zR h 0 (103 + 2 * b) i) (hv : ∀ s i, s < 3 → zR h' 0 (116 + 7 * s) i = zR h 0 (116 + 7 * s) i) (ho : ∀ o, zOb h O o → zOb h' O' o) : zGl h' m O' R W := by
  obtain ⟨hx, zb, zw⟩ := z
  refine ⟨hx', fun b hb => ?_, fun s hs => ?_⟩
  · obtain ⟨a1, a2, a3⟩ := zb b hb
    exact ⟨a1, a2, fun i hi => ⟨(hr b i hb).trans (a3 i hi).1, ho _ (a3 i hi).2⟩⟩
  · obtain ⟨a1, a2, a3⟩ := zw s hs
    exact ⟨a1, a2, fun i hi => ⟨(hv s i hs).trans (a3 i hi).1, (a3 i hi).2.1, (a3 i hi).2.2.1, ho _ (a3 i hi).2.2.2⟩⟩
