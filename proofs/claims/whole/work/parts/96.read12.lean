/-! ===== the class's reader: commands ===== -/
/-- only the reader p and the command q are others -/
def zGf (p q c k : Nat) (h h' : zH) : Prop := (zN h ≤ zN h' ∧ zC h' ≤ zC h + c ∧ zS h' ≤ zS h + k) ∧ (∀ a, a < zN h → zT h' a = zT h a ∧ zE h' a = zE h a) ∧ ∀ g a i, a < zN h → a ≠ p → a ≠ q → zI h' g a i = zI h g a i ∧ zR h' g a i = zR h g a i ∧ zL h' g a i = zL h g a i
theorem zGf_rf {p q c k : Nat} {h h' : zH} (f : zRf p c k h h') : zGf p q c k h h' := ⟨f.1, f.2.1, fun g a i ha hp _ => ⟨f.2.2.1 g a i ha (Or.inl hp), (f.2.2.2 g a i ha).1, (f.2.2.2 g a i ha).2⟩⟩
theorem zGf_w {p q c k c' k' : Nat} {h h' : zH} (f : zGf p q c k h h') (hc : c ≤ c') (hk : k ≤ k') : zGf p q c' k' h h' := by
  obtain ⟨⟨f1, f2, f3⟩, f4⟩ := f
  exact ⟨⟨f1, by omega, by omega⟩, f4⟩
theorem zGf_tr {p q c k c' k' : Nat} {h h1 h2 : zH} (f : zGf p q c k h h1) (g : zGf p q c' k' h1 h2) : zGf p q (c + c') (k + k') h h2 := by
  obtain ⟨⟨f1, f2, f3⟩, f4, f5⟩ := f
  obtain ⟨⟨g1, g2, g3⟩, g4, g5⟩ := g
  refine ⟨⟨by omega, by omega, by omega⟩, fun a ha => ?_, fun x a i ha hp hq => ?_⟩
  · rw [(g4 a (by omega)).1, (g4 a (by omega)).2]; exact f4 a ha
  · have y := g5 x a i (by omega) hp hq
    rw [y.1, y.2.1, y.2.2]; exact f5 x a i ha hp hq
theorem zGf_I (p q : Nat) (h : zH) (g : Nat) (x : Int32) : zGf p q 0 0 h (zsI h g q 0 x) := ⟨⟨Nat.le_refl _, Nat.le_refl _, Nat.le_refl _⟩, fun _ _ => ⟨rfl, rfl⟩, fun _ _ _ _ _ hq => ⟨zsI_a hq, rfl, rfl⟩⟩
theorem zGf_R (p q : Nat) (h : zH) (g : Nat) (x : Option Nat) : zGf p q 0 0 h (zsR h g q 0 x) := ⟨⟨Nat.le_refl _, Nat.le_refl _, Nat.le_refl _⟩, fun _ _ => ⟨rfl, rfl⟩, fun _ _ _ _ _ hq => ⟨rfl, if_neg fun z => hq z.2.1, rfl⟩⟩
theorem zGf_L (p q : Nat) (h : zH) (g : Nat) (x : Int64) : zGf p q 0 0 h (zsL h g q 0 x) := ⟨⟨Nat.le_refl _, Nat.le_refl _, Nat.le_refl _⟩, fun _ _ => ⟨rfl, rfl⟩, fun _ _ _ _ _ hq => ⟨rfl, rfl, if_neg fun z => hq z.2.1⟩⟩
theorem zFx_gf {p q c k : Nat} {h h' : zH} (hx : zFx h) (hp : 155 ≤ p ∧ 155 ≤ q) (f : zGf p q c k h h') : zFx h' := by
  have hn := hx.1
  refine ⟨Nat.le_trans hn f.1.1, fun a h1 h2 => ?_, fun q hq => ?_, fun a ha => ?_⟩
  · rw [(f.2.1 a (by omega)).1, (f.2.1 a (by omega)).2]; exact hx.2.1 a h1 h2
  · have lt : ∀ q ∈ zfRl, q.2.1 < 155 := by decide
    have := lt q hq
    rw [(f.2.2 _ _ _ (by omega) (by omega) (by omega)).2.1]
    exact hx.2.2.1 q hq
  · rw [(f.2.1 a (by omega)).1]; exact hx.2.2.2 a ha
theorem zSt_gf {p q c k v : Nat} {T : List Nat} {h h' : zH} (hx : zFx h) (hp : zT h p = 5) (hq : zT h q = 2) (f : zGf p q c k h h') (hs : zSt h v T) : zSt h' v T := by
  obtain ⟨hT, b, hb, z⟩ := hs
  have hn := hx.1
  have by' : b < zN h → zBy h' b T := fun hbn => by
    rcases hb with ⟨⟨h1, h2⟩, h3, h4, h5⟩ | ⟨h1, h2⟩
    · refine Or.inl ⟨⟨h1, Nat.lt_of_lt_of_le h2 f.1.1⟩, by rw [(f.2.1 b h2).1]; exact h3, by rw [(f.2.1 b h2).2]; exact h4, fun i hi => ?_⟩
      rw [(f.2.2 _ _ _ h2 (fun e => by rw [e, hp] at h3; omega) (fun e => by rw [e, hq] at h3; omega)).1]
      exact h5 i hi
    · exact Or.inr ⟨by rw [(f.2.1 b hbn).1]; exact h1, h2⟩
  rcases z with ⟨⟨h1, h2⟩, h3, h4, h5, h6⟩ | ⟨h1, h2, h3, h4⟩
  · have hbn : b < zN h := by
      rcases hb with z | z
      · exact z.1.2
      · rcases h6 with y | y <;> omega
    have nv := f.2.2
    have n1 : v ≠ p := fun e => by rw [e, hp] at h3; omega
    have n2 : v ≠ q := fun e => by rw [e, hq] at h3; omega
    exact ⟨hT, b, by' hbn, Or.inl ⟨⟨h1, Nat.lt_of_lt_of_le h2 f.1.1⟩, by rw [(f.2.1 v h2).1]; exact h3, by rw [(nv _ _ _ h2 n1 n2).1]; exact h4, by rw [(nv _ _ _ h2 n1 n2).2.1]; exact h5, by rw [(f.2.1 b hbn).1]; exact h6⟩⟩
  · exact ⟨hT, b, by' (by omega), Or.inr ⟨by rw [(f.2.1 v (by omega)).1]; exact h1, by rw [(f.2.1 (40 + v) (by omega)).1]; exact h2, h3, h4⟩⟩
theorem zWv_gf {p q c k s : Nat} {O : zOt} {W : List (Nat × Nat)} {m : zMm} {h h' : zH} (hx : zFx h) (hs : s < 3) (hp : zT h p = 5) (hq : zT h q = 2) (hpq : 155 ≤ p ∧ 155 ≤ q) (f : zGf p q c k h h') (hw : zWv h m O s W) : zWv h' m O s W := by
  have hn := hx.1
  refine ⟨hw.1, hw.2.1, fun i hi => ?_⟩
  obtain ⟨g1, g2, g3, ⟨⟨h1, h2, h3⟩, h4, h5, h6, h7, t, h8, h9⟩⟩ := hw.2.2 i hi
  have n1 : zWo W i ≠ p := fun e => by rw [e, hp] at h3; omega
  have n2 : zWo W i ≠ q := fun e => by rw [e, hq] at h3; omega
  have nv := fun g => f.2.2 g (zWo W i) 0 h2 n1 n2
  exact ⟨by rw [(f.2.2 _ _ _ (by omega) (by omega) (by omega)).2.1]; exact g1, g2, g3, ⟨⟨h1, Nat.lt_of_lt_of_le h2 f.1.1, by rw [(f.2.1 _ h2).1]; exact h3⟩, by rw [(nv _).1]; exact h4, by rw [(nv _).1]; exact h5, by rw [(nv _).1]; exact h6, h7, t, by rw [(nv _).2.1]; exact h8, zSt_gf hx hp hq f h9⟩⟩
theorem zRr_I {h : zH} {p q s len a g : Nat} {bd wr : Bool} {x : Int32} (r : zRr h p s len a bd wr) (hq : p ≠ q) : zRr (zsI h g q 0 x) p s len a bd wr := by
  obtain ⟨h1, r1, r2, r3, r4, r5, r6⟩ := r
  exact ⟨h1, r1, r2, (zsI_a hq).trans r3, (zsI_a hq).trans r4, (zsI_a hq).trans r5, (zsI_a hq).trans r6⟩
theorem zRr_R {h : zH} {p q s len a g : Nat} {bd wr : Bool} {x : Option Nat} (r : zRr h p s len a bd wr) (hq : p ≠ q) : zRr (zsR h g q 0 x) p s len a bd wr := by
  obtain ⟨h1, r1, r2, r3, r4, r5, r6⟩ := r
  exact ⟨h1, (if_neg fun z => hq z.2.1).trans r1, (if_neg fun z => hq z.2.1).trans r2, r3, r4, r5, r6⟩
theorem zRr_L {h : zH} {p q s len a g : Nat} {bd wr : Bool} {x : Int64} (r : zRr h p s len a bd wr) : zRr (zsL h g q 0 x) p s len a bd wr := r
/-- the reader and the command are there -/
def zBd (h : zH) (m : zMm) (O : zOt) (W : List (Nat × Nat)) (p q s len a : Nat) (bd wr : Bool) : Prop := zFx h ∧ zWv h m O s W ∧ zRr h p s len a bd wr ∧ ((155 ≤ q ∧ q < zN h) ∧ zT h q = 2)
/-- a command's fields -/
def zQf (h : zH) (q v y u mb fl ch it M : Nat) : Prop := zR h 101 q 0 = some v ∧ zR h 100 q 0 = some y ∧ zI h 102 q 0 = nI u ∧ zI h 103 q 0 = nI mb ∧ zI h 104 q 0 = nI fl ∧ zI h 106 q 0 = nI ch ∧ zI h 107 q 0 = nI it ∧ zL h 108 q 0 = nL M
theorem zBd_ne {h : zH} {m : zMm} {O : zOt} {W : List (Nat × Nat)} {p q s len a : Nat} {bd wr : Bool} (b : zBd h m O W p q s len a bd wr) : p ≠ q := fun e => by
  have h1 := b.2.2.1.1.2.1
  have h2 := b.2.2.2.2
  rw [e, h2] at h1
  omega
/-- after a step of the reader -/
theorem zBd_r {h h' : zH} {m : zMm} {O : zOt} {W : List (Nat × Nat)} {p q s len a a' c k : Nat} {bd wr bd' wr' : Bool} (hs : s < 3) (b : zBd h m O W p q s len a bd wr) (r' : zRr h' p s len a' bd' wr') (f : zRf p c k h h') : zBd h' m O W p q s len a' bd' wr' ∧ zGf p q c k h h' ∧ (∀ v y u mb fl ch it M, zQf h q v y u mb fl ch it M → zQf h' q v y u mb fl ch it M) := by
  have ne := zBd_ne b
  obtain ⟨hx, hw, r, hq⟩ := b
  have I : ∀ g, zI h' g q 0 = zI h g q 0 := fun g => f.2.2.1 g q 0 hq.1.2 (Or.inl (Ne.symm ne))
  have R : ∀ g, zR h' g q 0 = zR h g q 0 ∧ zL h' g q 0 = zL h g q 0 := fun g => f.2.2.2 g q 0 hq.1.2
  refine ⟨⟨zFx_rf hx f, zWv_rf hx hs r.1.2.1 f hw, r', ⟨⟨hq.1.1, Nat.lt_of_lt_of_le hq.1.2 f.1.1⟩, by rw [(f.2.1 q hq.1.2).1]; exact hq.2⟩⟩, zGf_rf f, fun v y u mb fl ch it M z => ?_⟩
  obtain ⟨z1, z2, z3, z4, z5, z6, z7, z8⟩ := z
  exact ⟨(R _).1.trans z1, (R _).1.trans z2, (I _).trans z3, (I _).trans z4, (I _).trans z5, (I _).trans z6, (I _).trans z7, (R _).2.trans z8⟩
/-- after a field of the command is written -/
theorem zBd_I {h : zH} {m : zMm} {O : zOt} {W : List (Nat × Nat)} {p q s len a : Nat} {bd wr : Bool} (hs : s < 3) (b : zBd h m O W p q s len a bd wr) (g : Nat) (x : Int32) : zBd (zsI h g q 0 x) m O W p q s len a bd wr := by
  have ne := zBd_ne b
  obtain ⟨hx, hw, r, hq⟩ := b
  exact ⟨hx, zWv_gf hx hs r.1.2.1 hq.2 ⟨r.1.1.1, hq.1.1⟩ (zGf_I p q h g x) hw, zRr_I r ne, hq⟩
theorem zBd_L {h : zH} {m : zMm} {O : zOt} {W : List (Nat × Nat)} {p q s len a : Nat} {bd wr : Bool} (hs : s < 3) (b : zBd h m O W p q s len a bd wr) (g : Nat) (x : Int64) : zBd (zsL h g q 0 x) m O W p q s len a bd wr := by
  obtain ⟨hx, hw, r, hq⟩ := b
  exact ⟨hx, zWv_gf hx hs r.1.2.1 hq.2 ⟨r.1.1.1, hq.1.1⟩ (zGf_L p q h g x) hw, zRr_L r, hq⟩
theorem zBd_R {h : zH} {m : zMm} {O : zOt} {W : List (Nat × Nat)} {p q s len a : Nat} {bd wr : Bool} (hs : s < 3) (b : zBd h m O W p q s len a bd wr) (g : Nat) (x : Option Nat) : zBd (zsR h g q 0 x) m O W p q s len a bd wr := by
  have ne := zBd_ne b
  obtain ⟨hx, hw, r, hq⟩ := b
  have f := zGf_R p q h g x
  exact ⟨zFx_gf hx ⟨r.1.1.1, hq.1.1⟩ f, zWv_gf hx hs r.1.2.1 hq.2 ⟨r.1.1.1, hq.1.1⟩ f hw, zRr_R r ne, hq⟩
