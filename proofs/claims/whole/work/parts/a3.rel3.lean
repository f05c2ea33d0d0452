/-! ===== the class inside a call: all but the lines ===== -/
def zKT (h : zH) (m : zMm) (O : zOt) (R : Nat → List Nat) (W : Nat → List (Nat × Nat)) (A : zAS) (s : Nat) : Prop := m 353 (111 + 7 * s) 0 = (zaC A s).toNat ∧ (zR h 355 (111 + 7 * s) 0 = (zaQ A s).map fun q => 102 + 2 * q.1) ∧ m 356 (111 + 7 * s) 0 = (zqW (zaQ A s)).toNat ∧ (zcL m s ≤ 1024 ∧ zcp m s = zaT A s) ∧ zaV A s = zVs O (W s) ∧ zKQ (m 403 (115 + 7 * s) 0) O R A (W s) (zaQ A s)
def zKL (m : zMm) (A : zAS) (s : Nat) : Prop := m 354 (111 + 7 * s) 0 = (zaL A s).length ∧ ∀ i, i < (zaL A s).length → m 0 (112 + 7 * s) i = zacl A s i
def zKJ (h : zH) (m : zMm) (O : zOt) (R : Nat → List Nat) (W : Nat → List (Nat × Nat)) (A : zAS) : Prop := zGl h m O R W ∧ (∀ b, b < 4 → zKB m O R A b) ∧ (∀ s, s < 3 → zKT h m O R W A s) ∧ m 452 100 0 = A.2.2 ∧ zDj R
theorem zKI_j {h : zH} {m : zMm} {O : zOt} {R : Nat → List Nat} {W : Nat → List (Nat × Nat)} {A : zAS} (z : zKI h m O R W A) : zKJ h m O R W A := ⟨z.1, z.2.1, fun s hs => ⟨(z.2.2.1 s hs).1, (z.2.2.1 s hs).2.1, (z.2.2.1 s hs).2.2.1, (z.2.2.1 s hs).2.2.2.1, (z.2.2.1 s hs).2.2.2.2.2⟩, z.2.2.2⟩
theorem zKI_of {h : zH} {m : zMm} {O : zOt} {R : Nat → List Nat} {W : Nat → List (Nat × Nat)} {A : zAS} (z : zKJ h m O R W A) (l : ∀ s, s < 3 → zKL m A s) : zKI h m O R W A := ⟨z.1, z.2.1, fun s hs => ⟨(z.2.2.1 s hs).1, (z.2.2.1 s hs).2.1, (z.2.2.1 s hs).2.2.1, (z.2.2.1 s hs).2.2.2.1, l s hs, (z.2.2.1 s hs).2.2.2.2⟩, z.2.2.2⟩
/-- another heap, the same below what was new -/
def zAw (h h' : zH) : Prop := zN h ≤ zN h' ∧ ∀ a, a < zN h → (zT h' a = zT h a ∧ zE h' a = zE h a) ∧ ∀ g i, zI h' g a i = zI h g a i ∧ zR h' g a i = zR h g a i ∧ zL h' g a i = zL h g a i
theorem zAw_rf (h : zH) : zAw h h := ⟨Nat.le_refl _, fun _ _ => ⟨⟨rfl, rfl⟩, fun _ _ => ⟨rfl, rfl, rfl⟩⟩⟩
theorem zAw_tr {h h1 h2 : zH} (f : zAw h h1) (g : zAw h1 h2) : zAw h h2 := ⟨Nat.le_trans f.1 g.1, fun a ha => by
  obtain ⟨a1, a2⟩ := f.2 a ha
  obtain ⟨b1, b2⟩ := g.2 a (Nat.lt_of_lt_of_le ha f.1)
  exact ⟨⟨b1.1.trans a1.1, b1.2.trans a1.2⟩, fun g i => ⟨(b2 g i).1.trans (a2 g i).1, (b2 g i).2.1.trans (a2 g i).2.1, (b2 g i).2.2.trans (a2 g i).2.2⟩⟩⟩
theorem zAw_new {h : zH} {t n k : Nat} : zAw h (zNew h t n k) := ⟨Nat.le_succ _, fun a ha => ⟨⟨if_neg (Nat.ne_of_lt ha), if_neg (Nat.ne_of_lt ha)⟩, fun g i => ⟨if_neg (Nat.ne_of_lt ha), if_neg (Nat.ne_of_lt ha), if_neg (Nat.ne_of_lt ha)⟩⟩⟩
theorem zAw_R {h h' : zH} {g p i : Nat} {x : Option Nat} (f : zAw h h') (hp : zN h ≤ p) : zAw h (zsR h' g p i x) := ⟨f.1, fun a ha => ⟨(f.2 a ha).1, fun g' j => ⟨((f.2 a ha).2 g' j).1, (if_neg fun e => by omega : zR (zsR h' g p i x) g' a j = zR h' g' a j).trans ((f.2 a ha).2 g' j).2.1, ((f.2 a ha).2 g' j).2.2⟩⟩⟩
theorem zAw_I {h h' : zH} {g p i : Nat} {x : Int32} (f : zAw h h') (hp : zN h ≤ p) : zAw h (zsI h' g p i x) := ⟨f.1, fun a ha => ⟨(f.2 a ha).1, fun g' j => ⟨(if_neg fun e => by omega : zI (zsI h' g p i x) g' a j = zI h' g' a j).trans ((f.2 a ha).2 g' j).1, ((f.2 a ha).2 g' j).2⟩⟩⟩
theorem zAw_gf {h h1 h2 : zH} {p q c k : Nat} (f : zAw h h1) (g : zGf p q c k h1 h2) (hp : zN h ≤ p) (hq : zN h ≤ q) : zAw h h2 := ⟨Nat.le_trans f.1 g.1.1, fun a ha => by
  obtain ⟨a1, a2⟩ := f.2 a ha
  have hn : a < zN h1 := Nat.lt_of_lt_of_le ha f.1
  have b1 := g.2.1 a hn
  have b2 := fun g' i => g.2.2 g' a i hn (by omega) (by omega)
  exact ⟨⟨b1.1.trans a1.1, b1.2.trans a1.2⟩, fun g i => ⟨(b2 g i).1.trans (a2 g i).1, (b2 g i).2.1.trans (a2 g i).2.1, (b2 g i).2.2.trans (a2 g i).2.2⟩⟩⟩
theorem zGl_aw {h h' : zH} {m : zMm} {O : zOt} {R : Nat → List Nat} {W : Nat → List (Nat × Nat)} (z : zGl h m O R W) (hx' : zFx h') (f : zAw h h') : zGl h' m O R W := by
  have n := z.1.1
  have mf : zMf h h' := ⟨f.1, fun a ha => (f.2 a ha).1, fun g a i ha _ => ⟨((f.2 a ha).2 g i).1, ((f.2 a ha).2 g i).2.1⟩⟩
  exact zGl_h z hx' (fun b i hb => ((f.2 _ (by omega)).2 _ _).2.1) (fun s i hs => ((f.2 _ (by omega)).2 _ _).2.1) fun o ho => zMf_ob z.1 mf ho
theorem zKJ_aw {h h' : zH} {m : zMm} {O : zOt} {R : Nat → List Nat} {W : Nat → List (Nat × Nat)} {A : zAS} (z : zKJ h m O R W A) (hx' : zFx h') (f : zAw h h') : zKJ h' m O R W A := by
  have n := z.1.1.1
  refine ⟨zGl_aw z.1 hx' f, z.2.1, fun s hs => ?_, z.2.2.2⟩
  obtain ⟨k1, k2, k3⟩ := z.2.2.1 s hs
  exact ⟨k1, ((f.2 _ (by omega)).2 _ _).2.1.trans k2, k3⟩
/-- frames -/
theorem zKB_cg {m m' : zMm} {O O' : zOt} {R R' : Nat → List Nat} {A A' : zAS} {b : Nat} (k : zKB m O R A b) (h1 : m' 151 (102 + 2 * b) 0 = m 151 (102 + 2 * b) 0) (h2 : m' 152 (102 + 2 * b) 0 = m 152 (102 + 2 * b) 0) (h3 : m' 153 (102 + 2 * b) 0 = m 153 (102 + 2 * b) 0) (hR : R' b = R b) (hO : ∀ r ∈ R b, zmA O' r = zmA O r ∧ (O' r).2.2.1 = (O r).2.2.1) (hA : A'.1 b = A.1 b) : zKB m' O' R' A' b := by
  obtain ⟨k1, k2, k3, k4, k5⟩ := k
  unfold zKB zaM at *
  rw [hA, h1, h2, h3, hR, zMs_cg fun r hr => (hO r hr).1]
  exact ⟨k1, k2, k3, k4, fun r hr => by rw [(hO r hr).2, show (O' r).1 = (O r).1 from congrArg (fun g : zMg => g.1) (hO r hr).1]; exact k5 r hr⟩
theorem zKT_cg {h h' : zH} {m m' : zMm} {O O' : zOt} {R R' : Nat → List Nat} {W W' : Nat → List (Nat × Nat)} {A A' : zAS} {s : Nat} (k : zKT h m O R W A s) (hm : ∀ g a i, 111 + 7 * s ≤ a → a < 118 + 7 * s → m' g a i = m g a i) (hq : zR h' 355 (111 + 7 * s) 0 = zR h 355 (111 + 7 * s) 0) (hA : A'.2.1 s = A.2.1 s) (hW : W' s = W s) (hV : ∀ v ∈ W s, (O' v.1).1 = (O v.1).1) (hQ : zKQ (m 403 (115 + 7 * s) 0) O R A (W s) (zaQ A s) → zKQ (m 403 (115 + 7 * s) 0) O' R' A' (W s) (zaQ A s)) : zKT h' m' O' R' W' A' s := by
  have e := zcp_fr hm
  obtain ⟨k1, k2, k3, k4, k6, k7⟩ := k
  have eC : zaC A' s = zaC A s := congrArg (fun S : zSs => S.1) hA
  have eQ : zaQ A' s = zaQ A s := congrArg (fun S : zSs => S.2.1) hA
  have eV : zaV A' s = zaV A s := congrArg (fun S : zSs => S.2.2.1) hA
  have eT : zaT A' s = zaT A s := congrArg (fun S : zSs => S.2.2.2.1) hA
  unfold zKT
  rw [eC, eQ, eV, eT, e.1, e.2, hq, hW, hm 353 _ _ (by omega) (by omega), hm 356 _ _ (by omega) (by omega), hm 403 _ _ (by omega) (by omega), zVs_cg hV]
  exact ⟨k1, k2, k3, k4, k6, hQ k7⟩
/-- the cells of a line and its length, and all of the reference's -/
def zCg (m m' : zMm) : Prop := ∀ g a i, (132 ≤ a ∨ ∃ s, s < 3 ∧ (a = 112 + 7 * s ∨ (g = 354 ∧ a = 111 + 7 * s))) → m' g a i = m g a i
theorem zCg_rf (m : zMm) : zCg m m := fun _ _ _ _ => rfl
theorem zCg_tr {m m1 m2 : zMm} (a : zCg m m1) (b : zCg m1 m2) : zCg m m2 := fun g x i q => (b g x i q).trans (a g x i q)
theorem zKL_cg {m m' : zMm} {A A' : zAS} {s : Nat} (hs : s < 3) (k : zKL m A s) (c : zCg m m') (hA : zaL A' s = zaL A s) : zKL m' A' s := by
  unfold zKL zacl
  rw [hA, c _ _ _ (Or.inr ⟨s, hs, Or.inr ⟨rfl, rfl⟩⟩)]
  exact ⟨k.1, fun i hi => (c _ _ _ (Or.inr ⟨s, hs, Or.inl rfl⟩)).trans (k.2 i hi)⟩
/-! ===== what a line read says ===== -/
def zArgOk (k : Nat) (a : zArg) : Prop := (a.1 < 4 ∧ a.2.1 < 16 ∧ a.2.2.1 ≤ 2 ∧ a.2.2.2.2.1 ≤ 6 ∧ a.2.2.2.2.2.1 ≤ 2) ∧ (k = 9 → a.2.2.2.2.1 ≠ 0) ∧ (k ≤ 9 → a.2.2.2.2.2.2.1 = false)
theorem zfls_lt {c : Nat → Nat} {p f e : Nat} (h : zfls c p = some (f, e)) : f < 16 := by
  unfold zfls at h
  split at h
  · cases h
    exact zmk_lt _ _ _ _ (by decide)
  · cases h
theorem zrest2_f {c : Nat → Nat} {E : zEnv} {u : Bool} {k p e : Nat} {a : zArg} (hk : 10 ≤ k) (h : zrest2 c E u k p = some (e, a)) : zArgOk k a := by
  unfold zrest2 at h
  by_cases k13 : k = 13
  · rw [if_pos k13] at h
    cases hz : zks c E 130 true 0 p with
    | none => rw [hz] at h; cases h
    | some x =>
      rw [hz] at h
      obtain ⟨e', w, P⟩ := x
      cases h
      exact ⟨⟨(by decide : 0 < 4), (by decide : 0 < 16), (by decide : 0 ≤ 2), (by decide : 0 ≤ 6), (by decide : 0 ≤ 2)⟩, fun q => by omega, fun q => by omega⟩
  rw [if_neg k13] at h
  cases hz : zset c 64 p with
  | none => rw [hz] at h; cases h
  | some x =>
    rw [hz] at h
    obtain ⟨l, e1⟩ := x
    dsimp only at h
    by_cases q : c e1 = 32
    · rw [if_pos q] at h
      by_cases k10 : k = 10
      · rw [if_pos k10] at h
        cases hf : zfls c (if zsgn (c (e1 + 1)) = 0 then e1 + 1 else e1 + 2) with
        | none => rw [hf] at h; cases h
        | some y =>
          rw [hf] at h
          obtain ⟨f, e2⟩ := y
          cases h
          refine ⟨⟨(by decide : 0 < 4), ?_, ?_, (by decide : 0 ≤ 6), (by decide : 0 ≤ 2)⟩, fun q => by omega, fun q => by omega⟩
          · exact zfls_lt hf
          · show zsgn (c (e1 + 1)) ≤ 2
            unfold zsgn
            split
            · decide
            · split <;> decide
      · rw [if_neg k10] at h
        by_cases k11 : k = 11
        · rw [if_pos k11] at h
          cases hi : zitem (zwn c (e1 + 1)) with
          | none => rw [hi] at h; cases h
          | some y =>
            rw [hi] at h
            cases h
            refine ⟨⟨(by decide : 0 < 4), (by decide : 0 < 16), (by decide : 0 ≤ 2), (by decide : 0 ≤ 6), ?_⟩, fun q => by omega, fun q => by omega⟩
            show y ≤ 2
            unfold zitem at hi
            split at hi
            · cases hi; decide
            · split at hi
              · cases hi; decide
              · split at hi
                · cases hi; decide
                · cases hi
        · rw [if_neg k11] at h
          by_cases r : 97 ≤ c (e1 + 1) ∧ c (e1 + 1) ≤ 100
          · rw [if_pos r] at h
            cases h
            refine ⟨⟨?_, (by decide : 0 < 16), (by decide : 0 ≤ 2), (by decide : 0 ≤ 6), (by decide : 0 ≤ 2)⟩, fun q => by omega, fun q => by omega⟩
            show c (e1 + 1) - 97 < 4
            omega
          · rw [if_neg r] at h
            cases h
    · rw [if_neg q] at h
      cases h
theorem zrest_f {c : Nat → Nat} {E : zEnv} {u : Bool} {k p e : Nat} {a : zArg} (h : zrest c E u k p = some (e, a)) : zArgOk k a := by
  unfold zrest at h
  by_cases k4 : k ≤ 4
  · rw [if_pos k4] at h
    cases h
    exact ⟨⟨(by decide : 0 < 4), (by decide : 0 < 16), (by decide : 0 ≤ 2), (by decide : 0 ≤ 6), (by decide : 0 ≤ 2)⟩, fun q => by omega, fun _ => rfl⟩
  rw [if_neg k4] at h
  by_cases q : c p = 32
  · rw [if_pos q] at h
    by_cases k9 : k ≤ 9
    · rw [if_pos k9] at h
      by_cases r : 97 ≤ c (p + 1) ∧ c (p + 1) ≤ 100
      · rw [if_pos r] at h
        by_cases k9' : k = 9
        · rw [if_pos k9'] at h
          by_cases t : c (p + 2) = 32
          · rw [if_pos t] at h
            cases hf : zfls c (p + 3) with
            | none => rw [hf] at h; cases h
            | some y =>
              rw [hf] at h
              obtain ⟨f, e2⟩ := y
              dsimp only at h
              by_cases w : c e2 = 32 ∧ 1 ≤ zre zsml c (e2 + 1) - (e2 + 1) ∧ zre zsml c (e2 + 1) - (e2 + 1) ≤ 6
              · rw [if_pos w] at h
                cases h
                refine ⟨⟨?_, ?_, (by decide : 0 ≤ 2), w.2.2, (by decide : 0 ≤ 2)⟩, fun _ => ?_, fun _ => rfl⟩
                · show c (p + 1) - 97 < 4
                  omega
                · exact zfls_lt hf
                · show zre zsml c (e2 + 1) - (e2 + 1) ≠ 0
                  omega
              · rw [if_neg w] at h
                cases h
          · rw [if_neg t] at h
            cases h
        · rw [if_neg k9'] at h
          cases h
          refine ⟨⟨?_, (by decide : 0 < 16), (by decide : 0 ≤ 2), (by decide : 0 ≤ 6), (by decide : 0 ≤ 2)⟩, fun q => absurd q k9', fun _ => rfl⟩
          show c (p + 1) - 97 < 4
          omega
      · rw [if_neg r] at h
        cases h
    · rw [if_neg k9] at h
      exact zrest2_f (by omega) h
  · rw [if_neg q] at h
    cases h
theorem zread_f {c : Nat → Nat} {E : zEnv} {ll k t : Nat} {u : Bool} {a : zArg} (h : zread c E ll = some (k, u, t, a)) : (1 ≤ k ∧ k ≤ 13) ∧ t ≤ 2 ∧ zArgOk k a := by
  unfold zread at h
  cases hh : zhead c with
  | none => rw [hh] at h; cases h
  | some x =>
    rw [hh] at h
    obtain ⟨u', x, p⟩ := x
    dsimp only at h
    by_cases q : zcmd x = 0 ∨ u' = true ∧ zcmd x < 10
    · rw [if_pos q] at h; cases h
    rw [if_neg q] at h
    cases hr : zrest c E u' (zcmd x) p with
    | none => rw [hr] at h; cases h
    | some y =>
      rw [hr] at h
      obtain ⟨e, a'⟩ := y
      dsimp only at h
      by_cases el : e = ll
      · rw [if_pos el] at h
        cases h
        refine ⟨⟨by omega, zcmd_le x⟩, ?_, zrest_f hr⟩
        unfold zhead at hh
        split at hh
        · rename_i g
          exact g.2.1
        · cases hh
      · rw [if_neg el] at h
        cases h
/-! ===== whether a command is refused ===== -/
theorem zrf_1 {A : zAS} {s : Nat} {a : zArg} : zrf A s 1 a = false := rfl
theorem zrf_2 {A : zAS} {s : Nat} {a : zArg} : zrf A s 2 a = ((zaQ A s).isNone) := by
  show ((((((((zaQ A s).isNone || false) || false) || false) || false) || false) || false) || false) = _
  simp only [Bool.or_false]
theorem zrf_3 {A : zAS} {s : Nat} {a : zArg} : zrf A s 3 a = ((zaQ A s).isNone || (!zqW (zaQ A s))) := by
  show ((((((((zaQ A s).isNone || (!zqW (zaQ A s))) || false) || false) || false) || false) || false) || false) = _
  simp only [Bool.or_false]
theorem zrf_4 {A : zAS} {s : Nat} {a : zArg} : zrf A s 4 a = false := rfl
theorem zrf_5 {A : zAS} {s : Nat} {a : zArg} : zrf A s 5 a = ((decide ((A.1 a.1).1 ≠ 0))) := by
  show ((((decide ((A.1 a.1).1 ≠ 0)) || false) || false) || false) = _
  simp only [Bool.or_false]
theorem zrf_6 {A : zAS} {s : Nat} {a : zArg} : zrf A s 6 a = ((decide ((A.1 a.1).1 = 0)) || (zqB (zaQ A 0) a.1 || zqB (zaQ A 1) a.1 || zqB (zaQ A 2) a.1)) := by
  show (((((decide ((A.1 a.1).1 = 0)) || false) || (zqB (zaQ A 0) a.1 || zqB (zaQ A 1) a.1 || zqB (zaQ A 2) a.1)) || false) || false) = _
  simp only [Bool.or_false]
theorem zrf_7 {A : zAS} {s : Nat} {a : zArg} : zrf A s 7 a = ((decide ((A.1 a.1).1 = 0))) := by
  show (((((decide ((A.1 a.1).1 = 0)) || false) || false) || false) || false) = _
  simp only [Bool.or_false]
theorem zrf_8 {A : zAS} {s : Nat} {a : zArg} : zrf A s 8 a = ((decide ((A.1 a.1).1 = 0))) := by
  show (((((decide ((A.1 a.1).1 = 0)) || false) || false) || false) || false) = _
  simp only [Bool.or_false]
theorem zrf_9 {A : zAS} {s : Nat} {a : zArg} : zrf A s 9 a = ((decide ((A.1 a.1).1 = 0)) || (decide ((zaM A a.1).length = 10))) := by
  show (((((decide ((A.1 a.1).1 = 0)) || false) || false) || (decide ((zaM A a.1).length = 10))) || false) = _
  simp only [Bool.or_false]
theorem zrf_10 {A : zAS} {s : Nat} {a : zArg} : zrf A s 10 a = ((zaQ A s).isNone || (!zqW (zaQ A s)) || a.2.2.2.2.2.2.1) := by
  show ((((((((zaQ A s).isNone || (!zqW (zaQ A s))) || a.2.2.2.2.2.2.1) || false) || false) || false) || false) || false) = _
  simp only [Bool.or_false]
theorem zrf_11 {A : zAS} {s : Nat} {a : zArg} : zrf A s 11 a = ((zaQ A s).isNone || a.2.2.2.2.2.2.1) := by
  show ((((((((zaQ A s).isNone || false) || a.2.2.2.2.2.2.1) || false) || false) || false) || false) || false) = _
  simp only [Bool.or_false]
theorem zrf_12 {A : zAS} {s : Nat} {a : zArg} : zrf A s 12 a = ((zaQ A s).isNone || a.2.2.2.2.2.2.1 || (decide ((A.1 a.1).1 = 0)) || (decide (10 < (zaM A a.1).length + zaN A s a.2.2.2.2.2.2.2))) := by
  show ((((((((zaQ A s).isNone || false) || a.2.2.2.2.2.2.1) || (decide ((A.1 a.1).1 = 0))) || false) || false) || false) || (decide (10 < (zaM A a.1).length + zaN A s a.2.2.2.2.2.2.2))) = _
  simp only [Bool.or_false]
theorem zrf_13 {A : zAS} {s : Nat} {a : zArg} : zrf A s 13 a = ((zaQ A s).isNone || a.2.2.2.2.2.2.1) := by
  show ((((((((zaQ A s).isNone || false) || a.2.2.2.2.2.2.1) || false) || false) || false) || false) || false) = _
  simp only [Bool.or_false]
section
variable {L : Nat} {xs : Nat → Int32} {h : zH} {m : zMm} {O : zOt} {R : Nat → List Nat} {W : Nat → List (Nat × Nat)} {A : zAS} {K : Nat}
theorem s84 (z : zKJ h m O R W A) {b : Nat} (hb : b < 4) : zCl (zPr L xs) 84 [.ref 100, .ref (102 + 2 * b)] (zMH h m) = some (.inl (some (.int (nI (zqB (zaQ A 0) b || zqB (zaQ A 1) b || zqB (zaQ A 2) b).toNat))), zMH h m) := by
  have hx := z.1.1
  have st : ∀ s, s < 3 → ∀ v, zEv (zPr L xs) 0 84 2 [.val (.ref 100), .val (.ref (102 + 2 * b)), .val (.int (nI (s + 1)))] [] (zMH h m) = some (.inl (some (.int (nI (Bool.toNat v)))), zMH h m) → zEv (zPr L xs) 0 84 2 [.val (.ref 100), .val (.ref (102 + 2 * b)), .val (.int (nI s))] [] (zMH h m) = some (.inl (some (.int (nI (zqB (zaQ A s) b || v).toNat))), zMH h m) := by
    intro s hs v hv
    have k := z.2.2.1 s hs
    have k2 := k.2.1
    have k7 := k.2.2.2.2.2
    cases hq : zaQ A s with
    | none =>
      rw [hq] at k2
      exact (n84_2_1 hx hb hs k2).trans hv
    | some x =>
      rw [hq] at k2 k7
      have b4 : x.1 < 4 := k7.1
      obtain ⟨x1, x2⟩ := x
      by_cases e : x1 = b
      · have : zqB (some (x1, x2)) b = true := decide_eq_true e
        rw [this]
        exact p84_2_1 (bb := x1) hx hb b4 hs k2 (by rw [e])
      · have : zqB (some (x1, x2)) b = false := decide_eq_false e
        rw [this]
        exact (p84_2_2 (bb := x1) hx hb b4 hs k2 (fun q => e (by omega))).trans hv
  rw [en_84]
  have e3 : zEv (zPr L xs) 0 84 2 [.val (.ref 100), .val (.ref (102 + 2 * b)), .val (.int (nI (2 + 1)))] [] (zMH h m) = some (.inl (some (.int (nI (Bool.toNat false)))), zMH h m) := n84_2_2 hx hb (by decide)
  have := st 0 (by decide) _ (st 1 (by decide) _ (st 2 (by decide) _ e3))
  rw [Bool.or_false, ← Bool.or_assoc] at this
  exact (n84_0_1 hx hb).trans this
theorem s83 (z : zKJ h m O R W A) {s q k : Nat} {a : zArg} (hs : s < 3) (hp : 154 ≤ q) (t1 : zT h q = 2) (hk : 1 ≤ k ∧ k ≤ 13) (r1 : zR h 101 q 0 = some (k - 1)) (v9 : zI h 109 q 0 = nI a.2.2.2.2.2.2.1.toNat) (v3 : zI h 103 q 0 = nI a.1) (v8 : zL h 108 q 0 = nL (zMk (fun n => zPg O (W s) n && a.2.2.2.2.2.2.2 n) (W s).length)) (ha : zArgOk k a) : zCl (zPr L xs) 83 [.ref 100, .ref (111 + 7 * s), .ref q] (zMH h m) = some (.inl (some (.int (nI (zrf A s k a).toNat))), zMH h m) := by
  have hx := z.1.1
  have kt := z.2.2.1 s hs
  have k2 := kt.2.1
  have k3 := kt.2.2.1
  have k7 := kt.2.2.2.2.2
  obtain ⟨⟨a4, -⟩, -, aw⟩ := ha
  have kb := z.2.1 a.1 a4
  have gb := z.1.2.1 a.1 a4
  have ll : (zaM A a.1).length = m 154 (102 + 2 * a.1) 0 := by rw [kb.2.2.2.1, gb.1]; unfold zMs; exact List.length_map ..
  have l10 : m 154 (102 + 2 * a.1) 0 ≤ 10 := by rw [gb.1]; exact gb.2.1
  have tb := kb.1.1
  have t2 := kb.1.2
  have bt : ∀ {B : Bool}, B.toNat = 0 ↔ B = false := fun {B} => by cases B <;> decide
  have wl : a.2.2.2.2.2.2.1.toNat < 2 := by cases a.2.2.2.2.2.2.1 <;> decide
  rw [en_83]
  have kk : k = 1 ∨ k = 2 ∨ k = 3 ∨ k = 4 ∨ k = 5 ∨ k = 6 ∨ k = 7 ∨ k = 8 ∨ k = 9 ∨ k = 10 ∨ k = 11 ∨ k = 12 ∨ k = 13 := by omega
  rcases kk with rfl | rfl | rfl | rfl | rfl | rfl | rfl | rfl | rfl | rfl | rfl | rfl | rfl
  · exact p83v0_0_2 hx hs t1 r1 v9 (by rw [aw (by decide)]; rfl) v3
  · rw [zrf_2]
    cases hq : zaQ A s with
    | none => rw [hq] at k2; exact n83v1_0_1 hx hs t1 r1 k2
    | some x => rw [hq] at k2 k7; exact p83v1_0_2 (bb := x.1) hx hs t1 r1 k2 v9 (by rw [aw (by decide)]; rfl) v3
  · rw [zrf_3]
    cases hq : zaQ A s with
    | none => rw [hq] at k2; exact n83v2_0_1 hx hs t1 r1 k2
    | some x =>
      rw [hq] at k2 k7 k3
      cases hw : zqW (some x) with
      | false => rw [hw] at k3; exact p83v2_0_3 (bb := x.1) hx hs t1 r1 k2 k3
      | true => rw [hw] at k3; exact p83v2_0_2 (bb := x.1) hx hs t1 r1 k2 (by rw [k3]; decide) v9 (by rw [aw (by decide)]; rfl) v3 (by rw [k3]; decide)
  · exact p83v3_0_2 hx hs t1 r1 v9 (by rw [aw (by decide)]; rfl) v3
  · rw [zrf_5]
    have := p83v4_0_2 (L := L) (xs := xs) (m := m) hx hs t1 r1 v9 (by rw [aw (by decide)]; rfl) v3 (by omega) a4 (by omega)
    refine this.trans ?_
    rw [tb]
    have : (A.1 a.1).1 = (decide ((A.1 a.1).1 ≠ 0)).toNat := by
      have : (A.1 a.1).1 = 0 ∨ (A.1 a.1).1 = 1 := by omega
      rcases this with e | e <;> rw [e] <;> rfl
    rw [← this]
  · rw [zrf_6]
    have e84 := s84 (L := L) (xs := xs) z a4
    by_cases c : (A.1 a.1).1 = 0
    · rw [decide_eq_true c]
      exact p83v5_0_4 hx hs t1 r1 v9 (by rw [aw (by decide)]; rfl) v3 (tb.trans c)
    · rw [decide_eq_false c, Bool.false_or]
      cases hq : (zqB (zaQ A 0) a.1 || zqB (zaQ A 1) a.1 || zqB (zaQ A 2) a.1) with
      | true => rw [hq] at e84; exact p83v5_0_2 (y1 := true) hx hs t1 r1 v9 (by rw [aw (by decide)]; rfl) v3 (by rw [tb]; exact c) e84 rfl
      | false => rw [hq] at e84; exact p83v5_0_3 (y1 := false) hx hs t1 r1 v9 (by rw [aw (by decide)]; rfl) v3 (by rw [tb]; exact c) e84 rfl
  · rw [zrf_7]
    by_cases c : (A.1 a.1).1 = 0
    · rw [decide_eq_true c]
      exact p83v6_0_2 hx hs t1 r1 v9 (by rw [aw (by decide)]; rfl) v3 (tb.trans c)
    · rw [decide_eq_false c]
      exact p83v6_0_3 hx hs t1 r1 v9 (by rw [aw (by decide)]; rfl) v3 (by rw [tb]; exact c)
  · rw [zrf_8]
    by_cases c : (A.1 a.1).1 = 0
    · rw [decide_eq_true c]
      exact p83v7_0_2 hx hs t1 r1 v9 (by rw [aw (by decide)]; rfl) v3 (tb.trans c)
    · rw [decide_eq_false c]
      exact p83v7_0_3 hx hs t1 r1 v9 (by rw [aw (by decide)]; rfl) v3 (by rw [tb]; exact c)
  · rw [zrf_9]
    by_cases c : (A.1 a.1).1 = 0
    · rw [decide_eq_true c]
      exact p83v8_0_4 hx hs t1 r1 v9 (by rw [aw (by decide)]; rfl) v3 (tb.trans c)
    · rw [decide_eq_false c, Bool.false_or]
      by_cases d : (zaM A a.1).length = 10
      · rw [decide_eq_true d]
        exact p83v8_0_2 hx hs t1 r1 v9 (by rw [aw (by decide)]; rfl) v3 (by rw [tb]; exact c) (by omega)
      · rw [decide_eq_false d]
        exact p83v8_0_3 hx hs t1 r1 v9 (by rw [aw (by decide)]; rfl) v3 (by rw [tb]; exact c) (by omega)
  · rw [zrf_10]
    cases hq : zaQ A s with
    | none => rw [hq] at k2; exact n83v9_0_1 hx hs t1 r1 k2
    | some x =>
      rw [hq] at k2 k7 k3
      cases hw : zqW (some x) with
      | false => rw [hw] at k3; exact p83v9_0_3 (bb := x.1) hx hs t1 r1 k2 k3
      | true =>
        rw [hw] at k3
        cases hr : a.2.2.2.2.2.2.1 with
        | true => rw [hr] at v9; exact p83v9_0_1 (bb := x.1) (x1 := 1) hx hs t1 r1 k2 (by rw [k3]; decide) v9 (by decide) (by rw [k3]; decide)
        | false => rw [hr] at v9; exact p83v9_0_2 (bb := x.1) (x1 := 0) hx hs t1 r1 k2 (by rw [k3]; decide) v9 rfl v3 (by rw [k3]; decide)
  · rw [zrf_11]
    cases hq : zaQ A s with
    | none => rw [hq] at k2; exact n83v10_0_1 hx hs t1 r1 k2
    | some x =>
      rw [hq] at k2 k7
      cases hr : a.2.2.2.2.2.2.1 with
      | true => rw [hr] at v9; exact p83v10_0_1 (bb := x.1) (x1 := 1) hx hs t1 r1 k2 v9 (by decide)
      | false => rw [hr] at v9; exact p83v10_0_2 (bb := x.1) (x1 := 0) hx hs t1 r1 k2 v9 rfl v3
  · rw [zrf_12]
    cases hq : zaQ A s with
    | none => rw [hq] at k2; exact n83v11_0_1 hx hs t1 r1 k2
    | some x =>
      rw [hq] at k2 k7
      cases hr : a.2.2.2.2.2.2.1 with
      | true => rw [hr] at v9; exact p83v11_0_1 (bb := x.1) (x1 := 1) hx hs t1 r1 k2 v9 (by decide)
      | false =>
        rw [hr] at v9
        by_cases c : (A.1 a.1).1 = 0
        · rw [decide_eq_true c]
          exact p83v11_0_4 (bb := x.1) (x1 := 0) hx hs t1 r1 k2 v9 rfl v3 (tb.trans c)
        · rw [decide_eq_false c]
          have w40 := (z.1.2.2 s hs).2.1
          have mlt : zMk (fun n => zPg O (W s) n && a.2.2.2.2.2.2.2 n) (W s).length < 18446744073709551616 := Nat.lt_of_lt_of_le (zMk_lt _ _) (Nat.pow_le_pow_right (by decide) (by omega : (W s).length ≤ 64))
          have cn := (zbc_cn (A := A) (s := s) (b := x.1) (w := x.2) (P := a.2.2.2.2.2.2.2) kt.2.2.2.2.1 hq (z.2.1 x.1 k7.1).2.2.2.1 k7.2.1 w40).1
          have e0 := s0 (L := L) (xs := xs) (m := m) hx mlt
          rw [cn] at e0
          have nb : zaN A s a.2.2.2.2.2.2.2 ≤ 64 := by
            rw [← cn]
            have : ∀ M n, zbc M n ≤ n := by
              intro M n
              induction n with
              | zero => exact Nat.le_refl 0
              | succ n ih =>
                have : (M.testBit n).toNat ≤ 1 := by cases M.testBit n <;> decide
                show zbc M n + _ ≤ _
                omega
            exact this _ 64
          by_cases d : 10 < (zaM A a.1).length + zaN A s a.2.2.2.2.2.2.2
          · rw [decide_eq_true d]
            exact p83v11_0_2 (bb := x.1) (x1 := 0) hx hs t1 r1 k2 v9 rfl v3 (by rw [tb]; exact c) v8 e0 (by omega)
          · rw [decide_eq_false d]
            exact p83v11_0_3 (bb := x.1) (x1 := 0) hx hs t1 r1 k2 v9 rfl v3 (by rw [tb]; exact c) v8 e0 (by omega)
  · rw [zrf_13]
    cases hq : zaQ A s with
    | none => rw [hq] at k2; exact n83v12_0_1 hx hs t1 r1 k2
    | some x =>
      rw [hq] at k2 k7
      cases hr : a.2.2.2.2.2.2.1 with
      | true => rw [hr] at v9; exact p83v12_0_1 (bb := x.1) (x1 := 1) hx hs t1 r1 k2 v9 (by decide)
      | false => rw [hr] at v9; exact p83v12_0_2 (bb := x.1) (x1 := 0) hx hs t1 r1 k2 v9 rfl v3
end
