/-! ===== the start: what both constructors make, counted out ===== -/
def zh0 : zH := ((100, 0, 0), (fun a => if a < 100 then zcT a else 0), (fun _ => 0), (fun _ _ _ => 0), (fun _ _ _ => 0), (fun _ _ _ => none))
/-- the methods that constructors run -/
def zO1 (y : Nat) : Nat → zOp := if y = 19 then zT_19 0 (fun _ => 0) else if y = 20 then zT_20 0 (fun _ => 0) else if y = 43 then zT_43 0 (fun _ => 0) else if y = 50 then zT_50 0 (fun _ => 0) else if y = 61 then zT_61 0 (fun _ => 0) else if y = 70 then zT_70 0 (fun _ => 0) else if y = 86 then zT_86 0 (fun _ => 0) else fun _ => o_none
def zPi : zP := (zO1, zRank, fun y as => zEn (zM y).2.2.1 as, zHand)
theorem zO1_ok (L : Nat) (xs : Nat → Int32) (y pc : Nat) : zO1 y pc = o_none ∨ zO1 y pc = (zPr L xs).1 y pc := by
  by_cases c1 : y = 19
  · subst c1; exact Or.inr rfl
  by_cases c2 : y = 20
  · subst c2; exact Or.inr rfl
  by_cases c3 : y = 43
  · subst c3; exact Or.inr rfl
  by_cases c4 : y = 50
  · subst c4; exact Or.inr rfl
  by_cases c5 : y = 61
  · subst c5; exact Or.inr rfl
  by_cases c6 : y = 70
  · subst c6; exact Or.inr rfl
  by_cases c7 : y = 86
  · subst c7; exact Or.inr rfl
  refine Or.inl ?_
  unfold zO1
  rw [if_neg c1, if_neg c2, if_neg c3, if_neg c4, if_neg c5, if_neg c6, if_neg c7]
theorem zRun_sub (L : Nat) (xs : Nat → Int32) : ∀ n, zLe (zRun zPi n) (zRun (zPr L xs) n)
  | 0 => fun _ _ _ _ _ _ _ he => by cases he
  | n + 1 => by
    intro r y pc ls st h q he
    have he : zStep zPi (zRun zPi n) r y pc ls st h = some q := he
    have m := zStep_mono (P := zPi) (zRun_sub L xs n) _ _ _ _ _ _ _ he
    show zStep (zPr L xs) (zRun (zPr L xs) n) r y pc ls st h = some q
    rcases zO1_ok L xs y pc with e | e
    · unfold zStep at m
      have e : zPi.1 y pc = o_none := e
      rw [e] at m
      cases m
    · have e : zPi.1 y pc = (zPr L xs).1 y pc := e
      unfold zStep at m ⊢
      rw [e] at m
      exact m
def zhp (q : Option zRes) : zH := match q with
  | some (.inl none, h) => h
  | _ => zh0
def zok1 (q : Option zRes) : Bool := match q with
  | some (.inl none, _) => true
  | _ => false
theorem zok1_e : ∀ {q : Option zRes}, zok1 q = true → q = some (.inl none, zhp q)
  | some (.inl none, _), _ => rfl
  | some (.inl (some _), _), h => by cases h
  | some (.inr _, _), h => by cases h
  | none, h => by cases h
def zr70 : Option zRes := zRun zPi 900 2 70 0 [.val (.ref 100), .unset] [] (zNew zh0 9 0 3)
theorem zr70_d : zr70 = zRun zPi 900 2 70 0 [.val (.ref 100), .unset] [] (zNew zh0 9 0 3) := rfl
def zH70 : zH := zhp zr70
def zr86 : Option zRes := zRun zPi 900 0 86 0 [.val (.ref 132), .unset] [] (zNew zH70 10 0 39)
theorem zr86_d : zr86 = zRun zPi 900 0 86 0 [.val (.ref 132), .unset] [] (zNew zH70 10 0 39) := rfl
def zH86 : zH := zhp zr86
def zH1 : zH := zNew zH86 21 1 1
theorem zr70_ok : zok1 zr70 = true := by decide +kernel
theorem zn70 : zN zH70 = 132 := by decide +kernel
theorem zr86_ok : zok1 zr86 = true := by decide +kernel
def zm1 : zMm := fun g a i => (zI zH1 g a i).toBitVec.toNat
theorem zi1_n : zN zH1 = 155 ∧ zC zH1 ≤ 55 ∧ zS zH1 ≤ 12000 := by decide +kernel
theorem zi1_t : ∀ i, i < 55 → zT zH1 (100 + i) = zfT (100 + i) ∧ zE zH1 (100 + i) = zfE (100 + i) := by decide +kernel
theorem zi1_c : ∀ a, a < 100 → zT zH1 a = zcT a := by decide +kernel
theorem zi1_r : ∀ q ∈ zfRl, zR zH1 q.1 q.2.1 q.2.2.1 = some q.2.2.2 := by decide +kernel
theorem zi1_b : ∀ b, b < 4 → zm1 151 (102 + 2 * b) 0 = (if b = 0 then 1 else 0) ∧ zm1 152 (102 + 2 * b) 0 = (if b = 0 then 1 else 0) ∧ zm1 153 (102 + 2 * b) 0 = (if b = 0 then 1 else 0) ∧ zm1 154 (102 + 2 * b) 0 = 0 := by decide +kernel
theorem zi1_s : ∀ s, s < 3 → zR zH1 355 (111 + 7 * s) 0 = none ∧ zm1 353 (111 + 7 * s) 0 = (if s = 0 then 1 else 0) ∧ zm1 354 (111 + 7 * s) 0 = 0 ∧ zm1 356 (111 + 7 * s) 0 = 0 ∧ zm1 301 (113 + 7 * s) 0 = 0 ∧ zm1 402 (115 + 7 * s) 0 = 0 := by decide +kernel
theorem zi1_0 : zm1 452 100 0 = 1 ∧ zm1 509 132 0 = 1 ∧ zm1 520 132 0 = 0 := by decide +kernel
theorem zi1_B : ∀ b, b < 4 → zm1 0 133 b = (if b = 0 then 1 else 0) ∧ zm1 0 134 b = (if b = 0 then 1 else 0) ∧ zm1 0 135 b = (if b = 0 then 1 else 0) ∧ zm1 0 136 b = 0 := by decide +kernel
theorem zi1_S : ∀ s, s < 3 → zm1 0 141 s = (if s = 0 then 1 else 0) ∧ zm1 0 142 s = 4294967295 ∧ zm1 0 143 s = 0 ∧ zm1 0 144 s = 0 ∧ zm1 0 148 s = 0 ∧ zm1 0 150 s = 0 := by decide +kernel
theorem zi1_M : (∀ i, i < 40 → zm1 0 137 i = 0 ∧ zm1 0 138 i = 0 ∧ zm1 0 139 i = 0) ∧ (∀ k, k < 240 → zm1 0 140 k = 0) ∧ ∀ k, k < 120 → zm1 0 145 k = 0 ∧ zm1 0 146 k = 0 := by decide +kernel
theorem zMH1 : zMH zH1 zm1 = zH1 := by
  have e : ∀ x : Int32, nI x.toBitVec.toNat = x := fun x => by
    apply Int32.toBitVec_inj.mp
    show BitVec.ofNat 32 x.toBitVec.toNat = x.toBitVec
    rw [BitVec.ofNat_toNat, BitVec.setWidth_eq]
  have f : (fun g a i => if 100 ≤ a ∧ a < 154 then nI (zm1 g a i) else zI zH1 g a i) = zI zH1 := by
    funext g a i
    split
    · exact e _
    · rfl
  show (zH1.1, zH1.2.1, zH1.2.2.1, (fun g a i => if 100 ≤ a ∧ a < 154 then nI (zm1 g a i) else zI zH1 g a i), zH1.2.2.2.2.1, zH1.2.2.2.2.2) = zH1
  rw [f]
  rfl
theorem zFx1 : zFx zH1 := ⟨by rw [zi1_n.1]; exact Nat.le_refl _, fun a h1 h2 => by
  have := zi1_t (a - 100) (by omega)
  rw [show 100 + (a - 100) = a from by omega] at this
  exact this, zi1_r, zi1_c⟩
def zA1 : zAS := ((fun b => if b = 0 then (1, 1, 1, []) else (0, 0, 0, [])), (fun s => (decide (s = 0), none, [], [], [])), 1)
theorem zRI1 : zRI zm1 0 zA1 zm1 := by
  refine ⟨⟨fun i hi => ?_, fun k hk => ?_, fun b hb => ?_, fun s hs => ?_, by rw [zi1_0.2.1]; decide⟩, ⟨fun b hb => ?_, fun s hs => ?_, zi1_0.2.1⟩, ⟨fun b hb => ?_, fun s hs => ⟨List.Pairwise.nil, ⟨Nat.zero_le 40, fun v hv => absurd hv List.not_mem_nil⟩, rfl⟩, Nat.le_refl _⟩, ⟨by rw [zi1_0.2.2]; decide, fun _ _ _ _ => rfl⟩, fun s hs => ⟨Nat.zero_le _, Nat.zero_le _, fun x hx => absurd hx List.not_mem_nil, fun _ => rfl, fun x hx => absurd hx List.not_mem_nil⟩⟩
  · have a := zi1_M.1 i hi
    exact ⟨by omega, by omega, by omega, fun k hk => by have := zi1_M.2.1 (6 * i + k) (by omega); omega⟩
  · have a := zi1_M.2.2 k hk
    omega
  · obtain ⟨a, c, d, e⟩ := zi1_B b hb
    rw [a, c, d, e]
    split <;> decide
  · obtain ⟨a, c, d, e, -⟩ := zi1_S s hs
    rw [a, c, d, e]
    split <;> decide
  · obtain ⟨a, c, d, e⟩ := zi1_B b hb
    have el : zbm zm1 b = [] := by unfold zbm; rw [e]; rfl
    unfold zbx
    rw [a, c, d, el]
    show _ = if b = 0 then (1, 1, 1, []) else (0, 0, 0, [])
    by_cases q : b = 0
    · rw [if_pos q, if_pos q]
    · rw [if_neg q, if_neg q]
  · obtain ⟨a, c, d, e, f, g⟩ := zi1_S s hs
    have e1 : zvw zm1 s = [] := List.eq_nil_of_length_eq_zero (by rw [zvw_len, e])
    have e2 : zrp zm1 s = [] := List.eq_nil_of_length_eq_zero (by rw [zrp_len, g])
    have e3 : zln zm1 s = [] := List.eq_nil_of_length_eq_zero (by rw [zln_len, f])
    have e4 : zsq zm1 s = none := by unfold zsq; rw [c]; rfl
    unfold zss
    rw [a, e1, e2, e3, e4]
    show _ = (decide (s = 0), none, [], [], [])
    by_cases q : s = 0
    · rw [if_pos q, decide_eq_true q]; rfl
    · rw [if_neg q, decide_eq_false q]; rfl
  · show zBI 0 (if b = 0 then (1, 1, 1, []) else (0, 0, 0, []))
    split
    · exact ⟨List.Pairwise.nil, fun g hg => absurd hg List.not_mem_nil, by decide, by decide, by decide, fun g hg => absurd hg List.not_mem_nil⟩
    · exact ⟨List.Pairwise.nil, fun g hg => absurd hg List.not_mem_nil, by decide, by decide, by decide, fun g hg => absurd hg List.not_mem_nil⟩
theorem zKI1 : zKI zH1 zm1 (fun _ => (0, 0, false, [])) (fun _ => []) (fun _ => []) zA1 := by
  refine ⟨⟨zFx1, fun b hb => ⟨(zi1_b b hb).2.2.2, Nat.zero_le 10, fun i hi => absurd hi (Nat.not_lt_zero i)⟩, fun s hs => ⟨(zi1_s s hs).2.2.2.2.2, Nat.zero_le 40, fun i hi => absurd hi (Nat.not_lt_zero i)⟩⟩, fun b hb => ?_, fun s hs => ?_, zi1_0.1, fun b hb b' hb' ne r hr => absurd hr List.not_mem_nil⟩
  · obtain ⟨a, c, d, e⟩ := zi1_b b hb
    have eA : zA1.1 b = if b = 0 then (1, 1, 1, []) else (0, 0, 0, []) := rfl
    unfold zKB zaM
    rw [a, c, d, eA]
    by_cases q : b = 0
    · rw [if_pos q, if_pos q]
      exact ⟨⟨rfl, (by decide : 1 < 2)⟩, rfl, ⟨rfl, fun _ => Nat.le_refl _⟩, rfl, fun r hr => absurd hr List.not_mem_nil⟩
    · rw [if_neg q, if_neg q]
      exact ⟨⟨rfl, (by decide : 0 < 2)⟩, rfl, ⟨rfl, fun q => absurd rfl q⟩, rfl, fun r hr => absurd hr List.not_mem_nil⟩
  · obtain ⟨a, c, d, e, f, g⟩ := zi1_s s hs
    have r0 : zcL zm1 s = 0 := f
    refine ⟨?_, a, e, ⟨by rw [r0]; decide, by unfold zcp; rw [r0]; rfl⟩, ⟨d, fun i hi => absurd hi (Nat.not_lt_zero i)⟩, rfl, rfl⟩
    rw [c]
    show _ = (decide (s = 0)).toNat
    by_cases q : s = 0
    · rw [if_pos q, decide_eq_true q]; rfl
    · rw [if_neg q, decide_eq_false q]; rfl
theorem zr70_e : zr70 = some (.inl none, zH70) := zok1_e zr70_ok
theorem zr86_e : zr86 = some (.inl none, zH86) := zok1_e zr86_ok
section
variable {L : Nat} {xs : Nat → Int32}
theorem e70 : zCl (zPr L xs) 70 [.ref 100] (zNew zh0 9 0 3) = some (.inl none, zH70) := by
  have e := zr70_e
  rw [zr70_d] at e
  rw [en_70]
  exact zRun_ev _ 900 _ _ _ _ _ _ _ (zRun_sub L xs 900 _ _ _ _ _ _ _ e)
theorem e86 : zCl (zPr L xs) 86 [.ref 132] (zNew zH70 10 0 39) = some (.inl none, zH86) := by
  have e := zr86_e
  rw [zr86_d] at e
  rw [en_86]
  exact zRun_ev _ 900 _ _ _ _ _ _ _ (zRun_sub L xs 900 _ _ _ _ _ _ _ e)
end
