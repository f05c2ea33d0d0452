/-! ===== the class's reader: verbs ===== -/
/-- a verb's word; its letters -/
def zVw (v : Nat) : List Nat := zByt.getD (20 + v) []
def zVl (v : Nat) : List Nat := if v < 4 then zVw v else (zVw v).dropLast
theorem zVl_w : ∀ v, v < 13 → (decide (1 ≤ (zVl v).length ∧ (zVl v).length ≤ 7) && (zVl v).all fun t => decide (65 ≤ t ∧ t ≤ 90)) = true := by decide
theorem zVw_l : ∀ v, v < 13 → zVw v = if v < 4 then zVl v else zVl v ++ [32] := by decide
theorem zVw_0 : ∀ v, v < 13 → ∀ x ∈ zVw v, x ≠ 0 := by decide
theorem zcmd_v : ∀ v, v < 13 → zcmd (zen (zVl v)) = v + 1 := by decide
/-- two words that can stand at one place -/
def zpx : List Nat → List Nat → Bool
  | [], _ => true
  | _, [] => true
  | t :: T, u :: U => decide (t = u) && zpx T U
theorem zpx_mw {c : Nat → Nat} : ∀ (T U : List Nat) (a : Nat), zmw c a T = true → zmw c a U = true → zpx T U = true
  | [], _, _, _, _ => by unfold zpx; rfl
  | t :: T, [], _, _, _ => by unfold zpx; rfl
  | t :: T, u :: U, a, h1, h2 => by
    unfold zmw at h1 h2
    rw [Bool.and_eq_true, decide_eq_true_eq] at h1 h2
    unfold zpx
    rw [zpx_mw T U (a + 1) h1.2 h2.2, decide_eq_true (h1.1.symm.trans h2.1)]
    rfl
theorem zVl_x : ∀ i, i < 13 → ∀ j, j < 13 → zpx (zVl i) (zVl j) = true → i = j := by decide
theorem zcmd_e (x : Nat) : zcmd x = 0 ∨ ∃ v, v < 13 ∧ x = zen (zVl v) ∧ zcmd x = v + 1 := by
  unfold zcmd
  by_cases n0 : x = 15551954944
  · rw [if_pos n0]; exact Or.inr ⟨0, by decide, by rw [n0]; decide, rfl⟩
  rw [if_neg n0]
  by_cases n1 : x = 3640235008
  · rw [if_pos n1]; exact Or.inr ⟨1, by decide, by rw [n1]; decide, rfl⟩
  rw [if_neg n1]
  by_cases n2 : x = 6191495397
  · rw [if_pos n2]; exact Or.inr ⟨2, by decide, by rw [n2]; decide, rfl⟩
  rw [if_neg n2]
  by_cases n3 : x = 13396072064
  · rw [if_pos n3]; exact Or.inr ⟨3, by decide, by rw [n3]; decide, rfl⟩
  rw [if_neg n3]
  by_cases n4 : x = 3830501536
  · rw [if_pos n4]; exact Or.inr ⟨4, by decide, by rw [n4]; decide, rfl⟩
  rw [if_neg n4]
  by_cases n5 : x = 4475506848
  · rw [if_pos n5]; exact Or.inr ⟨5, by decide, by rw [n5]; decide, rfl⟩
  rw [if_neg n5]
  by_cases n6 : x = 20581617280
  · rw [if_pos n6]; exact Or.inr ⟨6, by decide, by rw [n6]; decide, rfl⟩
  rw [if_neg n6]
  by_cases n7 : x = 6175499717
  · rw [if_pos n7]; exact Or.inr ⟨7, by decide, by rw [n7]; decide, rfl⟩
  rw [if_neg n7]
  by_cases n8 : x = 1627568256
  · rw [if_pos n8]; exact Or.inr ⟨8, by decide, by rw [n8]; decide, rfl⟩
  rw [if_neg n8]
  by_cases n9 : x = 21088506880
  · rw [if_pos n9]; exact Or.inr ⟨9, by decide, by rw [n9]; decide, rfl⟩
  rw [if_neg n9]
  by_cases n10 : x = 6631301120
  · rw [if_pos n10]; exact Or.inr ⟨10, by decide, by rw [n10]; decide, rfl⟩
  rw [if_neg n10]
  by_cases n11 : x = 3742138368
  · rw [if_pos n11]; exact Or.inr ⟨11, by decide, by rw [n11]; decide, rfl⟩
  rw [if_neg n11]
  by_cases n12 : x = 20570508544
  · rw [if_pos n12]; exact Or.inr ⟨12, by decide, by rw [n12]; decide, rfl⟩
  rw [if_neg n12]
  exact Or.inl rfl
def zvf (c : Nat → Nat) (a : Nat) : Nat → Nat → Option Nat
  | 0, _ => none
  | f + 1, i => if zmw c a (zVw i) = true then some i else zvf c a f (i + 1)
def zvb (c : Nat → Nat) (a : Nat) : Option Nat := zvf c a 13 0
theorem zvf_some {c : Nat → Nat} {a v : Nat} : ∀ f i, zvf c a f i = some v → i ≤ v ∧ v < i + f ∧ zmw c a (zVw v) = true
  | 0, _, h => by cases h
  | f + 1, i, h => by
    unfold zvf at h
    by_cases q : zmw c a (zVw i) = true
    · rw [if_pos q] at h
      have e : i = v := Option.some.inj h
      rw [← e]
      exact ⟨Nat.le_refl i, by omega, q⟩
    · rw [if_neg q] at h
      have := zvf_some f (i + 1) h
      exact ⟨by omega, by omega, this.2.2⟩
theorem zvf_none {c : Nat → Nat} {a : Nat} : ∀ f i, zvf c a f i = none → ∀ v, i ≤ v → v < i + f → zmw c a (zVw v) = false
  | 0, _, _, v, h1, h2 => by omega
  | f + 1, i, h, v, h1, h2 => by
    unfold zvf at h
    by_cases q : zmw c a (zVw i) = true
    · rw [if_pos q] at h; cases h
    · rw [if_neg q] at h
      by_cases e : i = v
      · rw [← e]
        cases z : zmw c a (zVw i) with
        | true => exact absurd z q
        | false => rfl
      · exact zvf_none f (i + 1) h v (by omega) (by omega)
/-- the verb of the class and the command of the reference -/
theorem zvb_cmd {c : Nat → Nat} (hc : zCh c) {a v : Nat} (h : zvb c a = some v) : v < 13 ∧ zmw c a (zVw v) = true ∧ (4 ≤ v → zcmd (zwn c a) = v + 1 ∧ zre zlrg c a = a + (zVl v).length ∧ c (a + (zVl v).length) = 32) ∧ (v < 4 → (zlrg (c (a + (zVl v).length)) = false → zcmd (zwn c a) = v + 1 ∧ zre zlrg c a = a + (zVl v).length) ∧ (zlrg (c (a + (zVl v).length)) = true → zcmd (zwn c a) = 0)) := by
  obtain ⟨-, v13, hm⟩ := zvf_some 13 0 h
  have v13 : v < 13 := by omega
  have w := zwd _ (zVl_w v v13)
  have e := zVw_l v v13
  refine ⟨v13, hm, fun g => ?_, fun g => ⟨fun z => ?_, fun z => ?_⟩⟩
  · rw [if_neg (by omega)] at e
    rw [e] at hm
    obtain ⟨z1, z2, z3⟩ := (zw_32 hc w).1 hm
    exact ⟨by rw [z1]; exact zcmd_v v v13, z2, by rw [← z2]; exact z3⟩
  · rw [if_pos g] at e
    rw [e] at hm
    obtain ⟨z1, z2⟩ := zwn_of hc w hm z
    exact ⟨by rw [z1]; exact zcmd_v v v13, z2⟩
  · rw [if_pos g] at e
    rw [e] at hm
    rcases zcmd_e (zwn c a) with y | ⟨u, u13, y, -⟩
    · exact y
    · exfalso
      obtain ⟨x1, x2⟩ := zwn_to hc (zwd _ (zVl_w u u13)) y
      have uv := zVl_x v v13 u u13 (zpx_mw _ _ a hm x1)
      rw [← uv] at x2
      have ge := (zre_ge (f := zlrg) hc rfl a).2.2
      rw [x2, z] at ge
      cases ge
theorem zvb_no {c : Nat → Nat} (hc : zCh c) {a : Nat} (h : zvb c a = none) : zcmd (zwn c a) = 0 ∨ (5 ≤ zcmd (zwn c a) ∧ c (zre zlrg c a) ≠ 32) := by
  rcases zcmd_e (zwn c a) with y | ⟨u, u13, y, y2⟩
  · exact Or.inl y
  · have n := zvf_none 13 0 h u (Nat.zero_le _) (by omega)
    have w := zwd _ (zVl_w u u13)
    have e := zVw_l u u13
    obtain ⟨x1, x2⟩ := zwn_to hc w y
    by_cases g : u < 4
    · rw [if_pos g] at e
      rw [e, x1] at n
      cases n
    · rw [if_neg g] at e
      rw [e] at n
      exact Or.inr ⟨by omega, (zw_32 hc w).2 n y⟩
section
variable {L : Nat} {xs : Nat → Int32} {h : zH} {m : zMm} {p s len a : Nat} {bd wr : Bool} {c : Nat → Nat}
def zvv : Option Nat → Value
  | some v => .ref v
  | none => .null
theorem s26 (hx : zFx h) (hs : s < 3) (hl : zLm m s len c) (r : zRr h p s len a bd wr) : ∃ h', zCl (zPr L xs) 26 [.ref p] (zMH h m) = some (.inl (some (zvv (zvb c a))), zMH h' m) ∧ zRr h' p s len (match zvb c a with
    | some v => a + (zVw v).length
    | none => a) bd wr ∧ zRf p 0 0 h h' := by
  rw [en_26]
  have lp : ∀ f i (h : zH), zFx h → zRr h p s len a bd wr → i + f = 13 → ∃ h', zEv (zPr L xs) 5 26 2 [.val (.ref p), .val (.int (nI i))] [] (zMH h m) = some (.inl (some (zvv (zvf c a f i))), zMH h' m) ∧ zRr h' p s len (match zvf c a f i with
      | some v => a + (zVw v).length
      | none => a) bd wr ∧ zRf p 0 0 h h' := by
    intro f
    induction f with
    | zero =>
      intro i h hx r hf
      exact ⟨h, p26_2_3 hx hs (by omega) (by omega), r, zRf_rf p h⟩
    | succ f ih =>
      intro i h hx r hf
      have i13 : i < 13 := by omega
      have hS := zSt_k hx (p := 40 + i) (by omega)
      rw [show 40 + i - 20 = 20 + i by omega] at hS
      obtain ⟨h1, e1, r1, f1⟩ := s42 (L := L) (xs := xs) hx hs hl r (q := 40 + i) (T := zVw i) hS (zVw_0 i i13)
      have hx1 := zFx_rf hx f1
      unfold zvf
      cases q : zmw c a (zVw i) with
      | true =>
        rw [q] at e1 r1
        rw [if_pos rfl] at r1
        rw [if_pos rfl]
        exact ⟨h1, p26_2_1 hx hs i13 r.1.2.1 (y1 := true) e1 hx1 rfl (by omega) i13, r1, f1⟩
      | false =>
        rw [q] at e1 r1
        rw [if_neg Bool.noConfusion] at r1
        rw [if_neg (show ¬ false = true from Bool.noConfusion)]
        obtain ⟨h2, e2, r2, f2⟩ := ih (i + 1) h1 hx1 r1 (by omega)
        exact ⟨h2, (p26_2_2 hx hs i13 r.1.2.1 (y1 := false) e1 hx1 rfl (by omega) i13).trans e2, r2, zRf_tr f1 f2⟩
  obtain ⟨h', e, r', f⟩ := lp 13 0 h hx r rfl
  exact ⟨h', (p26_0_1 hx hs).trans e, r', f⟩
end
