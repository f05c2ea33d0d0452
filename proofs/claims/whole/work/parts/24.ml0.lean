/-! ===== the reference's small methods ===== -/
def zdig (c : Nat) : Bool := decide (48 ≤ c ∧ c ≤ 57)
def zsml (c : Nat) : Bool := decide (97 ≤ c ∧ c ≤ 122)
def zlrg (c : Nat) : Bool := decide (65 ≤ c ∧ c ≤ 90)
def zltr (c : Nat) : Nat := if c = 0 then 0 else c - 64
def zbit (c : Nat) : Nat := if c = 83 then 1 else if c = 65 then 2 else if c = 70 then 4 else if c = 68 then 8 else 0
def zlk (m : zMm) (p : Nat) : Nat := if p < m 0 148 (m 520 132 0) then m 0 147 (48 * (m 520 132 0) + p) else 0
section
variable {L : Nat} {xs : Nat → Int32} {h : zH} {m : zMm}
theorem s92 (hx : zFx h) (c : Nat) (hc : c < 2147483648 := by omega) : zCl (zPr L xs) 92 [.int (nI c)] (zMH h m) = some (.inl (some (.int (nI (zdig c).toNat))), zMH h m) := by
  rw [en_92]
  unfold zdig
  by_cases c1 : 48 ≤ c
  · by_cases c2 : c ≤ 57
    · rw [p92_0_1 hx c1 c2, decide_eq_true (And.intro c1 c2)]; rfl
    · rw [p92_0_2 hx c1 (by omega), decide_eq_false (fun q => c2 q.2)]; rfl
  · rw [p92_0_3 hx (by omega), decide_eq_false (fun q => c1 q.1)]; rfl
theorem s93 (hx : zFx h) (c : Nat) (hc : c < 2147483648 := by omega) : zCl (zPr L xs) 93 [.int (nI c)] (zMH h m) = some (.inl (some (.int (nI (zsml c).toNat))), zMH h m) := by
  rw [en_93]
  unfold zsml
  by_cases c1 : 97 ≤ c
  · by_cases c2 : c ≤ 122
    · rw [p93_0_1 hx c1 c2, decide_eq_true (And.intro c1 c2)]; rfl
    · rw [p93_0_2 hx c1 (by omega), decide_eq_false (fun q => c2 q.2)]; rfl
  · rw [p93_0_3 hx (by omega), decide_eq_false (fun q => c1 q.1)]; rfl
theorem s94 (hx : zFx h) (c : Nat) (hc : c < 2147483648 := by omega) : zCl (zPr L xs) 94 [.int (nI c)] (zMH h m) = some (.inl (some (.int (nI (zlrg c).toNat))), zMH h m) := by
  rw [en_94]
  unfold zlrg
  by_cases c1 : 65 ≤ c
  · by_cases c2 : c ≤ 90
    · rw [p94_0_1 hx c1 c2, decide_eq_true (And.intro c1 c2)]; rfl
    · rw [p94_0_2 hx c1 (by omega), decide_eq_false (fun q => c2 q.2)]; rfl
  · rw [p94_0_3 hx (by omega), decide_eq_false (fun q => c1 q.1)]; rfl
theorem s89 (hx : zFx h) (c : Nat) (h0 : c = 0 ∨ 64 ≤ c := by omega) (hc : c < 2147483648 := by omega) : zCl (zPr L xs) 89 [.int (nI c)] (zMH h m) = some (.inl (some (.long (nL (zltr c)))), zMH h m) := by
  rw [en_89]
  unfold zltr
  by_cases c1 : c = 0
  · rw [p89_0_1 hx c1, if_pos c1]
  · rw [p89_0_2 hx c1, if_neg c1]
theorem s98 (hx : zFx h) (c : Nat) (hc : c < 2147483648 := by omega) : zCl (zPr L xs) 98 [.int (nI c)] (zMH h m) = some (.inl (some (.int (nI (zbit c)))), zMH h m) := by
  rw [en_98]
  unfold zbit
  by_cases c1 : c = 83
  · rw [p98_0_1 hx c1, if_pos c1]
  · by_cases c2 : c = 65
    · rw [p98_0_2 hx c1 c2, if_neg c1, if_pos c2]
    · by_cases c3 : c = 70
      · rw [p98_0_3 hx c1 c2 c3, if_neg c1, if_neg c2, if_pos c3]
      · by_cases c4 : c = 68
        · rw [p98_0_4 hx c1 c2 c3 c4, if_neg c1, if_neg c2, if_neg c3, if_pos c4]
        · rw [p98_0_5 hx c1 c2 c3 c4, if_neg c1, if_neg c2, if_neg c3, if_neg c4]
/-- the line may be looked at: a session, its length -/
def zLn (m : zMm) : Prop := m 520 132 0 < 3 ∧ m 0 148 (m 520 132 0) ≤ 48
theorem s91 (hx : zFx h) (hl : zLn m) (p : Nat) (hp : p < 2147483648 := by omega) : zCl (zPr L xs) 91 [.ref 132, .int (nI p)] (zMH h m) = some (.inl (some (.int (nI (zlk m p)))), zMH h m) := by
  rw [en_91]
  have h1 := hl.1
  have h2 := hl.2
  unfold zlk
  by_cases c1 : p < m 0 148 (m 520 132 0)
  · rw [p91_0_1 hx c1, if_pos c1]
  · rw [p91_0_2 hx (by omega), if_neg c1]
theorem s87 (hx : zFx h) : zCl (zPr L xs) 87 [.ref 132] (zMH h m) = some (.inl (some (.int (nI (m 500 132 0)))), zMH h m) := by
  rw [en_87, p87_0_1 hx]
theorem s90 (hx : zFx h) (a b c d e f g : Nat) (ha : a < 256 ∧ (a = 0 ∨ 64 ≤ a)) (hb : b < 256 ∧ (b = 0 ∨ 64 ≤ b)) (hc : c < 256 ∧ (c = 0 ∨ 64 ≤ c)) (hd : d < 256 ∧ (d = 0 ∨ 64 ≤ d)) (he : e < 256 ∧ (e = 0 ∨ 64 ≤ e)) (hf : f < 256 ∧ (f = 0 ∨ 64 ≤ f)) (hg : g < 256 ∧ (g = 0 ∨ 64 ≤ g)) :
    zCl (zPr L xs) 90 [.int (nI a), .int (nI b), .int (nI c), .int (nI d), .int (nI e), .int (nI f), .int (nI g)] (zMH h m) = some (.inl (some (.long (nL ((((((zltr a * 32 + zltr b) * 32 + zltr c) * 32 + zltr d) * 32 + zltr e) * 32 + zltr f) * 32 + zltr g)))), zMH h m) := by
  rw [en_90]
  exact p90_0_1 hx (s89 hx a ha.2 (by omega)) (s89 hx b hb.2 (by omega)) (s89 hx c hc.2 (by omega)) (s89 hx d hd.2 (by omega)) (s89 hx e he.2 (by omega)) (s89 hx f hf.2 (by omega)) (s89 hx g hg.2 (by omega))
end
