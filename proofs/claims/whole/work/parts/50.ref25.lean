def RC (E : Wd) (hb : Hp) (n : Nat) (fs : List Value) (C : Nat → va_E) (h : Hp) : Prop := (fs.length = 32 ∧ h.1 = hb.1 + n) ∧ h.2 hb.1 = some (.inr (8, fs)) ∧ (∀ j, 1 ≤ j → j < n → h.2 (hb.1 + j) = some (C j)) ∧ ∀ a, a < hb.1 → h.2 a = hb.2 a
def fs8 : List Value := [.null, .int 0, .int 0, .int 0, .null, .null, .null, .int 0, .null, .null, .null, .null, .null, .null, .null, .null, .null, .null, .null, .null, .int 0, .null, .null, .int 0, .int 0, .null, .null, .null, .null, .null, .int 0, .int 0]
def f8 : Nat → Int32 := fun k => if k = 23 then -1 else 0
def sg0 : Sg := (0, fun _ => 0, none, pl0, none)
section
variable {E : Wd} {hb h : Hp} {n : Nat} {fs : List Value} {C : Nat → va_E} {d : Nat}
theorem RC.i (R : RC E hb n fs C h) (k : Nat) (v : Value) (hk : k < 32) : okP h hb.1 8 k ∧ RC E hb n (fs.set k v) C (pF h hb.1 k v) := by
  obtain ⟨r1, r2, r3, r4⟩ := R
  refine ⟨⟨_, r2, by omega⟩, ⟨by rw [List.length_set]; exact r1.1, r1.2⟩, by simp [pF, r2], fun j hj hj2 => ?_, fun a ha => ?_⟩
  · have : hb.1 + j ≠ hb.1 := by omega
    simp only [pF, this, if_false]; exact r3 j hj hj2
  · have : a ≠ hb.1 := by omega
    simp only [pF, this, if_false]; exact r4 a ha
theorem RC.a (R : RC E hb (n + 1) fs C h) (t m k : Nat) (hC : C (n + 1) = .inl (eA E t, m, .inl (fun _ => 0))) (hk : k < 32) : okP (nA E h t m) hb.1 8 k ∧ RC E hb (n + 1 + 1) (fs.set k (.ref (hb.1 + (n + 1)))) C (pF (nA E h t m) hb.1 k (.ref h.1)) := by
  obtain ⟨⟨r0, r1⟩, r2, r3, r4⟩ := R
  rw [r1]
  refine RC.i (h := nA E h t m) ⟨⟨r0, by show h.1 + 1 = _; omega⟩, ?_, fun j hj hj2 => ?_, fun a ha => ?_⟩ k _ hk
  · have : hb.1 ≠ h.1 := by omega
    simp only [nA, this, if_false]; exact r2
  · by_cases c : j = n + 1
    · subst c
      simp only [nA, r1, if_true, hC]
    · have : hb.1 + j ≠ h.1 := by omega
      simp only [nA, this, if_false]; exact r3 j hj (by omega)
  · have : a ≠ h.1 := by omega
    simp only [nA, this, if_false]; exact r4 a ha
theorem RC.m (R : RC E hb (n + 1) fs C h) (m k : Nat) (hC : C (n + 1) = .inl (eA E 2, 6, .inr (.inr (.inr (.inr (fun i => if i < 6 then some (hb.1 + (n + 1) + 1 + i) else none))))))
    (hC2 : ∀ i, i < 6 → C (n + 2 + i) = .inl (eA E 0, m, .inl (fun _ => 0))) (hk : k < 32) : okP (nM E h 6 m) hb.1 8 k ∧ RC E hb (n + 7 + 1) (fs.set k (.ref (hb.1 + (n + 1)))) C (pF (nM E h 6 m) hb.1 k (.ref h.1)) := by
  obtain ⟨⟨r0, r1⟩, r2, r3, r4⟩ := R
  rw [r1]
  refine RC.i (h := nM E h 6 m) ⟨⟨r0, by show h.1 + 1 + 6 = _; omega⟩, ?_, fun j hj hj2 => ?_, fun a ha => ?_⟩ k _ hk
  · have q1 : hb.1 ≠ h.1 := by omega
    have q2 : ¬ (h.1 < hb.1 ∧ hb.1 < h.1 + 1 + 6) := by omega
    simp only [nM, q1, q2, if_false]; exact r2
  · by_cases c : j = n + 1
    · subst c
      simp only [nM, r1, if_true, hC]
    · have q1 : hb.1 + j ≠ h.1 := by omega
      by_cases c2 : j < n + 1
      · have q2 : ¬ (h.1 < hb.1 + j ∧ hb.1 + j < h.1 + 1 + 6) := by omega
        simp only [nM, q1, q2, if_false]; exact r3 j hj c2
      · have q2 : h.1 < hb.1 + j ∧ hb.1 + j < h.1 + 1 + 6 := by omega
        simp only [nM, q1, if_false]
        rw [if_pos q2]
        have := hC2 (j - (n + 2)) (by omega)
        rw [show n + 2 + (j - (n + 2)) = j by omega] at this
        rw [this]
  · have q1 : a ≠ h.1 := by omega
    have q2 : ¬ (h.1 < a ∧ a < h.1 + 1 + 6) := by omega
    simp only [nM, q1, q2, if_false]; exact r4 a ha
set_option maxRecDepth 20000 in
theorem k_init {Q : Hp → Prop} {mc ms : Nat} (hcm : 53 ≤ mc ∧ 27583 ≤ ms) (hq : ∀ h', Rf E hb h' hb.1 (fun _ _ => 0) f8 → h'.1 = hb.1 + 54 → Q h') : OkW E YX8_init (d + 1) mc ms [.ref hb.1] (nO hb 8 fs8) Q := by
  refine rnX8_init ?_
  obtain ⟨hc1, hc2⟩ := hcm
  have R0 : RC E hb (0 + 1) fs8 (rcell E hb.1 (fun _ _ => 0) f8) (nO hb 8 fs8) := ⟨⟨rfl, rfl⟩, by simp [nO], fun j h1 h2 => absurd h1 (by omega), fun a ha => by
    have : a ≠ hb.1 := by omega
    simp only [nO, this, if_false]⟩
  unfold vcX8_init_0
  obtain ⟨h, eh⟩ : ∃ h, nO hb 8 fs8 = h := ⟨_, rfl⟩
  rw [eh] at R0 ⊢
  refine ⟨⟨by omega, by omega⟩, fun h1 e1 => ?_⟩
  subst e1
  obtain ⟨o0, R1⟩ := R0.a 0 40 0 rfl (by omega)
  refine ⟨o0, fun h100 e0 => ?_⟩
  rw [← e0] at R1
  clear e0
  refine ⟨⟨by omega, by omega⟩, fun h1 e1 => ?_⟩
  subst e1
  obtain ⟨o1, R2⟩ := R1.a 0 10 4 rfl (by omega)
  refine ⟨o1, fun h101 e1 => ?_⟩
  rw [← e1] at R2
  clear e1
  refine ⟨⟨by omega, by omega⟩, fun h1 e1 => ?_⟩
  subst e1
  obtain ⟨o2, R3⟩ := R2.a 0 10 5 rfl (by omega)
  refine ⟨o2, fun h102 e2 => ?_⟩
  rw [← e2] at R3
  clear e2
  refine ⟨⟨by omega, by omega⟩, fun h1 e1 => ?_⟩
  subst e1
  obtain ⟨o3, R4⟩ := R3.a 0 10 6 rfl (by omega)
  refine ⟨o3, fun h103 e3 => ?_⟩
  rw [← e3] at R4
  clear e3
  refine ⟨⟨by omega, by omega⟩, fun h1 e1 => ?_⟩
  subst e1
  obtain ⟨o4, R5⟩ := R4.m 3 8 rfl (fun i hi => by
    have : i = 0 ∨ i = 1 ∨ i = 2 ∨ i = 3 ∨ i = 4 ∨ i = 5 := by omega
    rcases this with rfl | rfl | rfl | rfl | rfl | rfl <;> rfl) (by omega)
  refine ⟨o4, fun h104 e4 => ?_⟩
  rw [← e4] at R5
  clear e4
  refine ⟨⟨by omega, by omega⟩, fun h1 e1 => ?_⟩
  subst e1
  obtain ⟨o5, R6⟩ := R5.a 0 6 9 rfl (by omega)
  refine ⟨o5, fun h105 e5 => ?_⟩
  rw [← e5] at R6
  clear e5
  refine ⟨⟨by omega, by omega⟩, fun h1 e1 => ?_⟩
  subst e1
  obtain ⟨o6, R7⟩ := R6.m 36 10 rfl (fun i hi => by
    have : i = 0 ∨ i = 1 ∨ i = 2 ∨ i = 3 ∨ i = 4 ∨ i = 5 := by omega
    rcases this with rfl | rfl | rfl | rfl | rfl | rfl <;> rfl) (by omega)
  refine ⟨o6, fun h106 e6 => ?_⟩
  rw [← e6] at R7
  clear e6
  refine ⟨⟨by omega, by omega⟩, fun h1 e1 => ?_⟩
  subst e1
  obtain ⟨o7, R8⟩ := R7.m 36 11 rfl (fun i hi => by
    have : i = 0 ∨ i = 1 ∨ i = 2 ∨ i = 3 ∨ i = 4 ∨ i = 5 := by omega
    rcases this with rfl | rfl | rfl | rfl | rfl | rfl <;> rfl) (by omega)
  refine ⟨o7, fun h107 e7 => ?_⟩
  rw [← e7] at R8
  clear e7
  refine ⟨⟨by omega, by omega⟩, fun h1 e1 => ?_⟩
  subst e1
  obtain ⟨o8, R9⟩ := R8.m 36 12 rfl (fun i hi => by
    have : i = 0 ∨ i = 1 ∨ i = 2 ∨ i = 3 ∨ i = 4 ∨ i = 5 := by omega
    rcases this with rfl | rfl | rfl | rfl | rfl | rfl <;> rfl) (by omega)
  refine ⟨o8, fun h108 e8 => ?_⟩
  rw [← e8] at R9
  clear e8
  refine ⟨⟨by omega, by omega⟩, fun h1 e1 => ?_⟩
  subst e1
  obtain ⟨o9, R10⟩ := R9.m 36 13 rfl (fun i hi => by
    have : i = 0 ∨ i = 1 ∨ i = 2 ∨ i = 3 ∨ i = 4 ∨ i = 5 := by omega
    rcases this with rfl | rfl | rfl | rfl | rfl | rfl <;> rfl) (by omega)
  refine ⟨o9, fun h109 e9 => ?_⟩
  rw [← e9] at R10
  clear e9
  refine ⟨⟨by omega, by omega⟩, fun h1 e1 => ?_⟩
  subst e1
  obtain ⟨o10, R11⟩ := R10.a 1 4394 14 rfl (by omega)
  refine ⟨o10, fun h110 e10 => ?_⟩
  rw [← e10] at R11
  clear e10
  refine ⟨⟨by omega, by omega⟩, fun h1 e1 => ?_⟩
  subst e1
  obtain ⟨o11, R12⟩ := R11.a 1 4394 15 rfl (by omega)
  refine ⟨o11, fun h111 e11 => ?_⟩
  rw [← e11] at R12
  clear e11
  refine ⟨⟨by omega, by omega⟩, fun h1 e1 => ?_⟩
  subst e1
  obtain ⟨o12, R13⟩ := R12.a 1 4394 16 rfl (by omega)
  refine ⟨o12, fun h112 e12 => ?_⟩
  rw [← e12] at R13
  clear e12
  refine ⟨⟨by omega, by omega⟩, fun h1 e1 => ?_⟩
  subst e1
  obtain ⟨o13, R14⟩ := R13.a 0 4394 17 rfl (by omega)
  refine ⟨o13, fun h113 e13 => ?_⟩
  rw [← e13] at R14
  clear e13
  refine ⟨⟨by omega, by omega⟩, fun h1 e1 => ?_⟩
  subst e1
  obtain ⟨o14, R15⟩ := R14.a 0 4394 18 rfl (by omega)
  refine ⟨o14, fun h114 e14 => ?_⟩
  rw [← e14] at R15
  clear e14
  refine ⟨⟨by omega, by omega⟩, fun h1 e1 => ?_⟩
  subst e1
  obtain ⟨o15, R16⟩ := R15.a 0 4394 19 rfl (by omega)
  refine ⟨o15, fun h115 e15 => ?_⟩
  rw [← e15] at R16
  clear e15
  refine ⟨⟨by omega, by omega⟩, fun h1 e1 => ?_⟩
  subst e1
  obtain ⟨o16, R17⟩ := R16.a 0 3 21 rfl (by omega)
  refine ⟨o16, fun h116 e16 => ?_⟩
  rw [← e16] at R17
  clear e16
  refine ⟨⟨by omega, by omega⟩, fun h1 e1 => ?_⟩
  subst e1
  obtain ⟨o17, R18⟩ := R17.a 0 3 22 rfl (by omega)
  refine ⟨o17, fun h117 e17 => ?_⟩
  rw [← e17] at R18
  clear e17
  obtain ⟨o18, R19⟩ := R18.i 23 (.int (-1)) (by omega)
  refine ⟨o18, fun h118 e18 => ?_⟩
  rw [← e18] at R19
  clear e18
  refine ⟨⟨by omega, by omega⟩, fun h1 e1 => ?_⟩
  subst e1
  obtain ⟨o19, R20⟩ := R19.a 0 41 25 rfl (by omega)
  refine ⟨o19, fun h119 e19 => ?_⟩
  rw [← e19] at R20
  clear e19
  refine ⟨⟨by omega, by omega⟩, fun h1 e1 => ?_⟩
  subst e1
  obtain ⟨o20, R21⟩ := R20.a 0 41 26 rfl (by omega)
  refine ⟨o20, fun h120 e20 => ?_⟩
  rw [← e20] at R21
  clear e20
  refine ⟨⟨by omega, by omega⟩, fun h1 e1 => ?_⟩
  subst e1
  obtain ⟨o21, R22⟩ := R21.a 1 41 27 rfl (by omega)
  refine ⟨o21, fun h121 e21 => ?_⟩
  rw [← e21] at R22
  clear e21
  refine ⟨⟨by omega, by omega⟩, fun h1 e1 => ?_⟩
  subst e1
  obtain ⟨o22, R23⟩ := R22.a 1 41 28 rfl (by omega)
  refine ⟨o22, fun h122 e22 => ?_⟩
  rw [← e22] at R23
  clear e22
  refine ⟨⟨by omega, by omega⟩, fun h1 e1 => ?_⟩
  subst e1
  obtain ⟨o23, R24⟩ := R23.a 0 61 29 rfl (by omega)
  refine ⟨o23, fun h123 e23 => ?_⟩
  rw [← e23] at R24
  clear e23
  obtain ⟨⟨r0, r1⟩, r2, r3, r4⟩ := R24
  refine hq h123 ⟨fun j hj => ?_, by omega, fun a ha _ => r4 a ha⟩ r1
  by_cases c : j = 0
  · subst c
    rw [Nat.add_zero, r2, rcell, if_pos rfl]
    simp [fs8, rfs, f8]
  · exact r3 j (by omega) hj
theorem RS.zero : RS (fun _ _ => 0) f8 sg0 := ⟨⟨rfl, Nat.zero_le _, fun i hi => absurd hi (Nat.not_lt_zero _)⟩, rfl, ⟨Nat.zero_le _, rfl, ⟨fun _ => rfl, fun _ _ => Or.inl rfl⟩, fun k hk => absurd hk (Nat.not_lt_zero _)⟩, rfl⟩
end
