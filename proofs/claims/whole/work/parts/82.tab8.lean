def TI (E : Wd) (hb : Hp) (fs : List Value) (m : Nat) (h : Hp) : Prop := h.1 = hb.1 + m + 1 ∧ h.2 hb.1 = some (.inr (6, fs)) ∧ (∀ j, 1 ≤ j → j ≤ m → h.2 (hb.1 + j) = some (.inl (eA E 0, tln j, .inl (fun _ => 0)))) ∧ ∀ a, a < hb.1 → h.2 a = hb.2 a
section
variable {E : Wd} {h hb : Hp} {t r : Nat} {g : Gm} {A : Nat → Nat → Int32} {a b c : Int32} {d : Nat}
theorem TI.step {fs : List Value} {m N k : Nat} (T : TI E hb fs m h) (hN : tln (m + 1) = N) (hk : k < fs.length) : okP (nA E h 0 N) hb.1 6 k ∧ TI E hb (fs.set k (.ref (hb.1 + m + 1))) (m + 1) (pF (nA E h 0 N) hb.1 k (.ref h.1)) := by
  obtain ⟨t1, t2, t3, t4⟩ := T
  have o1 : (nA E h 0 N).2 hb.1 = some (.inr (6, fs)) := by
    have : hb.1 ≠ h.1 := by omega
    simp only [nA, this, if_false]; exact t2
  have o2 : ∀ q, q ≠ hb.1 → q ≠ h.1 → (pF (nA E h 0 N) hb.1 k (.ref h.1)).2 q = h.2 q := fun q q1 q2 => by simp [pF, nA, q1, q2]
  refine ⟨⟨_, o1, hk⟩, by simp [pF, nA, t1]; omega, by simp [pF, o1, t1], fun j h1 h2 => ?_, fun q hq => by rw [o2 q (by omega) (by omega)]; exact t4 q hq⟩
  by_cases z : j = m + 1
  · have e1 : hb.1 + j ≠ hb.1 := by omega
    have e2 : hb.1 + j = h.1 := by omega
    simp only [pF, e1, if_false, nA]
    rw [if_pos e2, z, hN]
  · rw [o2 _ (by omega) (by omega)]; exact t3 j h1 (by omega)
theorem c_tableInit {Q : Hp → Prop} {mc ms : Nat} (hcm : 8 ≤ mc ∧ 33626 ≤ ms) (hq : ∀ h', TR E h' hb.1 → h'.1 = hb.1 + 9 → (∀ a, a < hb.1 → h'.2 a = hb.2 a) → Q h') : OkW E YX6_init (d + 1) mc ms [.ref hb.1] (nO hb 6 [.null, .null, .null, .null, .null, .null, .null, .null, .null, .null, .null, .int 0, .int 0, .int 0]) Q := by
  refine rnX6_init ?_
  have T0 : TI E hb [.null, .null, .null, .null, .null, .null, .null, .null, .null, .null, .null, .int 0, .int 0, .int 0] 0 (nO hb 6 [.null, .null, .null, .null, .null, .null, .null, .null, .null, .null, .null, .int 0, .int 0, .int 0]) := by
    refine ⟨rfl, by simp [nO], fun j h1 h2 => by omega, fun q hq => ?_⟩
    have : q ≠ hb.1 := by omega
    simp [nO, this]
  rw [vcX6_init_0]
  refine ⟨⟨by omega, by omega⟩, fun a0 e0 => ?_⟩
  subst e0
  obtain ⟨o0, T1⟩ := T0.step (N := 4394) (k := 0) rfl (by simp)
  refine ⟨o0, fun b0 f0 => ?_⟩
  rw [← f0] at T1
  clear f0 o0
  refine ⟨⟨by omega, by omega⟩, fun a1 e1 => ?_⟩
  subst e1
  obtain ⟨o1, T2⟩ := T1.step (N := 4394) (k := 1) rfl (by simp)
  refine ⟨o1, fun b1 f1 => ?_⟩
  rw [← f1] at T2
  clear f1 o1
  refine ⟨⟨by omega, by omega⟩, fun a2 e2 => ?_⟩
  subst e2
  obtain ⟨o2, T3⟩ := T2.step (N := 4394) (k := 2) rfl (by simp)
  refine ⟨o2, fun b2 f2 => ?_⟩
  rw [← f2] at T3
  clear f2 o2
  refine ⟨⟨by omega, by omega⟩, fun a3 e3 => ?_⟩
  subst e3
  obtain ⟨o3, T4⟩ := T3.step (N := 4394) (k := 3) rfl (by simp)
  refine ⟨o3, fun b3 f3 => ?_⟩
  rw [← f3] at T4
  clear f3 o3
  refine ⟨⟨by omega, by omega⟩, fun a4 e4 => ?_⟩
  subst e4
  obtain ⟨o4, T5⟩ := T4.step (N := 4394) (k := 4) rfl (by simp)
  refine ⟨o4, fun b4 f4 => ?_⟩
  rw [← f4] at T5
  clear f4 o4
  refine ⟨⟨by omega, by omega⟩, fun a5 e5 => ?_⟩
  subst e5
  obtain ⟨o5, T6⟩ := T5.step (N := 4395) (k := 5) rfl (by simp)
  refine ⟨o5, fun b5 f5 => ?_⟩
  rw [← f5] at T6
  clear f5 o5
  refine ⟨⟨by omega, by omega⟩, fun a6 e6 => ?_⟩
  subst e6
  obtain ⟨o6, T7⟩ := T6.step (N := 7200) (k := 6) rfl (by simp)
  refine ⟨o6, fun b6 f6 => ?_⟩
  rw [← f6] at T7
  clear f6 o6
  refine ⟨⟨by omega, by omega⟩, fun a7 e7 => ?_⟩
  subst e7
  obtain ⟨o7, T8⟩ := T7.step (N := 61) (k := 7) rfl (by simp)
  refine ⟨o7, fun b7 f7 => ?_⟩
  rw [← f7] at T8
  clear f7 o7
  obtain ⟨t1, t2, t3, t4⟩ := T8
  exact hq _ ⟨⟨_, _, _, _, _, _, t2⟩, fun _ _ => 0, fun j h1 h2 => t3 j h1 (by omega)⟩ t1 t4
theorem c_tIsPossible {Q : Int32 → Hp → Prop} {x : Int32} (T : Tb E h t r g A a (nI (nx g)) c) (G : Tg A g) (w : qF g) (hq : Q (bI (ixB g x && Ps g x.toNatClampNeg)) h) : OkI E YX6_isPossible (d + 1) [.ref t, .int x] h Q := by
  have hnx := nx_le w
  refine rnX6_isPossible ⟨⟨_, T.1⟩, c_isIndex T w (bI_c (fun q => ⟨Or.inl rfl, ?_⟩) (fun q => ?_))⟩
  · rw [q] at hq; exact hq
  · obtain ⟨i, hi, e⟩ := ixB_in w q
    subst e
    rw [q, n_cl, Bool.true_and] at hq
    simp only [T.fs, true_and, (T.tt (show i < 4394 by omega)).1]
    rw [(G.1 i hi).1]
    cases hP : Ps g i with
    | false =>
      rw [hP] at hq
      rw [if_neg (by decide)]
      exact ⟨fun _ => ⟨Or.inl rfl, hq⟩, fun q => absurd (by decide) q⟩
    | true =>
      rw [hP] at hq
      rw [if_pos rfl]
      have := can_lt w hi
      exact ⟨fun q => absurd q (nI_pos (by omega)), fun _ => ⟨Or.inr rfl, hq⟩⟩
theorem c_tIsPossibleN {Q : Int32 → Hp → Prop} {x : Nat} (T : Tb E h t r g A a (nI (nx g)) c) (G : Tg A g) (w : qF g) (hx : x < 2 ^ 31) (hq : Q (bI (Ps g x)) h) : OkI E YX6_isPossible (d + 1) [.ref t, .int (nI x)] h Q := by
  refine c_tIsPossible T G w ?_
  rw [ixB_n w hx, n_cl]
  have : (decide (x < nx g) && Ps g x) = Ps g x := by
    cases hP : Ps g x with
    | false => simp
    | true => rw [decide_eq_true (Ps_lt hP)]; rfl
  rw [this]; exact hq
theorem c_distanceOf {Q : Int32 → Hp → Prop} {x : Nat} {k : Int32} (T : Tb E h t r g A a (nI (nx g)) c) (V : Tv A g (nx g)) (w : qF g) (hx : x < nx g) (hq : Q (dst g k x) h) : OkI E YX6_distanceOf (d + 2) [.ref t, .int k, .int (nI x)] h Q := by
  obtain ⟨-, v2, v3⟩ := V x hx
  unfold dst at hq
  refine rnX6_distanceOf ⟨fun q => ⟨⟨_, T.1⟩, c_toConversionOf T w hx ?_⟩, fun q => ⟨⟨_, T.1⟩, c_toEndOf T w hx ?_⟩⟩
  · rw [if_neg q] at hq; rw [v3]; exact hq
  · rw [if_pos q] at hq; rw [v2]; exact hq
theorem c_verdictOf {Q : Int32 → Hp → Prop} {x : Nat} (T : Tb E h t r g A a (nI (nx g)) c) (V : Tv A g (nx g)) (w : qF g) (hx : x < nx g) (hq : Q (vdt g x) h) : OkI E YX6_verdictOf (d + 2) [.ref t, .int (nI x)] h Q := by
  obtain ⟨v1, -, v3⟩ := V x hx
  refine rnX6_verdictOf ?_
  unfold vdt at hq
  simp only [vcX6_verdictOf_0, T.fs, true_and, T.2.2.1.1.fs]
  refine ⟨fun q => c_valueOf T w hx ?_, fun q => c_toConversionOf T w hx ?_⟩
  · rw [if_neg (fun z => z.1 q)] at hq; rw [v1]; exact hq
  simp only [T.fs, true_and, T.2.2.1.1.fs]
  refine ⟨fun q2 => c_valueOf T w hx ?_, fun q2 => ?_⟩
  · rw [v3] at q2; rw [if_neg (fun z => z.2 q2)] at hq; rw [v1]; exact hq
  · rw [v3] at q2; rw [if_pos ⟨q, q2⟩] at hq; exact hq
theorem mvs_le (w : qF g) (x : Nat) : (mvs g x).length ≤ 36 := by
  have hl := mvA_len g w (plc g x) (x % 2) (qn g)
  have hl : (mvs g x).length ≤ 12 * qn g := hl
  have hn : qn g ≤ 3 := w.2.2.2.2.2.2.1
  omega
theorem c_stepOfI {Q : Int32 → Hp → Prop} {x : Nat} {k : Int32} (T : Tb E h t r g A a (nI (nx g)) c) (G : Tg A g) (w : qF g) (bd : bnd g) (hP : Ps g x = true) (hq : Q (match mvO g x k with | none => -1 | some v => nI v.2.2.2) h) : OkI E YX6_stepOf (d + 2) [.ref t, .int (nI x), .int k] h Q := by
  have hl := mvs_le w x
  rcases pk_ix k (show (mvs g x).length < 2 ^ 31 by omega) with q | q | ⟨j, q1, q2⟩
  · refine rnX6_stepOf ⟨fun _ => ?_, fun z => absurd q z⟩
    unfold mvO at hq; rw [if_pos q] at hq; exact hq
  · have hk : ¬ k < 0 := fun z => absurd (Int32.lt_of_le_of_lt q z) (nI_pos (by omega))
    refine rnX6_stepOf ⟨fun z => absurd z hk, fun _ => ⟨⟨_, T.1⟩, c_stepsOf T G w hP ⟨fun z => absurd z (Int32.not_lt.mpr q), fun _ => ?_⟩⟩⟩
    obtain ⟨i, hi, e⟩ := nI_of hk
    subst e
    have := (nI_leI (by omega) hi).mp q
    unfold mvO at hq
    rw [if_neg hk, n_cl, List.getElem?_eq_none (by omega)] at hq
    exact hq
  · subst q2
    refine c_stepOf T G w bd hP q1 ?_
    unfold mvO at hq
    rw [if_neg (nI_pos (by omega)), n_cl, List.getElem?_eq_getElem q1] at hq
    rw [yO_get (List.getElem?_eq_getElem q1)]
    exact hq
end
