def RU (E : Wd) (hb : Hp) (fs : List Value) (F1 F2 : Nat → Int32) (h : Hp) : Prop := h.1 = hb.1 + 3 ∧ (∀ a, a < hb.1 → h.2 a = hb.2 a) ∧ h.2 hb.1 = some (.inr (4, fs)) ∧ h.2 (hb.1 + 1) = some (.inl (eA E 0, 3, .inl F1)) ∧ h.2 (hb.1 + 2) = some (.inl (eA E 0, 3, .inl F2))
section
variable {E : Wd} {h hb : Hp} {t tp L : Nat} {B : Nat → Nat} {r : Rr} {d : Nat} {fs : List Value} {F1 F2 : Nat → Int32}
theorem RU.put (U : RU E hb fs F1 F2 h) {k : Nat} {v : Value} : RU E hb (fs.set k v) F1 F2 (pF h hb.1 k v) := by
  obtain ⟨u1, u2, u3, u4, u5⟩ := U
  have n1 : hb.1 + 1 ≠ hb.1 := by omega
  have n2 : hb.1 + 2 ≠ hb.1 := by omega
  refine ⟨u1, fun a ha => ?_, by simp [pF, u3], by simp only [pF, n1, if_false]; exact u4, by simp only [pF, n2, if_false]; exact u5⟩
  have : a ≠ hb.1 := by omega
  simp only [pF, this, if_false]; exact u2 a ha
theorem RU.gi (U : RU E hb fs F1 F2 h) {k : Nat} {x : Int32} (e : fs[k]? = some (.int x)) : okI h hb.1 4 k ∧ vI (hF h hb.1 k) = x ∧ okP h hb.1 4 k := by
  have hk : k < fs.length := (List.getElem?_eq_some_iff.mp e).1
  exact ⟨⟨_, _, U.2.2.1, e⟩, by rw [hF_of U.2.2.1 e]; rfl, ⟨_, U.2.2.1, hk⟩⟩
theorem RU.ga (U : RU E hb fs F1 F2 h) {k a : Nat} (e : fs[k]? = some (.ref a)) : okA h hb.1 4 k ∧ vA (hF h hb.1 k) = a := by
  exact ⟨⟨_, _, U.2.2.1, e⟩, by rw [hF_of U.2.2.1 e]; rfl⟩
theorem Kt.of {h' : Hp} (K : Kt E h t tp L B r) (e : ∀ a, a = t ∨ a = t + 1 ∨ a = tp → h'.2 a = h.2 a) : Kt E h' t tp L B r := by
  obtain ⟨k1, k2, ⟨k4, T, k5, k6⟩, k7⟩ := K
  refine ⟨by rw [e t (Or.inl rfl)]; exact k1, by rw [e (t + 1) (Or.inr (Or.inl rfl))]; exact k2, ⟨k4, T, by rw [e tp (Or.inr (Or.inr rfl))]; exact k5, k6⟩, k7⟩
theorem Kt.kd (K : Kt E h t tp L B r) {m : Nat} (hm : m < qn r.2.2) : okR E h (t + 1) 0 (nI m) ∧ gA h (t + 1) (nI m) = nI (qk r.2.2 m) := by
  have hn := K.2.2.2.1.2.1
  obtain ⟨-, ⟨F, k2, k3⟩, -⟩ := K
  exact ⟨⟨_, _, k2, vpn (by omega)⟩, by rw [gA_of k2, n_cl]; exact k3 m hm⟩
theorem c_readerInit {Q : Hp → Prop} {mc ms : Nat} (T : TPk E hb tp L B) (htp : tp < hb.1) (hcm : 1 ≤ mc ∧ 3 ≤ ms) (hq : ∀ h', Kt E h' hb.1 tp L B (true, 0, g00) → h'.1 = hb.1 + 2 → (∀ a, a < hb.1 → h'.2 a = hb.2 a) → Q h') : OkW E YX3_init (d + 1) mc ms [.ref hb.1, .ref tp, .int (nI L)] (nO hb 3 [.null, .int 0, .int 0, .int 0, .int 0, .int 0, .int 0, .int 0, .int 0, .int 0, .null]) Q := by
  refine rnX3_init ?_
  have n1 : hb.1 + 1 ≠ hb.1 := by omega
  have ntp : tp ≠ hb.1 ∧ tp ≠ hb.1 + 1 := by omega
  rw [vcX3_init_0]
  have q0 : (nO hb 3 [.null, .int 0, .int 0, .int 0, .int 0, .int 0, .int 0, .int 0, .int 0, .int 0, .null]).2 hb.1 = some (.inr (3, [.null, .int 0, .int 0, .int 0, .int 0, .int 0, .int 0, .int 0, .int 0, .int 0, .null])) := by simp [nO]
  refine ⟨⟨_, q0, by decide⟩, fun h1 e1 => ⟨hcm, fun h2 e2 => ?_⟩⟩
  have a1 : h1.1 = hb.1 + 1 ∧ h1.2 hb.1 = some (.inr (3, [.null, .int 0, .int 0, .int 0, .int 0, .int 0, .int 0, .int 0, .int 0, .int (-5), .null])) ∧ ∀ a, a < hb.1 → h1.2 a = hb.2 a := by
    rw [e1]
    refine ⟨rfl, by simp [pF, nO], fun a ha => ?_⟩
    have : a ≠ hb.1 := by omega
    simp [pF, nO, this]
  clear e1
  obtain ⟨a1, a2, a3⟩ := a1
  have b1 : h2.1 = hb.1 + 2 ∧ h2.2 hb.1 = some (.inr (3, [.null, .int 0, .int 0, .int 0, .int 0, .int 0, .int 0, .int 0, .int 0, .int (-5), .null])) ∧ h2.2 (hb.1 + 1) = some (.inl (eA E 0, 3, .inl (fun _ => 0))) ∧ ∀ a, a < hb.1 → h2.2 a = hb.2 a := by
    rw [e2]
    refine ⟨by simp [nA, a1], by simp [nA, a1, a2], by simp [nA, a1], fun a ha => ?_⟩
    have : a ≠ hb.1 + 1 := by omega
    simp [nA, a1, this, a3 a ha]
  clear e2
  obtain ⟨b1, b2, b3, b4⟩ := b1
  refine ⟨⟨_, b2, by decide⟩, fun h4 e4 => ?_⟩
  rw [a1] at e4
  have c1 : h4.1 = hb.1 + 2 ∧ h4.2 hb.1 = some (.inr (3, [.null, .int 0, .int 0, .int 0, .int 0, .int 0, .int 0, .int 0, .int 0, .int (-5), .ref (hb.1 + 1)])) ∧ h4.2 (hb.1 + 1) = some (.inl (eA E 0, 3, .inl (fun _ => 0))) ∧ ∀ a, a < hb.1 → h4.2 a = hb.2 a := by
    rw [e4]
    refine ⟨b1, by simp [pF, b2], by simp [pF, b3], fun a ha => ?_⟩
    have : a ≠ hb.1 := by omega
    simp [pF, this, b4 a ha]
  clear e4
  obtain ⟨c1, c2, c3, c4⟩ := c1
  refine ⟨⟨_, c2, Nat.le_of_ble_eq_true rfl⟩, fun h5 e5 => ?_⟩
  have d1 : h5.1 = hb.1 + 2 ∧ h5.2 hb.1 = some (.inr (3, [.ref tp, .int 0, .int 0, .int 0, .int 0, .int 0, .int 0, .int 0, .int 0, .int (-5), .ref (hb.1 + 1)])) ∧ h5.2 (hb.1 + 1) = some (.inl (eA E 0, 3, .inl (fun _ => 0))) ∧ ∀ a, a < hb.1 → h5.2 a = hb.2 a := by
    rw [e5]
    refine ⟨c1, by simp [pF, c2], by simp [pF, c3], fun a ha => ?_⟩
    have : a ≠ hb.1 := by omega
    simp [pF, this, c4 a ha]
  clear e5
  obtain ⟨d1, d2, d3, d4⟩ := d1
  obtain ⟨T1, T, T2, T3⟩ := T
  have t5 : h5.2 tp = some (.inl (eA E 0, 40, .inl T)) := by rw [d4 _ htp]; exact T2
  have l5 : lA h5 tp = nI 40 := by simp [lA, t5, nI]
  rw [l5, nI_min (by omega) (by omega), Nat.min_eq_right T1]
  refine ⟨⟨_, t5⟩, ⟨_, d2, Nat.le_of_ble_eq_true rfl⟩, fun h6 e6 => ?_⟩
  subst e6
  refine hq _ ⟨by simp [pF, d2]; rfl, ⟨fun _ => 0, by simp only [pF, n1, if_false]; exact d3, fun m hm => absurd hm (Nat.not_lt_zero _)⟩, ⟨T1, T, by simp only [pF, ntp, if_false]; exact t5, T3⟩, ⟨Nat.zero_le _, Nat.zero_le _, ntp.1, ntp.2, by decide, by decide⟩, rfl⟩ d1 (fun a ha => ?_)
  have : a ≠ hb.1 := by omega
  simp only [pF, this, if_false]; exact d4 a ha
theorem c_rulesInit {Q : Hp → Prop} {mc ms : Nat} {g : Gm} (K : Kt E hb t tp L B r) (hg : r.2.2 = g) (w : qF g) (ht : t + 2 ≤ hb.1 ∧ tp < hb.1) (hcm : 2 ≤ mc ∧ 6 ≤ ms) (hq : ∀ h', Kr E h' hb.1 g → h'.1 = hb.1 + 3 → (∀ a, a < hb.1 → h'.2 a = hb.2 a) → Q h') : OkW E YX4_init (d + 1) mc ms [.ref hb.1, .ref t] (nO hb 4 [.int 0, .int 0, .int 0, .int 0, .int 0, .int 0, .int 0, .int 0, .int 0, .int 0, .int 0, .null, .null]) Q := by
  refine rnX4_init (fun K120 k120 => ?_)
  have hsq := w.sq_lt
  have hn : qn g ≤ 3 := w.2.2.2.2.2.2.1
  have hnx := nx_le w
  have hbs : bs g ≤ 13 ∧ 1 ≤ bs g := by unfold bs; omega
  subst hg
  obtain ⟨g, hgg⟩ : ∃ g, g = r.2.2 := ⟨_, rfl⟩
  rw [← hgg] at w hsq hn hnx hbs hq
  have KK : ∀ {fs F1 F2 h}, RU E hb fs F1 F2 h → Kt E h t tp L B r := fun U => K.of (fun a ha => U.2.1 a (by omega))
  -- the loop
  have step : ∀ m, m < 3 → (∀ h', (∃ F1 F2, RU E hb [.int (nI (qw g)), .int (nI (qh g)), .int (nI (sq g)), .int (nI (qo g)), .int (nI (grd g)), .int (nI (qn g)), .int (nI (qb g)), .int (qs g), .int (ql g), .int (nI (bs g)), .int 0, .ref (hb.1 + 1), .ref (hb.1 + 2)] F1 F2 h' ∧ ∀ i, i < 3 → m ≤ i → F1 i = (if i < qn g then nI (qk g i) else -1) ∧ F2 i = nI (wt g i)) → K120 hb.1 t (nI (wt g m * bs g)) (nI m + (-1)) h') → ∀ h', (∃ F1 F2, RU E hb [.int (nI (qw g)), .int (nI (qh g)), .int (nI (sq g)), .int (nI (qo g)), .int (nI (grd g)), .int (nI (qn g)), .int (nI (qb g)), .int (qs g), .int (ql g), .int (nI (bs g)), .int 0, .ref (hb.1 + 1), .ref (hb.1 + 2)] F1 F2 h' ∧ ∀ i, i < 3 → m + 1 ≤ i → F1 i = (if i < qn g then nI (qk g i) else -1) ∧ F2 i = nI (wt g i)) → K120 hb.1 t (nI (wt g m)) (nI m) h' := fun m hm ih h' hU => by
    obtain ⟨F1, F2, U, hF⟩ := hU
    refine k120 _ _ _ _ _ ?_
    have K' := KK U
    have L147 : ∀ z, z = (if m < qn g then nI (qk g m) else -1) → vcX4_init_147 E d mc ms K120 hb.1 t (nI (wt g m)) (nI m) (hb.1 + 1) (nI m) z h' Q := fun z hz => by
      refine ⟨hcm, ⟨_, _, U.2.2.2.1, vpn hm⟩, fun h1 e1 => ?_⟩
      have n1 : hb.1 + 1 ≠ hb.1 := by omega
      have n2 : hb.1 + 2 ≠ hb.1 + 1 := by omega
      have n3 : hb.1 ≠ hb.1 + 1 := by omega
      have n4 : hb.1 ≠ hb.1 + 2 := by omega
      have n5 : hb.1 + 1 ≠ hb.1 + 2 := by omega
      obtain ⟨u1, u2, u3, u4, u5⟩ := U
      have U1 : RU E hb [.int (nI (qw g)), .int (nI (qh g)), .int (nI (sq g)), .int (nI (qo g)), .int (nI (grd g)), .int (nI (qn g)), .int (nI (qb g)), .int (qs g), .int (ql g), .int (nI (bs g)), .int 0, .ref (hb.1 + 1), .ref (hb.1 + 2)] (upd F1 m z) F2 h1 := by
        rw [e1]
        refine ⟨u1, fun a ha => ?_, by simp only [sA, n3, if_false]; exact u3, ?_, by simp only [sA, n2, if_false]; exact u5⟩
        · have : a ≠ hb.1 + 1 := by omega
          simp only [sA, this, if_false]; exact u2 a ha
        · have := sA_of (i := nI m) (x := z) u4
          rw [n_cl] at this; exact this
      clear e1
      obtain ⟨g1, g2⟩ := U1.ga (k := 12) rfl
      refine ⟨g1, ?_⟩
      rw [show fA h1 hb.1 12 = hb.1 + 2 from g2]
      refine ⟨⟨_, _, U1.2.2.2.2, vpn hm⟩, fun h2 e2 => ?_⟩
      obtain ⟨u1, u2, u3, u4, u5⟩ := U1
      have U2 : RU E hb [.int (nI (qw g)), .int (nI (qh g)), .int (nI (sq g)), .int (nI (qo g)), .int (nI (grd g)), .int (nI (qn g)), .int (nI (qb g)), .int (qs g), .int (ql g), .int (nI (bs g)), .int 0, .ref (hb.1 + 1), .ref (hb.1 + 2)] (upd F1 m z) (upd F2 m (nI (wt g m))) h2 := by
        rw [e2]
        refine ⟨u1, fun a ha => ?_, by simp only [sA, n4, if_false]; exact u3, by simp only [sA, n5, if_false]; exact u4, ?_⟩
        · have : a ≠ hb.1 + 2 := by omega
          simp only [sA, this, if_false]; exact u2 a ha
        · have := sA_of (i := nI m) (x := nI (wt g m)) u5
          rw [n_cl] at this; exact this
      clear e2
      obtain ⟨g3, g4, -⟩ := U2.gi (k := 9) (x := nI (bs g)) rfl
      refine ⟨g3, ?_⟩
      rw [show fI h2 hb.1 9 = nI (bs g) from g4, pk_mul]
      refine ih h2 ⟨_, _, U2, fun i hi hmi => ?_⟩
      by_cases c : i = m
      · subst c; simp [upd, hz]
      · simp only [upd, c, if_false]; exact hF i hi (by omega)
    rw [vcX4_init_120]
    obtain ⟨g1, g2⟩ := U.ga (k := 11) rfl
    obtain ⟨g3, g4, -⟩ := U.gi (k := 5) (x := nI (qn g)) rfl
    refine ⟨hcm, fun q => absurd q (nI_pos (by omega)), fun _ => ⟨g1, g3, ?_⟩⟩
    rw [show fI h' hb.1 5 = nI (qn g) from g4, show fA h' hb.1 11 = hb.1 + 1 from g2, nI_leI (by omega) (by omega)]
    refine ⟨fun q => L147 _ (by rw [if_neg (by omega)]), fun q => ?_⟩
    have kd := K'.kd (m := m) (by rw [← hgg]; omega)
    simp only [K'.fs, true_and, kd]
    rw [← hgg]
    exact L147 _ (by rw [if_pos (by omega)])
  have last : ∀ h', (∃ F1 F2, RU E hb [.int (nI (qw g)), .int (nI (qh g)), .int (nI (sq g)), .int (nI (qo g)), .int (nI (grd g)), .int (nI (qn g)), .int (nI (qb g)), .int (qs g), .int (ql g), .int (nI (bs g)), .int 0, .ref (hb.1 + 1), .ref (hb.1 + 2)] F1 F2 h' ∧ ∀ i, i < 3 → 0 ≤ i → F1 i = (if i < qn g then nI (qk g i) else -1) ∧ F2 i = nI (wt g i)) → K120 hb.1 t (nI (wt g 0 * bs g)) (nI 0 + (-1)) h' := fun h' hU => by
    obtain ⟨F1, F2, U, hF⟩ := hU
    refine k120 _ _ _ _ _ ?_
    rw [vcX4_init_120]
    refine ⟨hcm, fun _ => ⟨(U.gi (k := 10) (x := 0) rfl).2.2, fun h1 e1 => ?_⟩, fun q => absurd (by decide) q⟩
    have e0 : wt g 0 * bs g = nx g := by
      show 2 * bs g * bs g * bs g = bs g * bs g * bs g * 2
      rw [Nat.mul_assoc 2, Nat.mul_assoc 2, Nat.mul_comm]
    rw [e0, show (4394 : Int32) = nI 4394 from rfl, nI_min (a := 4394) (b := nx g) (by omega) (by omega), Nat.min_eq_right hnx] at e1
    have U1 : RU E hb (krf hb.1 g) F1 F2 h1 := by rw [e1]; exact U.put
    exact hq h1 ⟨U1.2.2.1, ⟨F1, U1.2.2.2.1, fun m hm => (hF m hm (Nat.zero_le _)).1⟩, ⟨F2, U1.2.2.2.2, fun m hm => (hF m hm (Nat.zero_le _)).2⟩⟩ U1.1 U1.2.1
  have e2 : wt g 1 * bs g = wt g 0 := rfl
  have e1 : wt g 2 * bs g = wt g 1 := rfl
  have main := step 2 (by omega) (fun h' hU => by rw [e1]; exact step 1 (by omega) (fun h' hU => by rw [e2]; exact step 0 (by omega) last h' hU) h' hU)
  rw [vcX4_init_0]
  refine ⟨⟨by omega, by omega⟩, fun h1 e1 => ?_⟩
  have a1 : h1.1 = hb.1 + 2 ∧ h1.2 hb.1 = some (.inr (4, [.int 0, .int 0, .int 0, .int 0, .int 0, .int 0, .int 0, .int 0, .int 0, .int 0, .int 0, .null, .null])) ∧ h1.2 (hb.1 + 1) = some (.inl (eA E 0, 3, .inl (fun _ => 0))) ∧ ∀ a, a < hb.1 → h1.2 a = hb.2 a := by
    rw [e1]
    refine ⟨rfl, by simp [nA, nO], by simp [nA, nO], fun a ha => ?_⟩
    have q1 : a ≠ hb.1 + 1 := by omega
    have q2 : a ≠ hb.1 := by omega
    simp [nA, nO, q1, q2]
  clear e1
  obtain ⟨a1, a2, a3, a4⟩ := a1
  refine ⟨⟨_, a2, by decide⟩, fun h3 e3 => ?_⟩
  rw [show (nO hb 4 [.int 0, .int 0, .int 0, .int 0, .int 0, .int 0, .int 0, .int 0, .int 0, .int 0, .int 0, .null, .null]).1 = hb.1 + 1 from rfl] at e3
  have b1 : h3.1 = hb.1 + 2 ∧ h3.2 hb.1 = some (.inr (4, [.int 0, .int 0, .int 0, .int 0, .int 0, .int 0, .int 0, .int 0, .int 0, .int 0, .int 0, .ref (hb.1 + 1), .null])) ∧ h3.2 (hb.1 + 1) = some (.inl (eA E 0, 3, .inl (fun _ => 0))) ∧ ∀ a, a < hb.1 → h3.2 a = hb.2 a := by
    rw [e3]
    refine ⟨a1, by simp [pF, a2], by simp [pF, a3], fun a ha => ?_⟩
    have q2 : a ≠ hb.1 := by omega
    simp [pF, q2, a4 a ha]
  clear e3
  obtain ⟨b1, b2, b3, b4⟩ := b1
  refine ⟨hcm, fun h4 e4 => ?_⟩
  have c1 : h4.1 = hb.1 + 3 ∧ h4.2 hb.1 = some (.inr (4, [.int 0, .int 0, .int 0, .int 0, .int 0, .int 0, .int 0, .int 0, .int 0, .int 0, .int 0, .ref (hb.1 + 1), .null])) ∧ h4.2 (hb.1 + 1) = some (.inl (eA E 0, 3, .inl (fun _ => 0))) ∧ h4.2 (hb.1 + 2) = some (.inl (eA E 0, 3, .inl (fun _ => 0))) ∧ ∀ a, a < hb.1 → h4.2 a = hb.2 a := by
    rw [e4]
    refine ⟨by simp [nA, b1], by simp [nA, b1, b2], by simp [nA, b1, b3], by simp [nA, b1], fun a ha => ?_⟩
    have q2 : a ≠ hb.1 + 2 := by omega
    simp [nA, b1, q2, b4 a ha]
  clear e4
  obtain ⟨c1, c2, c3, c4, c5⟩ := c1
  refine ⟨⟨_, c2, Nat.le_of_ble_eq_true rfl⟩, fun h6 e6 => ?_⟩
  rw [b1] at e6
  have U6 : RU E hb [.int 0, .int 0, .int 0, .int 0, .int 0, .int 0, .int 0, .int 0, .int 0, .int 0, .int 0, .ref (hb.1 + 1), .ref (hb.1 + 2)] (fun _ => 0) (fun _ => 0) h6 := by
    rw [e6]
    refine ⟨c1, fun a ha => ?_, by simp [pF, c2], by simp [pF, c3], by simp [pF, c4]⟩
    have q2 : a ≠ hb.1 := by omega
    simp [pF, q2, c5 a ha]
  clear e6
  have K6 := KK U6
  simp only [K6.fs, true_and]
  rw [← hgg]
  refine ⟨(U6.gi (k := 0) (x := 0) rfl).2.2, fun h7 e7 => ?_⟩
  have U7 : RU E hb [.int (nI (qw g)), .int 0, .int 0, .int 0, .int 0, .int 0, .int 0, .int 0, .int 0, .int 0, .int 0, .ref (hb.1 + 1), .ref (hb.1 + 2)] (fun _ => 0) (fun _ => 0) h7 := by rw [e7]; exact U6.put
  clear e7
  have K7 := KK U7
  simp only [K7.fs, true_and]
  rw [← hgg]
  refine ⟨(U7.gi (k := 1) (x := 0) rfl).2.2, fun h8 e8 => ?_⟩
  have U8 : RU E hb [.int (nI (qw g)), .int (nI (qh g)), .int 0, .int 0, .int 0, .int 0, .int 0, .int 0, .int 0, .int 0, .int 0, .ref (hb.1 + 1), .ref (hb.1 + 2)] (fun _ => 0) (fun _ => 0) h8 := by rw [e8]; exact U7.put
  clear e8
  obtain ⟨o9_0, p9_0, -⟩ := U8.gi (k := 0) (x := (nI (qw g))) rfl
  obtain ⟨o9_1, p9_1, -⟩ := U8.gi (k := 1) (x := (nI (qh g))) rfl
  refine ⟨o9_0, o9_1, (U8.gi (k := 2) (x := 0) rfl).2.2, fun h9 e9 => ?_⟩
  rw [show fI h8 hb.1 0 = (nI (qw g)) from p9_0, show fI h8 hb.1 1 = (nI (qh g)) from p9_1, pk_mul] at e9
  have U9 : RU E hb [.int (nI (qw g)), .int (nI (qh g)), .int (nI (sq g)), .int 0, .int 0, .int 0, .int 0, .int 0, .int 0, .int 0, .int 0, .ref (hb.1 + 1), .ref (hb.1 + 2)] (fun _ => 0) (fun _ => 0) h9 := by rw [e9]; exact U8.put
  clear e9
  have K9 := KK U9
  simp only [K9.fs, true_and]
  rw [← hgg]
  refine ⟨(U9.gi (k := 3) (x := 0) rfl).2.2, fun h10 e10 => ?_⟩
  have U10 : RU E hb [.int (nI (qw g)), .int (nI (qh g)), .int (nI (sq g)), .int (nI (qo g)), .int 0, .int 0, .int 0, .int 0, .int 0, .int 0, .int 0, .ref (hb.1 + 1), .ref (hb.1 + 2)] (fun _ => 0) (fun _ => 0) h10 := by rw [e10]; exact U9.put
  clear e10
  obtain ⟨o11_2, p11_2, -⟩ := U10.gi (k := 2) (x := (nI (sq g))) rfl
  obtain ⟨o11_3, p11_3, -⟩ := U10.gi (k := 3) (x := (nI (qo g))) rfl
  refine ⟨o11_2, o11_3, (U10.gi (k := 4) (x := 0) rfl).2.2, fun h11 e11 => ?_⟩
  rw [show fI h10 hb.1 2 = (nI (sq g)) from p11_2, show fI h10 hb.1 3 = (nI (qo g)) from p11_3, n_shl _ (by omega), show nI (2 ^ sq g) - 1 = nI (2 ^ sq g - 1) from n_sub (Nat.one_le_two_pow), nx_m1, nx_xor, nx_and] at e11
  have U11 : RU E hb [.int (nI (qw g)), .int (nI (qh g)), .int (nI (sq g)), .int (nI (qo g)), .int (nI (grd g)), .int 0, .int 0, .int 0, .int 0, .int 0, .int 0, .ref (hb.1 + 1), .ref (hb.1 + 2)] (fun _ => 0) (fun _ => 0) h11 := by rw [e11]; exact U10.put
  clear e11
  have K11 := KK U11
  simp only [K11.fs, true_and]
  rw [← hgg]
  refine ⟨(U11.gi (k := 5) (x := 0) rfl).2.2, fun h12 e12 => ?_⟩
  have U12 : RU E hb [.int (nI (qw g)), .int (nI (qh g)), .int (nI (sq g)), .int (nI (qo g)), .int (nI (grd g)), .int (nI (qn g)), .int 0, .int 0, .int 0, .int 0, .int 0, .ref (hb.1 + 1), .ref (hb.1 + 2)] (fun _ => 0) (fun _ => 0) h12 := by rw [e12]; exact U11.put
  clear e12
  have K12 := KK U12
  simp only [K12.fs, true_and]
  rw [← hgg]
  refine ⟨(U12.gi (k := 6) (x := 0) rfl).2.2, fun h13 e13 => ?_⟩
  have U13 : RU E hb [.int (nI (qw g)), .int (nI (qh g)), .int (nI (sq g)), .int (nI (qo g)), .int (nI (grd g)), .int (nI (qn g)), .int (nI (qb g)), .int 0, .int 0, .int 0, .int 0, .ref (hb.1 + 1), .ref (hb.1 + 2)] (fun _ => 0) (fun _ => 0) h13 := by rw [e13]; exact U12.put
  clear e13
  have K13 := KK U13
  simp only [K13.fs, true_and]
  rw [← hgg]
  refine ⟨(U13.gi (k := 7) (x := 0) rfl).2.2, fun h14 e14 => ?_⟩
  have U14 : RU E hb [.int (nI (qw g)), .int (nI (qh g)), .int (nI (sq g)), .int (nI (qo g)), .int (nI (grd g)), .int (nI (qn g)), .int (nI (qb g)), .int (qs g), .int 0, .int 0, .int 0, .ref (hb.1 + 1), .ref (hb.1 + 2)] (fun _ => 0) (fun _ => 0) h14 := by rw [e14]; exact U13.put
  clear e14
  have K14 := KK U14
  simp only [K14.fs, true_and]
  rw [← hgg]
  refine ⟨(U14.gi (k := 8) (x := 0) rfl).2.2, fun h15 e15 => ?_⟩
  have U15 : RU E hb [.int (nI (qw g)), .int (nI (qh g)), .int (nI (sq g)), .int (nI (qo g)), .int (nI (grd g)), .int (nI (qn g)), .int (nI (qb g)), .int (qs g), .int (ql g), .int 0, .int 0, .ref (hb.1 + 1), .ref (hb.1 + 2)] (fun _ => 0) (fun _ => 0) h15 := by rw [e15]; exact U14.put
  clear e15
  obtain ⟨o16_2, p16_2, -⟩ := U15.gi (k := 2) (x := (nI (sq g))) rfl
  refine ⟨o16_2, (U15.gi (k := 9) (x := 0) rfl).2.2, fun h16 e16 => ?_⟩
  rw [show fI h15 hb.1 2 = (nI (sq g)) from p16_2, nI_1] at e16
  have U16 : RU E hb [.int (nI (qw g)), .int (nI (qh g)), .int (nI (sq g)), .int (nI (qo g)), .int (nI (grd g)), .int (nI (qn g)), .int (nI (qb g)), .int (qs g), .int (ql g), .int (nI (bs g)), .int 0, .ref (hb.1 + 1), .ref (hb.1 + 2)] (fun _ => 0) (fun _ => 0) h16 := by rw [e16]; exact U15.put
  clear e16
  exact main h16 ⟨_, _, U16, fun i hi hmi => by omega⟩
end
