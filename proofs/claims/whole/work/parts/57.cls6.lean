def wyX (g : Gm) (m f t : Nat) (cap : Bool) : Int32 := if m < qn g ∧ f < sq g ∧ t < sq g then wy g m f t cap else -1
def Kc (E : Wd) (h : Hp) (c : Nat) (g : Gm) : Prop := h.2 c = some (.inr (2, [.ref (c + 1), .ref (c + 2)])) ∧ ∃ U V, h.2 (c + 1) = some (.inl (eA E 0, 432, .inl U)) ∧ h.2 (c + 2) = some (.inl (eA E 0, 432, .inl V)) ∧ ∀ m f t, m < 3 → f < 12 → t < 12 → U (m * 144 + f * 12 + t) = wyX g m f t false ∧ V (m * 144 + f * 12 + t) = wyX g m f t true
def dnB (m f t a b c : Nat) : Bool := decide (a < m) || (decide (a = m) && (decide (b < f) || (decide (b = f) && decide (c < t))))
def SP (E : Wd) (hb : Hp) (g : Gm) (m f t : Nat) (h : Hp) : Prop := h.1 = hb.1 + 3 ∧ (∀ a, a < hb.1 → h.2 a = hb.2 a) ∧ h.2 hb.1 = some (.inr (2, [.ref (hb.1 + 1), .ref (hb.1 + 2)])) ∧ ∃ U V, h.2 (hb.1 + 1) = some (.inl (eA E 0, 432, .inl U)) ∧ h.2 (hb.1 + 2) = some (.inl (eA E 0, 432, .inl V)) ∧ ∀ a b c, a < 3 → b < 12 → c < 12 → U (a * 144 + b * 12 + c) = (if dnB m f t a b c then wyX g a b c false else -1) ∧ V (a * 144 + b * 12 + c) = (if dnB m f t a b c then wyX g a b c true else -1)
section
variable {E : Wd} {h hb : Hp} {r c : Nat} {g : Gm} {d : Nat}
theorem Kc.of {h' : Hp} (K : Kc E h c g) (e : ∀ j, j < 3 → h'.2 (c + j) = h.2 (c + j)) : Kc E h' c g := by
  obtain ⟨k1, U, V, k2, k3, k4⟩ := K
  exact ⟨by rw [← k1]; exact e 0 (by omega), U, V, by rw [e 1 (by omega)]; exact k2, by rw [e 2 (by omega)]; exact k3, k4⟩
theorem c_wayOf {Q : Int32 → Hp → Prop} {m f t : Nat} {cap : Bool} (K : Kc E h c g) (w : qF g) (hm : m < 3) (hf : f ≤ 12) (ht : t ≤ 12) (hq : Q (wyX g m f t cap) h) : OkI E YX2_wayOf d [.ref c, .int (nI m), .int (nI f), .int (nI t), .int (bI cap)] h Q := by
  refine rnX2_wayOf ?_
  obtain ⟨k1, U, V, k2, k3, k4⟩ := K
  have hsq := w.sq_lt
  have o1 : okA h c 2 0 := ⟨_, _, k1, rfl⟩
  have o2 : okA h c 2 1 := ⟨_, _, k1, rfl⟩
  have e1 : fA h c 0 = c + 1 := by show vA (hF h c 0) = _; rw [hF_of k1 rfl]; rfl
  have e2 : fA h c 1 = c + 2 := by show vA (hF h c 1) = _; rw [hF_of k1 rfl]; rfl
  simp only [vcX2_wayOf_0, o1, o2, e1, e2, true_and]
  refine ⟨fun q => absurd q (nI_pos (by omega)), fun _ => ⟨fun q => ?_, fun q => ⟨fun q2 => absurd q2 (nI_pos (by omega)), fun _ => ⟨fun q2 => ?_, fun q2 => ?_⟩⟩⟩⟩
  · have : 12 ≤ f := (nI_leI (a := 12) (by omega) (by omega)).mp q
    unfold wyX at hq
    rw [if_neg (by omega)] at hq; exact hq
  · have hf' : f < 12 := by
      rcases Nat.lt_or_ge f 12 with z | z
      · exact z
      · exact absurd (nI_le (a := 12) (b := f) z (by omega)) q
    have ht' : t < 12 := (nI_ltI (b := 12) (by omega) (by omega)).mp q2
    obtain ⟨k5, k6⟩ := k4 m f t hm hf' ht'
    have L38 : ∀ s F, h.2 s = some (.inl (eA E 0, 432, .inl F)) → F (m * 144 + f * 12 + t) = wyX g m f t cap → vcX2_wayOf_38 E d (nI m) (nI f) (nI t) s h Q := fun s F hs hF => by
      have lA' : lA h s = nI 432 := by simp [lA, hs, nI]
      simp only [vcX2_wayOf_38, show (144 : Int32) = nI 144 from rfl, show (12 : Int32) = nI 12 from rfl, pk_mul, nI_add, lA']
      refine ⟨fun q => absurd q (nI_pos (by omega)), fun _ => ⟨⟨_, hs⟩, fun q => absurd q (nI_ge (by omega) (by omega)), fun _ => ⟨⟨_, _, hs, vpn (by omega)⟩, ?_⟩⟩⟩
      rw [gA_of hs, n_cl, hF]; exact hq
    cases cap with
    | false => exact ⟨fun _ => L38 _ U k2 k5, fun q => absurd rfl q⟩
    | true => exact ⟨fun q => absurd q (by decide), fun _ => L38 _ V k3 k6⟩
  · have : 12 ≤ t := by
      rcases Nat.lt_or_ge t 12 with z | z
      · exact absurd (nI_lt (a := t) (b := 12) z (by omega)) q2
      · exact z
    unfold wyX at hq
    rw [if_neg (by omega)] at hq; exact hq
theorem c_reachInit {Q : Hp → Prop} {mc ms : Nat} (K : Kr E hb r g) (w : qF g) (hr : r + 3 ≤ hb.1) (hcm : 2 ≤ mc ∧ 864 ≤ ms) (hq : ∀ h', Kc E h' hb.1 g → h'.1 = hb.1 + 3 → (∀ a, a < hb.1 → h'.2 a = hb.2 a) → Q h') : OkW E YX2_init (d + 3) mc ms [.ref hb.1, .ref r] (nO hb 2 [.null, .null]) Q := by
  refine rnX2_init (fun K40 K55 K72 k40 k55 k72 => ?_)
  have hsq := w.sq_lt
  have hn : qn g ≤ 3 := w.2.2.2.2.2.2.1
  -- the three loops
  have SPk : ∀ {m f t h}, SP E hb g m f t h → Kr E h r g := fun S => K.of (fun j hj => S.2.1 _ (by omega))
  have inner : ∀ m, m < qn g → ∀ f, f < sq g → (∀ h, SP E hb g m f (sq g) h → K55 hb.1 r (nI m) (nI (f + 1)) h) → ∀ h, SP E hb g m f 0 h → K72 hb.1 r (nI m) (nI f) (nI 0) h := fun m hm f hf hend => by
    refine lp_up (K := fun t => ∀ h, SP E hb g m f t h → K72 hb.1 r (nI m) (nI f) (nI t) h) (sq g) (fun t ht ih h S => ?_) (fun h S => ?_) 0 (Nat.zero_le _)
    · refine k72 _ _ _ _ _ _ ?_
      have Kh := SPk S
      obtain ⟨s1, s2, s3, U, V, s4, s5, s6⟩ := S
      have o1 : okA h hb.1 2 0 := ⟨_, _, s3, rfl⟩
      have e1 : fA h hb.1 0 = hb.1 + 1 := by show vA (hF h hb.1 0) = _; rw [hF_of s3 rfl]; rfl
      simp only [vcX2_init_72, Kh.fs, true_and, o1, e1, nI_leI (show sq g < 2 ^ 31 by omega) (show t < 2 ^ 31 by omega)]
      refine ⟨⟨hcm.1, hcm.2⟩, fun q => absurd q (by omega), fun _ => ⟨fun q => absurd q (nI_ge (a := t) (b := 12) (by omega) (by omega)), fun _ => ?_⟩⟩
      refine c_way (cap := false) Kh w hm hf ht ?_
      rw [show (144 : Int32) = nI 144 from rfl, show (12 : Int32) = nI 12 from rfl, pk_mul, pk_mul, nI_add, nI_add]
      refine ⟨⟨_, _, s4, vpn (by omega)⟩, fun h3 e3 => ?_⟩
      have t1 : h3.2 (hb.1 + 1) = some (.inl (eA E 0, 432, .inl (upd U (m * 144 + f * 12 + t) (wy g m f t false)))) := by
        rw [e3]
        have := sA_of (i := nI (m * 144 + f * 12 + t)) (x := wy g m f t false) s4
        rw [n_cl] at this; exact this
      have t2 : ∀ a, a ≠ hb.1 + 1 → h3.2 a = h.2 a := fun a ha => by rw [e3]; simp [sA, ha]
      have t3 : h3.1 = h.1 := by rw [e3]; rfl
      clear e3
      have u3 : h3.2 hb.1 = some (.inr (2, [.ref (hb.1 + 1), .ref (hb.1 + 2)])) := by rw [t2 _ (by omega)]; exact s3
      have K3 : Kr E h3 r g := Kh.of (fun j hj => t2 _ (by omega))
      have o2 : okA h3 hb.1 2 1 := ⟨_, _, u3, rfl⟩
      have e2 : fA h3 hb.1 1 = hb.1 + 2 := by show vA (hF h3 hb.1 1) = _; rw [hF_of u3 rfl]; rfl
      have v3 : h3.2 (hb.1 + 2) = some (.inl (eA E 0, 432, .inl V)) := by rw [t2 _ (by omega)]; exact s5
      simp only [o2, e2, true_and]
      refine c_way (cap := true) K3 w hm hf ht ?_
      refine ⟨⟨_, _, v3, vpn (by omega)⟩, fun h4 e4 => ?_⟩
      have w1 : h4.2 (hb.1 + 2) = some (.inl (eA E 0, 432, .inl (upd V (m * 144 + f * 12 + t) (wy g m f t true)))) := by
        rw [e4]
        have := sA_of (i := nI (m * 144 + f * 12 + t)) (x := wy g m f t true) v3
        rw [n_cl] at this; exact this
      have w2 : ∀ a, a ≠ hb.1 + 2 → h4.2 a = h3.2 a := fun a ha => by rw [e4]; simp [sA, ha]
      have w3 : h4.1 = h3.1 := by rw [e4]; rfl
      clear e4
      rw [nI_1]
      refine ih h4 ⟨by rw [w3, t3]; exact s1, fun a ha => by rw [w2 _ (by omega), t2 _ (by omega)]; exact s2 a ha, by rw [w2 _ (by omega)]; exact u3, _, _, by rw [w2 _ (by omega)]; exact t1, w1, fun a b c ha hb' hc => ?_⟩
      obtain ⟨z1, z2⟩ := s6 a b c ha hb' hc
      have hwx : ∀ cap, wyX g m f t cap = wy g m f t cap := fun cap => by unfold wyX; rw [if_pos ⟨hm, hf, ht⟩]
      by_cases q : a = m ∧ b = f ∧ c = t
      · obtain ⟨rfl, rfl, rfl⟩ := q
        have : dnB a b (c + 1) a b c = true := by simp [dnB]
        rw [this, if_pos rfl, if_pos rfl, hwx, hwx]
        simp [upd]
      · have hi : a * 144 + b * 12 + c ≠ m * 144 + f * 12 + t := fun e => q (by omega)
        have : dnB m f (t + 1) a b c = dnB m f t a b c := by
          unfold dnB
          by_cases e1 : a = m
          · by_cases e2 : b = f
            · have e3 : c ≠ t := fun e3 => q ⟨e1, e2, e3⟩
              rw [show decide (c < t + 1) = decide (c < t) from decide_eq_decide.mpr (by omega)]
            · rw [decide_eq_false e2]; simp
          · rw [decide_eq_false e1]; simp
        rw [this]
        simp only [upd, hi, if_false]
        exact ⟨z1, z2⟩
    · refine k72 _ _ _ _ _ _ ?_
      have Kh := SPk S
      simp only [vcX2_init_72, Kh.fs, true_and]
      refine ⟨⟨hcm.1, hcm.2⟩, fun _ => by rw [nI_1]; exact hend h S, fun q => absurd (nI_le (Nat.le_refl _) (by omega)) q⟩
  have nxt : ∀ {m f h}, SP E hb g m f (sq g) h → SP E hb g m (f + 1) 0 h := fun {m f h} S => by
    obtain ⟨s1, s2, s3, U, V, s4, s5, s6⟩ := S
    refine ⟨s1, s2, s3, U, V, s4, s5, fun a b c ha hb' hc => ?_⟩
    obtain ⟨z1, z2⟩ := s6 a b c ha hb' hc
    rw [z1, z2]
    by_cases e1 : a = m
    · by_cases e2 : b = f
      · by_cases e3 : c < sq g
        · have p1 : dnB m f (sq g) a b c = true := by simp [dnB, e1, e2, e3]
          have p2 : dnB m (f + 1) 0 a b c = true := by simp [dnB, e1, e2]
          rw [p1, p2]; exact ⟨rfl, rfl⟩
        · have p2 : ∀ cap, wyX g a b c cap = -1 := fun cap => by unfold wyX; rw [if_neg (by omega)]
          rw [p2, p2]; simp
      · have : dnB m f (sq g) a b c = dnB m (f + 1) 0 a b c := by
          unfold dnB
          rw [decide_eq_false e2, show decide (b < f + 1) = decide (b < f) from decide_eq_decide.mpr (by omega)]; simp
        rw [this]; exact ⟨rfl, rfl⟩
    · have : dnB m f (sq g) a b c = dnB m (f + 1) 0 a b c := by
        unfold dnB
        rw [decide_eq_false e1]; simp
      rw [this]; exact ⟨rfl, rfl⟩
  have nxm : ∀ {m h}, SP E hb g m (sq g) 0 h → SP E hb g (m + 1) 0 0 h := fun {m h} S => by
    obtain ⟨s1, s2, s3, U, V, s4, s5, s6⟩ := S
    refine ⟨s1, s2, s3, U, V, s4, s5, fun a b c ha hb' hc => ?_⟩
    obtain ⟨z1, z2⟩ := s6 a b c ha hb' hc
    rw [z1, z2]
    by_cases e1 : a = m
    · by_cases e3 : b < sq g
      · have p1 : dnB m (sq g) 0 a b c = true := by simp [dnB, e1, e3]
        have p2 : dnB (m + 1) 0 0 a b c = true := by simp [dnB, e1]
        rw [p1, p2]; exact ⟨rfl, rfl⟩
      · have p2 : ∀ cap, wyX g a b c cap = -1 := fun cap => by unfold wyX; rw [if_neg (by omega)]
        rw [p2, p2]; simp
    · have : dnB m (sq g) 0 a b c = dnB (m + 1) 0 0 a b c := by
        unfold dnB
        rw [decide_eq_false e1, show decide (a < m + 1) = decide (a < m) from decide_eq_decide.mpr (by omega)]; simp
      rw [this]; exact ⟨rfl, rfl⟩
  have mid : ∀ m, m < qn g → (∀ h, SP E hb g m (sq g) 0 h → K40 hb.1 r (nI (m + 1)) h) → ∀ h, SP E hb g m 0 0 h → K55 hb.1 r (nI m) (nI 0) h := fun m hm hend => by
    refine lp_up (K := fun f => ∀ h, SP E hb g m f 0 h → K55 hb.1 r (nI m) (nI f) h) (sq g) (fun f hf ih h S => ?_) (fun h S => ?_) 0 (Nat.zero_le _)
    · refine k55 _ _ _ _ _ ?_
      have Kh := SPk S
      simp only [vcX2_init_55, Kh.fs, true_and, nI_leI (show sq g < 2 ^ 31 by omega) (show f < 2 ^ 31 by omega)]
      refine ⟨⟨hcm.1, hcm.2⟩, fun q => absurd q (by omega), fun _ => ⟨fun q => absurd q (nI_ge (a := f) (b := 12) (by omega) (by omega)), fun _ => ?_⟩⟩
      exact inner m hm f hf (fun h S => ih h (nxt S)) h S
    · refine k55 _ _ _ _ _ ?_
      have Kh := SPk S
      simp only [vcX2_init_55, Kh.fs, true_and]
      refine ⟨⟨hcm.1, hcm.2⟩, fun _ => by rw [nI_1]; exact hend h S, fun q => absurd (nI_le (Nat.le_refl _) (by omega)) q⟩
  have outer : ∀ h, SP E hb g 0 0 0 h → K40 hb.1 r (nI 0) h := by
    refine lp_up (K := fun m => ∀ h, SP E hb g m 0 0 h → K40 hb.1 r (nI m) h) (qn g) (fun m hm ih h S => ?_) (fun h S => ?_) 0 (Nat.zero_le _)
    · refine k40 _ _ _ _ ?_
      have Kh := SPk S
      simp only [vcX2_init_40, Kh.fs, true_and, nI_leI (show qn g < 2 ^ 31 by omega) (show m < 2 ^ 31 by omega)]
      refine ⟨⟨hcm.1, hcm.2⟩, fun q => absurd q (by omega), fun _ => ⟨fun q => absurd q (nI_ge (a := m) (b := 3) (by omega) (by omega)), fun _ => ?_⟩⟩
      exact mid m hm (fun h S => ih h (nxm S)) h S
    · refine k40 _ _ _ _ ?_
      have Kh := SPk S
      simp only [vcX2_init_40, Kh.fs, true_and]
      refine ⟨⟨hcm.1, hcm.2⟩, fun _ => ?_, fun q => absurd (nI_le (Nat.le_refl _) (by omega)) q⟩
      obtain ⟨s1, s2, s3, U, V, s4, s5, s6⟩ := S
      refine hq h ⟨s3, U, V, s4, s5, fun a b c ha hb' hc => ?_⟩ s1 s2
      obtain ⟨z1, z2⟩ := s6 a b c ha hb' hc
      rw [z1, z2]
      by_cases e : a < qn g
      · have : dnB (qn g) 0 0 a b c = true := by simp [dnB, e]
        rw [this]; exact ⟨rfl, rfl⟩
      · have p2 : ∀ cap, wyX g a b c cap = -1 := fun cap => by unfold wyX; rw [if_neg (by omega)]
        rw [p2, p2]; simp
  -- the two arrays
  refine ⟨⟨by omega, by omega⟩, fun h1 e1 => ?_⟩
  have a1 : h1.1 = hb.1 + 2 ∧ h1.2 (hb.1 + 1) = some (.inl (eA E 0, 432, .inl (fun _ => 0))) ∧ h1.2 hb.1 = some (.inr (2, [.null, .null])) ∧ ∀ a, a < hb.1 → h1.2 a = hb.2 a := by
    rw [e1]
    refine ⟨rfl, by simp [nA, nO], by simp [nA, nO], fun a ha => ?_⟩
    have q1 : a ≠ hb.1 + 1 := by omega
    have q2 : a ≠ hb.1 := by omega
    simp [nA, nO, q1, q2]
  clear e1
  obtain ⟨a2, a3, a4, a5⟩ := a1
  refine ⟨⟨_, a4, by decide⟩, fun h3 e3 => ?_⟩
  have b1 : h3.1 = hb.1 + 2 ∧ h3.2 (hb.1 + 1) = some (.inl (eA E 0, 432, .inl (fun _ => 0))) ∧ h3.2 hb.1 = some (.inr (2, [.ref (hb.1 + 1), .null])) ∧ ∀ a, a < hb.1 → h3.2 a = hb.2 a := by
    rw [e3]
    refine ⟨a2, by simp [pF, a3], by simp [pF, a4, nO], fun a ha => ?_⟩
    have q2 : a ≠ hb.1 := by omega
    simp [pF, q2, a5 a ha]
  clear e3
  obtain ⟨b2, b3, b4, b5⟩ := b1
  refine ⟨⟨by omega, by omega⟩, fun h4 e4 => ?_⟩
  have d1 : h4.1 = hb.1 + 3 ∧ h4.2 (hb.1 + 1) = some (.inl (eA E 0, 432, .inl (fun _ => 0))) ∧ h4.2 (hb.1 + 2) = some (.inl (eA E 0, 432, .inl (fun _ => 0))) ∧ h4.2 hb.1 = some (.inr (2, [.ref (hb.1 + 1), .null])) ∧ ∀ a, a < hb.1 → h4.2 a = hb.2 a := by
    rw [e4]
    refine ⟨by simp [nA, b2], by simp [nA, b2, b3], by simp [nA, b2], by simp [nA, b2, b4], fun a ha => ?_⟩
    have q2 : a ≠ hb.1 + 2 := by omega
    simp [nA, b2, q2, b5 a ha]
  clear e4
  obtain ⟨d2, d3, d3', d4, d5⟩ := d1
  refine ⟨⟨_, d4, by simp⟩, fun h6 e6 => ?_⟩
  have f1 : h6.1 = hb.1 + 3 ∧ h6.2 (hb.1 + 1) = some (.inl (eA E 0, 432, .inl (fun _ => 0))) ∧ h6.2 (hb.1 + 2) = some (.inl (eA E 0, 432, .inl (fun _ => 0))) ∧ h6.2 hb.1 = some (.inr (2, [.ref (hb.1 + 1), .ref (hb.1 + 2)])) ∧ ∀ a, a < hb.1 → h6.2 a = hb.2 a := by
    rw [e6]
    refine ⟨d2, by simp [pF, d3], by simp [pF, d3'], by simp [pF, d4, b2], fun a ha => ?_⟩
    have q2 : a ≠ hb.1 := by omega
    simp [pF, q2, d5 a ha]
  clear e6
  obtain ⟨f2, f3, f3', f4, f5⟩ := f1
  have e1 : fA h6 hb.1 0 = hb.1 + 1 := by show vA (hF h6 hb.1 0) = _; rw [hF_of f4 rfl]; rfl
  refine ⟨⟨_, _, f4, rfl⟩, ?_⟩
  rw [e1]
  refine c_fill f3 (by omega) (fun h7 G g1 g2 g3 g4 => ?_)
  have g5 : h7.2 hb.1 = some (.inr (2, [.ref (hb.1 + 1), .ref (hb.1 + 2)])) := by rw [g4 _ (by omega)]; exact f4
  have e2 : fA h7 hb.1 1 = hb.1 + 2 := by show vA (hF h7 hb.1 1) = _; rw [hF_of g5 rfl]; rfl
  refine ⟨⟨_, _, g5, rfl⟩, ?_⟩
  rw [e2]
  refine c_fill (F := fun _ => 0) (by rw [g4 _ (by omega)]; exact f3') (by omega) (fun h8 G2 i1 i2 i3 i4 => ?_)
  refine outer h8 ⟨by rw [i3, g3, f2], fun a ha => by rw [i4 _ (by omega), g4 _ (by omega)]; exact f5 a ha, by rw [i4 _ (by omega)]; exact g5, G, G2, by rw [i4 _ (by omega)]; exact g1, i1, fun a b c ha hb' hc => ?_⟩
  have : dnB 0 0 0 a b c = false := by simp [dnB]
  rw [this, g2 _ (by omega), i2 _ (by omega)]
  exact ⟨rfl, rfl⟩
end
