section
variable {E : Wd} {h h' hb : Hp} {O M t r n : Nat} {s : Sg} {c c1 c2 : Sl} {bt bk : Option Bool} {g : Gm} {A A' : Nat → Nat → Int32} {d : Nat}
theorem CT.zero (C : CT E h O M s c1 c2 bt bk) : CT E (pF h O 1 (.int 0)) O M (sgT s 0 (sB s)) c1 c2 bt bk := by
  obtain ⟨k1, k2, k3, ⟨k4, k5⟩, k6, k7, k8, k9, k10, k11, k12⟩ := C
  have e : ∀ a, a ≠ O → (pF h O 1 (.int 0)).2 a = h.2 a := fun a ha => by simp [pF, ha]
  obtain ⟨t1, T, t2, -⟩ := k2
  exact ⟨by simp [pF, k1]; rfl, ⟨Nat.zero_le _, T, by rw [e _ (by omega)]; exact t2, fun i hi => absurd hi (Nat.not_lt_zero _)⟩, k3.of (e _ (by omega)) (e _ (by omega)), ⟨k4.of (fun a ha => by have := k10 a (Or.inl ha); exact e a (by omega)), k5.of (fun a ha => by have := k10 a (Or.inr ha); exact e a (by omega))⟩, k6, k7, k8.of (e _ (by omega)) (e _ (by omega)), k9, k10, k11, k12⟩
theorem slTR {z : Nat} (H : slH E h c) (e : slA c = some z) : TR E h z ∧ (∀ a, z ≤ a ∧ a < z + 9 → slW c a) := by
  match c, H, e with
  | some (t, none), H, e => cases e; exact ⟨H, fun a ha => ha⟩
  | some (t, some (r, g)), H, e => cases e; obtain ⟨⟨A, T⟩, -⟩ := H; exact ⟨T.1.tr, fun a ha => Or.inl ha⟩
/-- what a define makes room for -/
def dlS (s : Sg) (c1 c2 : Sl) (bk : Option Bool) : Nat := if (rgm (sL s) (sB s)).1 = true then dl c1 c2 bk else 0
theorem c_define {Q : Int32 → Hp → Prop} {mc ms : Nat} (hb : ∀ g, qF g → bnd g) (C : CT E h O M s c1 c2 bt bk) (hcm : 12 + 9 * dlS s c1 c2 bk ≤ mc ∧ 1014 + 33640 * dlS s c1 c2 bk ≤ ms) (hq : ∀ h' c1' c2' bt', CT E h' O M (sDef s).1 c1' c2' bt' bk → tn c1' + tn c2' = tn c1 + tn c2 + dlS s c1 c2 bk → FQ M h h' → Q (sDef s).2 h') : OkJ E YX7_define (d + 8) mc ms [.ref O] h Q := by
  refine rnX7_define ?_
  have own := C.2.2.2.2.2.2.2.2.2.1
  have hO : ∀ j, j < 6 → O + j < h.1 := fun j hj => (own _ (Or.inl ⟨by omega, by omega⟩)).1
  have hM54 := C.2.2.2.2.2.2.2.2.2.2
  have C1 : CT E (nO h 3 [.null, .int 0, .int 0, .int 0, .int 0, .int 0, .int 0, .int 0, .int 0, .int 0, .null]) O M s c1 c2 bt bk := C.of (fun a ha => by
    have := (own a ha).1
    have : a ≠ h.1 := by omega
    simp [nO, this]) (Nat.le_succ _)
  rw [vcX7_define_0]
  refine ⟨⟨by omega, by omega⟩, fun h1 e1 => ?_⟩
  subst e1
  simp only [C1.fp, true_and]
  refine ⟨1, 3, ⟨by omega, by omega⟩, c_readerInit (hb := h) C.2.1 (hO 1 (by omega)) ⟨Nat.le_refl _, Nat.le_refl _⟩ (fun h3 K3 s3 u3 => ?_)⟩
  have C3 : CT E h3 O M s c1 c2 bt bk := C.of (fun a ha => u3 a (own a ha).1) (by omega)
  simp only [C3.fp, true_and]
  intro h7 e7
  have C7 : CT E h7 O M (sgT s 0 (sB s)) c1 c2 bt bk := by rw [e7]; exact C3.zero
  have z7 : ∀ a, a ≠ O → h7.2 a = h3.2 a := fun a ha => by rw [e7]; simp [pF, ha]
  have y7 : h7.1 = h.1 + 2 := by rw [e7]; exact s3
  clear e7
  have h0 := hO 0 (by omega)
  have K7 : Kt E h7 h.1 (O + 1) (sL s) (sB s) (true, 0, g00) := K3.of (fun a ha => z7 a (by omega))
  refine ⟨⟨_, K7.1⟩, c_isGame (d := d) K7 (fun h8 F8 R8 => ?_)⟩
  have C8 : CT E h8 O M (sgT s 0 (sB s)) c1 c2 bt bk := C7.of (fun a ha => by have := (own a ha).1; exact F8.2 a (by omega) (by omega)) (Nat.le_of_eq F8.1.symm)
  have low8 : ∀ a, a < h.1 → a ≠ O → h8.2 a = h.2 a := fun a ha hne => by rw [F8.2 a (by omega) (by omega), z7 a hne, u3 a ha]
  have FQ8 : FQ M h h8 := ⟨by rw [F8.1]; omega, fun a h1 h2 => low8 a (by omega) (fun z => (own O (Or.inl ⟨by omega, by omega⟩)).2 (by omega))⟩
  unfold sDef at hq
  refine bI_c' (fun cz => ?_) (fun cz => ?_)
  · rw [if_neg (by rw [cz]; decide)] at hq
    have d0 : dlS s c1 c2 bk = 0 := by unfold dlS; rw [cz]; rfl
    obtain ⟨fs, f1, f2⟩ := R8.2 cz
    refine ⟨⟨_, _, f1, f2⟩, ?_⟩
    rw [show fI h8 h.1 2 = nI (rgm (sL s) (sB s)).2.1 by show vI (hF h8 h.1 2) = _; rw [hF_of f1 f2]; rfl]
    exact hq h8 c1 c2 bt C8 (by rw [d0, Nat.add_zero]) FQ8
  · rw [if_pos cz] at hq
    have d1 : dlS s c1 c2 bk = dl c1 c2 bk := by unfold dlS; rw [if_pos cz]
    rw [d1] at hcm hq
    have K8 := R8.1 cz
    obtain ⟨w, v⟩ := rgm_iv cz
    obtain ⟨g, hg⟩ : ∃ g, g = (rgm (sL s) (sB s)).2.2 := ⟨_, rfl⟩
    rw [← hg] at w v hq
    have bd := hb g w
    refine ⟨⟨_, C8.1⟩, 9 * dl c1 c2 bk, 33640 * dl c1 c2 bk, ⟨by omega, by omega⟩, c_freeTable (d := d + 5) C8 ⟨Nat.le_refl _, Nat.le_refl _⟩ (fun h10 z b c1' c2' C10 ez nb en s10 u10 => ?_)⟩
    refine ⟨z, rfl, ⟨by omega, by omega⟩, fun h16 e16 => ?_⟩
    subst e16
    have K10 : Kt E h10 h.1 (O + 1) (sL s) (sB s) (rgm (sL s) (sB s)) := K8.of (fun a ha => u10 a (by rw [F8.1, y7]; omega) (by omega))
    have h18le : h8.1 = h.1 + 2 := by rw [F8.1, y7]
    refine ⟨2, 6, ⟨by omega, by omega⟩, c_rulesInit (hb := h10) (d := d + 6) K10 hg.symm w ⟨by omega, by omega⟩ ⟨Nat.le_refl _, Nat.le_refl _⟩ (fun h18 Kr18 s18 u18 => ?_)⟩
    obtain ⟨r, hr⟩ : ∃ r, r = h10.1 := ⟨_, rfl⟩
    rw [← hr] at Kr18 s18 u18 ⊢
    obtain ⟨k1, k2, k3, k4, k6, k7, k8, k9, k10, k11, k12⟩ := C10
    have hsl : slH E h10 (pick c1' c2' (some b)) := by cases b; exact k4.1; exact k4.2
    obtain ⟨Tz, Wz⟩ := slTR hsl ez
    have Wz' : ∀ a, z ≤ a ∧ a < z + 9 → slW c1' a ∨ slW c2' a := fun a ha => by
      have := Wz a ha
      cases b
      · exact Or.inl this
      · exact Or.inr this
    have zlt : z + 9 ≤ r := by
      have := (k11 (z + 8) (Or.inr (Wz' _ ⟨by omega, by omega⟩))).1
      omega
    have zO : O + 6 ≤ z := k10 z (Wz' z ⟨by omega, by omega⟩)
    have T18 : TR E h18 z := Tz.of (fun j hj => u18 _ (by omega))
    obtain ⟨⟨v8, v9, v10, aa, bb, cc, tz⟩, -⟩ := id T18
    refine ⟨⟨_, tz⟩, 7, 981, ⟨by omega, by omega⟩, c_build (d := d + 2) T18 Kr18 (by omega) zlt w v bd ⟨Nat.le_refl _, Nat.le_refl _⟩ (fun h22 A22 T22 s22 u22 => ?_)⟩
    have low22 : ∀ a, a < r → ¬ (z ≤ a ∧ a < z + 9) → h22.2 a = h10.2 a := fun a h1 h2 => by rw [u22 a (by omega) h2, u18 a (by omega)]
    have hOr : O + 6 ≤ r := by omega
    have o22 := (low22 O (by omega) (by omega)).trans k1
    refine ⟨⟨_, o22, Nat.le_of_ble_eq_true rfl⟩, fun h26 e26 => ?_⟩
    have o26 : h26.2 O = some (.inr (7, objf O 0 (slA c1') (slA c2') (some z) (slA (pick c1' c2' bk)) (sK s).isSome)) := by rw [e26]; simp [pF, o22]; rfl
    have z26 : ∀ a, a ≠ O → h26.2 a = h22.2 a := fun a ha => by rw [e26]; simp [pF, ha]
    have y26 : h26.1 = r + 10 := by rw [e26]; exact s22
    clear e26
    have K26 : Ky E h26 (O + 2) (sP s) := Ky.of (h := h10) k3 (by rw [z26 _ (by omega), low22 _ (by omega) (by omega)]) (by rw [z26 _ (by omega), low22 _ (by omega) (by omega)])
    refine ⟨⟨_, _, o26, rfl⟩, ?_⟩
    rw [show fA h26 O 6 = O + 2 by show vA (hF h26 O 6) = _; rw [hF_of o26 rfl]; rfl]
    refine ⟨⟨_, K26.2.1⟩, c_clear K26 (fun h27 K27 F27 => ?_)⟩
    have e27 : ∀ a, a ≠ O → a ≠ O + 2 → a ≠ O + 3 → h27.2 a = h22.2 a := fun a h1 h2 h3 => by rw [F27.2 a h2 h3, z26 a h1]
    have o27 := (F27.2 O (by omega) (by omega)).trans o26
    have y27 : h27.1 = r + 10 := F27.1.trans y26
    have T27 : TF E h27 z r g A22 := ⟨T22.1.of (fun j hj => e27 _ (by omega) (by omega) (by omega)) (fun j hj => e27 _ (by omega) (by omega) (by omega)), T22.2⟩
    have low27 : ∀ a, a < r → ¬ (z ≤ a ∧ a < z + 9) → a ≠ O → a ≠ O + 2 → a ≠ O + 3 → h27.2 a = h10.2 a := fun a h1 h2 h3 h4 h5 => by rw [e27 a h3 h4 h5, low22 a h1 h2]
    have new27 : slH E h27 (some (z, some (r, g))) := ⟨⟨A22, T27⟩, w, v, bd⟩
    have newW : ∀ a, slW (some (z, some (r, g))) a → (z ≤ a ∧ a < z + 9) ∨ (r ≤ a ∧ a < r + 10) := fun a ha => ha
    have hM : ∀ a, M ≤ a → a < M + 54 → h27.2 a = h.2 a := fun a h1 h2 => by
      have nO' : ∀ j, j < 6 → a ≠ O + j := fun j hj z => (own (O + j) (Or.inl ⟨by omega, by omega⟩)).2 (by omega)
      have n0 := nO' 0 (by omega)
      have n2 := nO' 2 (by omega)
      have n3 := nO' 3 (by omega)
      rw [low27 a (by omega) (fun q => (k11 a (Or.inr (Wz' a q))).2 ⟨h1, h2⟩) (by omega) n2 n3, u10 a (by omega) (by omega), low8 a (by omega) (by omega)]
    have fin : ∀ c1'' c2'', CT E h27 O M (0, sB s, some g, pl0, sK s) c1'' c2'' (some b) bk → tn c1'' + tn c2'' = tn c1' + tn c2' → Q (nI (sq g) - nI (pop (qo g))) h27 := fun c1'' c2'' CC en' => hq h27 c1'' c2'' (some b) CC (by rw [en', en]) ⟨by rw [y27]; omega, hM⟩
    simp only [T27.1.fs, T27.1.2.2.1.1.fs, true_and]
    obtain ⟨p1, p2⟩ := pop_grd w
    refine c_bitCount p2 ?_
    rw [show nI (pop (grd g)) = nI (sq g) - nI (pop (qo g)) by rw [n_sub (by omega)]; congr 1; omega]
    have kp' : KPV E h27 O c1' c2' bk (sK s) := KPV.of (h := h10) k8 (low27 _ (by omega) (by omega) (by omega) (by omega) (by omega)) (low27 _ (by omega) (by omega) (by omega) (by omega) (by omega))
    have tp' : TPk E h27 (O + 1) 0 (sB s) := TPk.of (h := h10) k2 (low27 _ (by omega) (by omega) (by omega) (by omega) (by omega))
    have kpv : ∀ c1'' c2'', pick c1'' c2'' bk = pick c1' c2' bk → KPV E h27 O c1'' c2'' bk (sK s) := fun c1'' c2'' ep => by
      revert kp'
      cases sK s with
      | none => exact fun q => q
      | some k => intro q; exact ⟨by rw [ep]; exact q.1, q.2⟩
    have pv0 : PV (some g) pl0 := ⟨fun _ => rfl, fun g' e => ⟨fun k hk => absurd hk (Nat.not_lt_zero _), fun k _ hk => absurd hk (Nat.not_lt_zero _)⟩⟩
    cases b with
    | false =>
      have ep : pick (some (z, some (r, g))) c2' bk = pick c1' c2' bk := by
        cases bk with
        | none => rfl
        | some q => cases q with
          | false => exact absurd rfl nb
          | true => rfl
      have ez : slA c1' = some z := ez
      refine fin (some (z, some (r, g))) c2' ⟨?_, tp', K27, ⟨new27, k4.2.of (fun a ha => ?_)⟩, ⟨rfl, fun _ => rfl⟩, pv0, kpv _ _ ep, fun a ha hb2 => ?_, fun a ha => ?_, fun a ha => ?_, by omega⟩ ?_
      · rw [ep, o27, ez]; rfl
      · have l := (k11 a (Or.inr (Or.inr ha))).1
        have o := k10 a (Or.inr ha)
        exact low27 a (by omega) (fun q => k9 a (Wz a q) ha) (by omega) (by omega) (by omega)
      · have l := (k11 a (Or.inr (Or.inr hb2))).1
        rcases newW a ha with q | q
        · exact k9 a (Wz a q) hb2
        · omega
      · rcases ha with ha | ha
        · rcases newW a ha with q | q <;> omega
        · exact k10 a (Or.inr ha)
      · rcases ha with ha | ha | ha
        · exact ⟨by omega, (k11 a (Or.inl ha)).2⟩
        · rcases newW a ha with q | q
          · exact ⟨by omega, (k11 a (Or.inr (Wz' a q))).2⟩
          · exact ⟨by omega, by omega⟩
        · have := k11 a (Or.inr (Or.inr ha)); exact ⟨by omega, this.2⟩
      · cases c1' with
        | none => cases ez
        | some q => rfl
    | true =>
      have ep : pick c1' (some (z, some (r, g))) bk = pick c1' c2' bk := by
        cases bk with
        | none => rfl
        | some q => cases q with
          | false => rfl
          | true => exact absurd rfl nb
      have ez : slA c2' = some z := ez
      refine fin c1' (some (z, some (r, g))) ⟨?_, tp', K27, ⟨k4.1.of (fun a ha => ?_), new27⟩, ⟨rfl, fun _ => rfl⟩, pv0, kpv _ _ ep, fun a ha hb2 => ?_, fun a ha => ?_, fun a ha => ?_, by omega⟩ ?_
      · rw [ep, o27, ez]; rfl
      · have l := (k11 a (Or.inr (Or.inl ha))).1
        have o := k10 a (Or.inl ha)
        exact low27 a (by omega) (fun q => k9 a ha (Wz a q)) (by omega) (by omega) (by omega)
      · have l := (k11 a (Or.inr (Or.inl ha))).1
        rcases newW a hb2 with q | q
        · exact k9 a ha (Wz a q)
        · omega
      · rcases ha with ha | ha
        · exact k10 a (Or.inl ha)
        · rcases newW a ha with q | q <;> omega
      · rcases ha with ha | ha | ha
        · exact ⟨by omega, (k11 a (Or.inl ha)).2⟩
        · have := k11 a (Or.inr (Or.inl ha)); exact ⟨by omega, this.2⟩
        · rcases newW a ha with q | q
          · exact ⟨by omega, (k11 a (Or.inr (Wz' a q))).2⟩
          · exact ⟨by omega, by omega⟩
      · cases c2' with
        | none => cases ez
        | some q => rfl
end
