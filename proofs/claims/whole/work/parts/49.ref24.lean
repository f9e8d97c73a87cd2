section
variable {E : Wd} {h0 h : Hp} {M : Nat} {A : Nat → Nat → Int32} {f : Nat → Int32} {g : Gm} {d : Nat} {s : Sg}
theorem Rf.ot {h' : Hp} (R : Rf E h0 h M A f) {q : Nat} (h1 : h.1 ≤ h'.1) (h2 : ∀ b, b ≠ q → h'.2 b = h.2 b) (hq : M + 54 ≤ q) (hq0 : h0.1 ≤ q) : Rf E h0 h' M A f := by
  obtain ⟨r1, r2, r3⟩ := R
  refine ⟨fun j hj => by rw [h2 _ (by omega)]; exact r1 j hj, Nat.le_trans r2 h1, fun a ha o => by rw [h2 a (by omega)]; exact r3 a ha o⟩
theorem k_isByte {Q : Int32 → Hp → Prop} {x : Int32} (hq : Q (bI (byB x)) h) : OkI E YX8_isByte (d + 1) [.int x] h Q := by
  refine rnX8_isByte ?_
  exact k_isBetween ⟨bI_m _, hq⟩
theorem k_feed {Q : Int32 → Hp → Prop} {n a b c c4 e : Int32} {mc ms : Nat} (R : Rf E h0 h M A f) (S : RS A f s) (hM : M + 54 ≤ h0.1) (hcm : 1 ≤ mc ∧ 5 ≤ ms)
    (hq : ∀ h' A' f', Rf E h0 h' M A' f' → RS A' f' (sFeed s n a b c c4 e).1 → Q (sFeed s n a b c c4 e).2 h') : OkJ E YX8_feed (d + 2) mc ms [.ref M, .int n, .int a, .int b, .int c, .int c4, .int e] h Q := by
  refine rnX8_feed (fun K95 k95 => ?_)
  unfold sFeed at hq
  have no : (btw 1 5 n && byB a && byB b && byB c && byB c4 && byB e) = false → Q (-2) h := fun q => by
    rw [q] at hq
    exact hq h A f R S
  refine k_isBetween (bI_c (fun q1 => no (by rw [show btw 1 5 n = false from q1]; rfl)) (fun q1 => ?_))
  have q1 : btw 1 5 n = true := q1
  refine k_isByte (bI_c (fun q2 => no (by rw [q2, Bool.and_false]; rfl)) (fun q2 => ?_))
  refine k_isByte (bI_c (fun q3 => no (by rw [q3, Bool.and_false]; rfl)) (fun q3 => ?_))
  refine k_isByte (bI_c (fun q4 => no (by rw [q4, Bool.and_false]; rfl)) (fun q4 => ?_))
  refine k_isByte (bI_c (fun q5 => no (by rw [q5, Bool.and_false]; rfl)) (fun q5 => ?_))
  refine k_isByte (bI_c' (fun q6 => no (by rw [q6, Bool.and_false])) (fun q6 => ?_))
  rw [q1, q2, q3, q4, q5, q6] at hq
  simp only [Bool.and_self, if_true] at hq
  obtain ⟨t1, t2, t3⟩ := S.1
  simp only [R.fs, true_and, t1]
  refine ⟨fun c1 => ⟨hcm, fun h1 e1 => ?_⟩, fun c1 => ?_⟩
  · rw [if_pos c1] at hq
    obtain ⟨j, hj, ej⟩ : ∃ j, j < 6 ∧ n = nI j := btw_in (b := 6) (by omega) (by
      unfold btw at q1 ⊢
      simp only [decide_eq_true_eq] at q1
      exact decide_eq_true ⟨Int32.le_trans (by decide) q1.1, q1.2⟩)
    subst ej
    have hj1 : 1 ≤ j := by
      unfold btw at q1
      simp only [decide_eq_true_eq] at q1
      exact (nI_leI (a := 1) (by omega) (by omega)).mp q1.1
    rw [nI_add] at c1
    have hLj : sL s + j ≤ 40 := (nI_leI (b := 40) (by omega) (by omega)).mp c1
    rw [n_cl] at hq
    have hr := R.2.1
    obtain ⟨q, eq⟩ : ∃ q, h.1 = q := ⟨_, rfl⟩
    rw [eq] at hr ⊢
    subst e1
    have hqM : M + 54 ≤ q := by omega
    have R1 : Rf E h0 (nA E h 0 5) M A f := R.ot (q := q) (Nat.le_succ _) (fun b hb => by simp [nA, eq, hb]) hqM hr
    have a1 : (nA E h 0 5).2 q = some (.inl (eA E 0, 5, .inl (fun _ => 0))) := by simp [nA, eq]
    have st : ∀ (h1 : Hp) (F : Nat → Int32) (i x : Int32), Rf E h0 h1 M A f → h1.2 q = some (.inl (eA E 0, 5, .inl F)) → Rf E h0 (sA h1 q i x) M A f ∧ (sA h1 q i x).2 q = some (.inl (eA E 0, 5, .inl (upd F i.toNatClampNeg x))) := fun h1 F i x R1 a1 =>
      ⟨R1.ot (q := q) (Nat.le_refl _) (fun b hb => by simp [sA, hb]) hqM hr, sA_of a1⟩
    refine ⟨⟨_, _, a1, vpd rfl⟩, fun h2 e2 => ?_⟩
    subst e2
    obtain ⟨R2, a2⟩ := st _ _ 0 a R1 a1
    refine ⟨⟨_, _, a2, vpd rfl⟩, fun h3 e3 => ?_⟩
    subst e3
    obtain ⟨R3, a3⟩ := st _ _ 1 b R2 a2
    refine ⟨⟨_, _, a3, vpd rfl⟩, fun h4 e4 => ?_⟩
    subst e4
    obtain ⟨R4, a4⟩ := st _ _ 2 c R3 a3
    refine ⟨⟨_, _, a4, vpd rfl⟩, fun h5 e5 => ?_⟩
    subst e5
    obtain ⟨R5, a5⟩ := st _ _ 3 c4 R4 a4
    refine ⟨⟨_, _, a5, vpd rfl⟩, fun h6 e6 => ?_⟩
    subst e6
    obtain ⟨R6, a6⟩ := st _ _ 4 e R5 a5
    obtain ⟨F, eF⟩ : ∃ F, upd (upd (upd (upd (upd (fun _ => 0) (0 : Int32).toNatClampNeg a) (1 : Int32).toNatClampNeg b) (2 : Int32).toNatClampNeg c) (3 : Int32).toNatClampNeg c4) (4 : Int32).toNatClampNeg e = F := ⟨_, rfl⟩
    have hF : ∀ i, i < 5 → F i = fdX a b c c4 e i := fun i hi => by
      have : i = 0 ∨ i = 1 ∨ i = 2 ∨ i = 3 ∨ i = 4 := by omega
      rw [← eF]
      rcases this with rfl | rfl | rfl | rfl | rfl <;> rfl
    rw [eF] at a6
    refine lp_up (K := fun k => ∀ h' A' f', Rf E h0 h' M A' f' → h'.2 q = some (.inl (eA E 0, 5, .inl F)) → (∀ j, j ≠ 1 → A' j = A j) → (∀ x, x ≠ 1 → f' x = f x) → f' 1 = nI (sL s + k) → (∀ i, i < sL s → A' 1 i = A 1 i) → (∀ i, i < k → A' 1 (sL s + i) = F i) → K95 M (nI j) q (nI k) h') j (fun k hk ih h' A' f' R' a' m1 m2 m3 m4 m5 => ?_) (fun h' A' f' R' a' m1 m2 m3 m4 m5 => ?_) 0 (Nat.zero_le _) _ A f R6 a6 (fun _ _ => rfl) (fun _ _ => rfl) t1 (fun _ _ => rfl) (fun i hi => absurd hi (Nat.not_lt_zero _))
    · refine k95 _ _ _ _ _ ?_
      have gk : gA h' q (nI k) = F k := by rw [gA_of a', n_cl]
      simp only [vcX8_feed_95, R'.fs, true_and, m3, nI_leI (show j < 2 ^ 31 by omega) (show k < 2 ^ 31 by omega), gk, R'.oR 1 _ rfl rfl (vpn (n := 40) (show sL s + k < 40 by omega))]
      refine ⟨hcm, fun q => absurd q (by omega), fun _ => ⟨⟨_, _, a', vpn (by omega)⟩, fun h1 e1 => ?_⟩⟩
      subst e1
      have R1 := R'.st (j := 1) (nI (sL s + k)) (F k) rfl
      rw [n_cl (n := sL s + k)] at R1
      have a1 : (sA h' (M + 1) (nI (sL s + k)) (F k)).2 q = some (.inl (eA E 0, 5, .inl F)) := by
        have : q ≠ M + 1 := by omega
        simp [sA, this, a']
      simp only [R1.fs, true_and, m3, nI_1]
      intro h2 e2
      subst e2
      have R2 := R1.put (k := 1) (x := nI (sL s + k + 1)) rfl
      have a2 : (pF (sA h' (M + 1) (nI (sL s + k)) (F k)) M 1 (.int (nI (sL s + k + 1)))).2 q = some (.inl (eA E 0, 5, .inl F)) := by
        have : q ≠ M := by omega
        simp only [pF, this, if_false]; exact a1
      refine ih _ _ _ R2 a2 (fun j' hj' => funext fun i => (up2o (by omega)).trans (congrFun (m1 j' hj') i)) (fun x hx => by rw [← m2 x hx]; simp [upd, hx]) rfl (fun i hi => (up2o (by omega)).trans (m4 i hi)) (fun i hi => ?_)
      by_cases ck : i = k
      · subst ck; exact up2s _ _ _ _
      · exact (up2o (by omega)).trans (m5 i (by omega))
    · refine k95 _ _ _ _ _ ?_
      simp only [vcX8_feed_95, R'.fs, true_and, m3]
      refine ⟨hcm, fun _ => hq h' A' f' R' ?_, fun q => absurd (nI_le (Nat.le_refl _) (by omega)) q⟩
      have bys : ∀ i, i < 5 → F i = nI (fdX a b c c4 e i).toNatClampNeg ∧ (fdX a b c c4 e i).toNatClampNeg < 128 := fun i hi => by
        rw [hF i hi]
        have : i = 0 ∨ i = 1 ∨ i = 2 ∨ i = 3 ∨ i = 4 := by omega
        rcases this with rfl | rfl | rfl | rfl | rfl
        · exact byB_in q2
        · exact byB_in q3
        · exact byB_in q4
        · exact byB_in q5
        · exact byB_in q6
      have FSm : FS A A' ∨ True := Or.inr trivial
      obtain ⟨s1, s2, s3, s4⟩ := S
      refine ⟨⟨m3, hLj, fun i hi => ?_⟩, ?_, ?_, ?_⟩
      · show A' 1 i = nI (if i < sL s then sB s i else (fdX a b c c4 e (i - sL s)).toNatClampNeg) ∧ (if i < sL s then sB s i else (fdX a b c c4 e (i - sL s)).toNatClampNeg) < 128
        by_cases ci : i < sL s
        · rw [if_pos ci, m4 i ci]; exact t3 i ci
        · rw [if_neg ci]
          have hi : i < sL s + j := hi
          have := m5 (i - sL s) (by omega)
          rw [show sL s + (i - sL s) = i by omega] at this
          rw [this]
          exact bys _ (by omega)
      · show RGo A' f' (sG s)
        cases hg : sG s with
        | none => rw [hg] at s2; exact (m2 7 (by omega)).trans s2
        | some g =>
          rw [hg] at s2
          have G2 : RG A' f g := s2.2.of (fun j' o => m1 j' (by omega))
          exact ⟨(m2 7 (by omega)).trans s2.1, G2.1, G2.2.1, G2.2.2.1, (m2 20 (by omega)).trans G2.2.2.2.1, G2.2.2.2.2⟩
      · show RPl A' 49 51 (f' 23) (sG s) (sP s)
        rw [m2 23 (by omega)]
        exact s3.of (m1 49 (by omega)) (m1 51 (by omega))
      · exact s4.t3 (m1 4 (by omega)) (m1 50 (by omega)) (m1 52 (by omega)) (m2 30 (by omega)) (m2 31 (by omega)) (m2 24 (by omega))
  · rw [if_neg c1] at hq
    exact hq h A f R S
end
