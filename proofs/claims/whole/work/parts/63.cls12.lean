def uPo (P : Nat → Nat) (go : Option Nat) (t : Nat) : Nat → Nat := match go with
  | none => P
  | some q => uP P q t
section
variable {E : Wd} {h : Hp} {p r c s o : Nat} {g : Gm} {d : Nat} {P : Nat → Nat}
theorem c_putO {Q : Hp → Prop} {go : Option Nat} {t : Nat} (K : Kp E h p r c g P s o) (hg : ∀ q, go = some q → q < 3) (ht : t ≤ sq g) (hq : ∀ h', Kp E h' p r c g (uPo P go t) s o → Fr2 h h' p → Q h') : OkV E YX1_put d [.ref p, .int (lxI go), .int (nI t)] h Q := by
  cases go with
  | none => exact c_putN (hq h K ⟨rfl, fun _ _ _ => rfl⟩)
  | some q => exact c_put K (hg q rfl) ht hq
theorem c_after {Q : Int32 → Hp → Prop} {m t : Nat} (K : Kp E h p r c g P s (ocF g P (qn g))) (w : qF g) (hs : s < 2) (hC : posC g P) (hchk : chk g P (1 - s) = false) (hm : m < qn g) (hme : iof g m s = true) (hPm : P m < sq g) (ht : t < sq g)
    (hq : ∀ h', Kp E h' p r c g P s (ocF g P (qn g)) → Fr2 h h' p → Q (match mvT g P s m t with | none => -1 | some v => nI v.2.2.2) h') : OkI E YX1_after (d + 2) [.ref p, .int (nI m), .int (nI t)] h Q := by
  refine rnX1_after ?_
  have hn : qn g ≤ 3 := w.2.2.2.2.2.2.1
  have hsq := w.sq_lt
  have ho4 := ocF_lt w P (qn g)
  have hFr : Fr2 h h p := ⟨rfl, fun _ _ _ => rfl⟩
  have no : mvT g P s m t = none → Q (-1) h := fun e => by
    have := hq h K hFr
    rw [e] at this; exact this
  have hmt : mvT g P s m t = if (canGo g P s m t && rch g m (P m) t (occ g P) (mat g P t).isSome && !chk g (gone g P m t) s) = true then some (m, t, mat g P t, ixo g (gone g P m t) (1 - s)) else none := rfl
  have hsome := full_mat (g := g) (P := P) ht
  obtain ⟨cap, ecap⟩ : ∃ cap, (mat g P t).isSome = cap := ⟨_, rfl⟩
  have hmatlt : ∀ q, mat g P t = some q → q < qn g ∧ P q = t := fun q e => matN_lt P t _ q e
  -- a free way is what the moves ask
  have hfree : wfr g m (P m) t (ocF g P (qn g)) cap = false → mvT g P s m t = none := fun e => by
    rw [hmt]
    refine if_neg (fun z => ?_)
    simp only [Bool.and_eq_true] at z
    have z1 := z.1.1
    have z2 := z.1.2
    unfold canGo at z1
    simp only [Bool.and_eq_true, Bool.not_eq_true', beq_eq_false_iff_ne] at z1
    rw [wfr_rch w hm hPm ht (fun q => z1.1.2 q.symm) z1.1.1, ← ecap, z2] at e
    cases e
  have hfree2 : wfr g m (P m) t (ocF g P (qn g)) cap = true → P m ≠ t ∧ (qo g).testBit t = false ∧ rch g m (P m) t (occ g P) (mat g P t).isSome = true := fun e => by
    have e0 := e
    unfold wfr wyB at e
    simp only [Bool.and_eq_true, decide_eq_true_eq, Bool.not_eq_true'] at e
    have a1 : P m ≠ t := e.1.2.1.1.1
    have a2 : (qo g).testBit t = false := e.1.2.1.1.2
    refine ⟨a1, a2, ?_⟩
    rw [← wfr_rch w hm hPm ht a1 a2, ecap]; exact e0
  -- the move is made and looked at
  have L94 : P m ≠ t → (qo g).testBit t = false → rch g m (P m) t (occ g P) (mat g P t).isSome = true → (∀ q, mat g P t = some q → iof g q s = false) → vcX1_after_94 E (d + 1) p (nI m) (nI t) (nI (P m)) (lxI (mat g P t)) h Q := fun a1 a2 a3 a4 => by
    have hgo : canGo g P s m t = true := by
      unfold canGo
      rw [a2, show (t == P m) = false from beq_eq_false_iff_ne.mpr (fun e => a1 e.symm)]
      cases e : mat g P t with
      | none => rfl
      | some q => simp [a4 q e]
    obtain ⟨gC, g1, g2⟩ := gone_pos w (by omega) hC hchk hm ht hme hPm hgo a3
    have hoc := ocF_gone w hC hm ht hPm (fun e => a1 e.symm) g2 (fun q e => ⟨(g1 q e).2.2.1, (g1 q e).1⟩)
    simp only [vcX1_after_94, K.fs, true_and]
    intro h1 e1
    rw [n_shl _ (by omega), n_shl _ (by omega), nx_m1, nx_xor, nx_and, nx_or, hoc] at e1
    subst e1
    obtain ⟨K1, F1⟩ := K.pf s (ocF g (gone g P m t) (qn g)) 4 (nI (ocF g (gone g P m t) (qn g))) rfl
    have hq3 : ∀ q, mat g P t = some q → q < 3 := fun q e => by have := (hmatlt q e).1; omega
    have L180 : ∀ h4 v, Kp E h4 p r c g (gone g P m t) s (ocF g (gone g P m t) (qn g)) → Fr2 h h4 p → v = (match mvT g P s m t with | none => -1 | some v => nI v.2.2.2) → vcX1_after_180 E (d + 1) p (nI m) (nI t) (nI (P m)) (lxI (mat g P t)) (nI (ocF g P (qn g))) v h4 Q := fun h4 v K4 F4 ev => by
      rw [vcX1_after_180]
      refine ⟨⟨_, K4.2.2.1⟩, c_put K4 (by omega) (by omega) (fun h5 K5 F5 => ⟨⟨_, K5.2.2.1⟩, c_putO K5 hq3 (by omega) (fun h6 K6 F6 => ?_)⟩)⟩
      simp only [K6.fs, true_and]
      intro h7 e7
      subst e7
      obtain ⟨K7, F7⟩ := K6.pf s (ocF g P (qn g)) 4 (nI (ocF g P (qn g))) rfl
      rw [ev]
      refine hq _ (K7.cg (fun i hi => ?_)) (((F4.tr F5).tr F6).tr F7)
      cases e : mat g P t with
      | none =>
        show P i = uP (gone g P m t) m (P m) i
        unfold gone
        rw [e]
        show P i = uP (uP P m t) m (P m) i
        unfold uP
        by_cases ei : i = m
        · rw [if_pos ei, ei]
        · rw [if_neg ei]; exact (if_neg ei).symm
      | some q =>
        show P i = uP (uP (gone g P m t) m (P m)) q t i
        have hPq := (hmatlt q e).2
        unfold gone
        rw [e]
        show P i = uP (uP (uP (uP P m t) q (sq g)) m (P m)) q t i
        unfold uP
        by_cases eq : i = q
        · rw [if_pos eq, eq, hPq]
        · rw [if_neg eq]
          by_cases ei : i = m
          · rw [if_pos ei, ei]
          · rw [if_neg ei, if_neg eq, if_neg ei]
    refine ⟨⟨_, K1.2.2.1⟩, c_put K1 (by omega) (by omega) (fun h2 K2 F2 => ?_)⟩
    simp only [K2.fs, true_and, K2.1.fs]
    refine c_putO K2 hq3 (Nat.le_refl _) (fun h3 K3 F3 => ?_)
    have K3 : Kp E h3 p r c g (gone g P m t) s (ocF g (gone g P m t) (qn g)) := K3
    have F13 := (F1.tr F2).tr F3
    simp only [K3.fs, true_and]
    refine c_isAttacked K3 w hs gC rfl (bI_c (fun q => ?_) (fun q => ?_))
    · simp only [K3.fs, true_and]
      refine c_placeOf (m := 0) K3 (by omega) ⟨⟨_, K3.2.2.1⟩, c_placeOf (m := 1) K3 (by omega) ⟨⟨_, K3.2.2.1⟩, c_placeOf (m := 2) K3 (by omega) ?_⟩⟩
      simp only [K3.fs, true_and]
      rw [show (1 : Int32) - nI s = nI (1 - s) from n_sub (show s ≤ 1 by omega)]
      have pz : ∀ k, k < 3 → (if 0 ≤ nI (gone g P m t k) then nI (gone g P m t k) else nI (sq g)) = nI (gone g P m t k) := fun k hk => if_pos (nI_pos' (by have := K3.2.2.2.2.1 k hk; omega))
      refine ⟨⟨_, K3.1.1⟩, c_indexOf K3.1 (pz 0 (by omega)) (pz 1 (by omega)) (pz 2 (by omega)) (L180 h3 _ K3 F13 ?_)⟩
      rw [hmt, if_pos (by rw [hgo, a3, q]; rfl)]
    · refine L180 h3 _ K3 F13 ?_
      rw [hmt, if_neg (by rw [hgo, a3, q]; decide)]
  have L22 : ∀ cap', cap' = cap → vcX1_after_22 E (d + 1) p (nI m) (nI t) (nI (P m)) (bI cap') h Q := by
    rintro cap' rfl
    simp only [vcX1_after_22, K.fs, true_and]
    refine ⟨⟨_, K.2.1.1⟩, c_wayOf K.2.1 w (by omega) (by omega) (by omega) ?_⟩
    obtain ⟨f1, f2⟩ := wfr_c w (m := m) (f := P m) (t := t) (cap := cap') ho4
    refine ⟨fun q => no (hfree (f1 q)), fun q => ?_⟩
    simp only [K.fs, true_and, f2 q]
    refine ⟨fun q2 => ?_, fun q2 => no (hfree (by simpa using q2))⟩
    obtain ⟨a1, a2, a3⟩ := hfree2 q2
    refine bI_c (fun q3 => ?_) (fun q3 => ?_)
    · have e : mat g P t = none := by
        cases e : mat g P t with
        | none => rfl
        | some q => rw [e, q3] at ecap; cases ecap
      have := L94 a1 a2 a3 (fun q z => by rw [e] at z; cases z)
      rw [e] at this
      exact ⟨fun _ => this, fun z => absurd (by decide) z⟩
    · obtain ⟨v, e⟩ : ∃ v, mat g P t = some v := Option.isSome_iff_exists.mp (by rw [ecap]; exact q3)
      have hv := hmatlt v e
      refine c_manOn K w (by omega) ?_
      rw [mat_mn hC ht]
      rw [e] at L94 ⊢
      refine ⟨fun z => absurd z (nI_pos (by omega)), fun _ => ?_⟩
      simp only [K.fs, true_and]
      refine ⟨⟨_, K.1.1⟩, c_sideOf K.1 w (by omega) ?_⟩
      simp only [K.fs, true_and]
      have hsd : (if v < qb g then 0 else 1) = s ↔ iof g v s = true := by
        unfold iof
        have : s = 0 ∨ s = 1 := by omega
        by_cases c1 : v < qb g <;> rcases this with rfl | rfl <;> simp [c1]
      rw [nI_eq (by split <;> omega) (by omega), hsd]
      refine ⟨fun z => L94 a1 a2 (by rw [← e]; exact a3) (fun q z2 => by cases z2; simpa using z), fun z => no ?_⟩
      rw [hmt]
      refine if_neg (fun y => ?_)
      simp only [Bool.and_eq_true] at y
      have y1 := y.1.1
      unfold canGo at y1
      rw [e] at y1
      simp [z] at y1
  refine ⟨⟨_, K.2.2.1⟩, c_placeOf K (by omega) ?_⟩
  simp only [K.fs, true_and]
  rw [n_has0 (by omega) (by omega), hsome, ecap]
  refine ⟨fun q => L22 false q.symm, fun q => L22 true ?_⟩
  cases cap with
  | false => exact absurd rfl q
  | true => rfl
end
