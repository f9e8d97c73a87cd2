section
variable {g : Gm} {mA mC mB sA : Nat}
theorem fre_lt {p : Nat} (h : fre g p = true) : p < sq g := by unfold fre at h; simp at h; exact h.1
theorem fre_sq : fre g (sq g) = false := by unfold fre; rw [decide_eq_false (Nat.lt_irrefl _)]; rfl
theorem lv_c {c f : Nat} (hc : c < sq g) : lv g c f = (fre g c && (fre g f && !(f == c))) := by
  unfold lv
  rw [beq_eq_false_iff_ne.mpr (show c ≠ sq g by omega), Bool.false_or, show (c == f) = (f == c) from Bool.beq_comm]
  cases fre g f <;> cases fre g c <;> rfl
theorem lv_s (f : Nat) : lv g (sq g) f = fre g f := by unfold lv; simp
theorem lvN {c : Nat} (hc : c < sq g) : sm (sq g + 1) (fun f => (lv g c f).toNat) = (fre g c).toNat * (Nq g - 1) := by
  have e : sm (sq g + 1) (fun f => (lv g c f).toNat) = sm (sq g) (fun f => (fre g c && (fre g f && !(f == c))).toNat) := by
    rw [sm, lv_c hc, fre_sq]
    have z : (fre g c && (false && !(sq g == c))).toNat = 0 := by simp
    rw [z, Nat.add_zero]
    exact sm_congr fun f _ => by rw [lv_c hc]
  rw [e]
  cases h : fre g c with
  | false =>
    have z : sm (sq g) (fun f => (false && (fre g f && !(f == c))).toNat) = 0 := sm_0 fun _ _ => rfl
    rw [z]; exact (Nat.zero_mul _).symm
  | true =>
    have := cnt_ne hc h
    have e2 : sm (sq g) (fun f => (true && (fre g f && !(f == c))).toNat) = cnt (sq g) (fun i => fre g i && !(i == c)) := sm_congr fun _ _ => by rw [Bool.true_and]
    rw [e2]
    unfold Nq
    show _ = 1 * _
    omega
theorem lvS : sm (sq g + 1) (fun f => (lv g (sq g) f).toNat) = Nq g := by
  rw [sm, lv_s, fre_sq]
  exact sm_congr fun f _ => by rw [lv_s]
theorem Mq_c {c f : Nat} (hc : c < sq g) (h : lv g c f = true) : Mq g f c + 2 = Nq g := by
  rw [lv_c hc] at h
  simp only [Bool.and_eq_true, Bool.not_eq_true'] at h
  obtain ⟨h1, h2, h3⟩ := h
  have e1 := cnt_ne (fre_lt h2) h2
  have e2 := cnt_ne (p := fun i => fre g i && !(i == f)) hc (by rw [h1, show (c == f) = (f == c) from Bool.beq_comm, h3]; rfl)
  unfold Mq Nq Vq
  omega
theorem Mq_s {f : Nat} (h : lv g (sq g) f = true) : Mq g f (sq g) + 1 = Nq g := by
  rw [lv_s] at h
  have e1 := cnt_ne (fre_lt h) h
  have e2 : Mq g f (sq g) = cnt (sq g) (fun i => fre g i && !(i == f)) := sm_congr fun i hi => by
    unfold Vq
    rw [beq_eq_false_iff_ne.mpr (show i ≠ sq g by omega)]; simp
  unfold Nq
  omega
theorem tri {L F : Nat → Nat → Nat} {K1 K2 : Nat} (h : ∀ c f, L c f ≤ (lv g c f).toNat * F c f) (h1 : ∀ c f, c < sq g → lv g c f = true → F c f ≤ K1) (h2 : ∀ f, lv g (sq g) f = true → F (sq g) f ≤ K2) : sm (sq g + 1) (fun c => sm (sq g + 1) (fun f => L c f)) ≤ Nq g * ((Nq g - 1) * K1) + Nq g * K2 := by
  rw [sm]
  refine Nat.add_le_add ?_ ?_
  · have k1 : sm (sq g) (fun c => sm (sq g + 1) (fun f => L c f)) ≤ sm (sq g) (fun c => (fre g c).toNat * ((Nq g - 1) * K1)) := sm_le fun c hc => by
      have : sm (sq g + 1) (fun f => L c f) ≤ sm (sq g + 1) (fun f => (lv g c f).toNat * K1) := sm_le fun f _ => by
        refine Nat.le_trans (h c f) ?_
        cases e : lv g c f with
        | false => rw [Bool.toNat_false, Nat.zero_mul, Nat.zero_mul]; exact Nat.le_refl _
        | true => exact Nat.mul_le_mul_left _ (h1 c f hc e)
      rw [sm_mul, lvN hc, Nat.mul_assoc] at this
      exact this
    rw [sm_mul] at k1
    exact k1
  · have : sm (sq g + 1) (fun f => L (sq g) f) ≤ sm (sq g + 1) (fun f => (lv g (sq g) f).toNat * K2) := sm_le fun f _ => by
      refine Nat.le_trans (h (sq g) f) ?_
      cases e : lv g (sq g) f with
      | false => rw [Bool.toNat_false, Nat.zero_mul, Nat.zero_mul]; exact Nat.le_refl _
      | true => exact Nat.mul_le_mul_left _ (h2 f e)
    rw [sm_mul, lvS] at this
    exact this
theorem triC {L F : Nat → Nat → Nat} {K1 : Nat} (h : ∀ c f, L c f ≤ (fre g f && (fre g c && !(c == f))).toNat * F c f) (h1 : ∀ c f, c < sq g → lv g c f = true → F c f ≤ K1) : sm (sq g + 1) (fun c => sm (sq g + 1) (fun f => L c f)) ≤ Nq g * ((Nq g - 1) * K1) := by
  have := tri (g := g) (L := L) (F := fun c f => if c < sq g then F c f else 0) (K1 := K1) (K2 := 0) (fun c f => by
    refine Nat.le_trans (h c f) ?_
    cases e : fre g c with
    | false => simp
    | true =>
      have hc := fre_lt e
      show _ ≤ (lv g c f).toNat * (if c < sq g then F c f else 0)
      rw [if_pos hc, lv_c hc, e, show (c == f) = (f == c) from Bool.beq_comm]
      cases fre g f <;> cases (f == c) <;> simp) (fun c f hc e => by show (if c < sq g then F c f else 0) ≤ K1; rw [if_pos hc]; exact h1 c f hc e) (fun f _ => by show (if sq g < sq g then F (sq g) f else 0) ≤ 0; rw [if_neg (Nat.lt_irrefl _)]; exact Nat.le_refl _)
  omega
theorem dq_M (g : Gm) (m c f : Nat) : dq g m c f ≤ Mq g f c := cnt_le fun _ _ h => Qf_V h
theorem tbl10 : ∀ M, M < 10 → ∀ d, d < 10 → d * (M - d) ≤ 20 ∧ (M ≤ 8 → d * (M - d) ≤ 16 ∧ (d + 1) * (M - d) ≤ 20) := by decide +kernel
theorem bnd_10 (w : qF g) (R : Ro g mA mC mB sA) (hp : (mA = 0 ∧ mC = 1 ∧ mB = 2) ∨ (mA = 1 ∧ mC = 2 ∧ mB = 0)) (hN : Nq g ≤ 10) : bnd g := by
  have h := tot_le w R hp
  have q1 : ∀ m c f, c < sq g → lv g c f = true → lnq g m c f ≤ 16 := fun m c f hc e => by
    have h1 := Mq_c hc e
    have h2 := dq_M g m c f
    unfold lnq
    split
    · exact ((tbl10 (Mq g f c) (by omega) (dq g m c f) (by omega)).2 (by omega)).1
    · omega
  have q2 : ∀ m f, lv g (sq g) f = true → lnq g m (sq g) f ≤ 20 := fun m f e => by
    have h1 := Mq_s e
    have h2 := dq_M g m (sq g) f
    unfold lnq
    split
    · exact (tbl10 (Mq g f (sq g)) (by omega) (dq g m (sq g) f) (by omega)).1
    · omega
  have q3 : ∀ m c f, c < sq g → lv g c f = true → lnB g m c f ≤ 20 := fun m c f hc e => by
    have h1 := Mq_c hc e
    have h2 := dq_M g m c f
    have h3 : eqB g m c f ≤ 1 := Bool.toNat_le _
    unfold lnB
    split
    · refine Nat.le_trans (Nat.mul_le_mul_right _ (Nat.add_le_add_left h3 _)) ?_
      exact ((tbl10 (Mq g f c) (by omega) (dq g m c f) (by omega)).2 (by omega)).2
    · omega
  have q4 : ∀ m f, lv g (sq g) f = true → lnB g m (sq g) f ≤ 20 := fun m f e => by
    have h1 := Mq_s e
    have h2 := dq_M g m (sq g) f
    have h3 : eqB g m (sq g) f = 0 := by unfold eqB; rw [decide_eq_false (Nat.lt_irrefl _)]; rfl
    unfold lnB
    rw [h3]
    split
    · exact (tbl10 (Mq g f (sq g)) (by omega) (dq g m (sq g) f) (by omega)).1
    · omega
  have tA := tri (g := g) (L := fun c a => LA g mA mC mB c a) (F := lnq g mA) (fun c a => LA_le w c a) (q1 mA) (q2 mA)
  have tC := triC (g := g) (L := fun a c => LC g mC mB a c) (F := lnq g mC) (fun a c => LC_le w a c) (q1 mC)
  have tB := tri (g := g) (L := fun c b => LB g mA mB c b) (F := lnB g mB) (fun c b => LB_le w c b) (q3 mB) (q4 mB)
  have n1 : Nq g * ((Nq g - 1) * 16) ≤ 10 * (9 * 16) := Nat.mul_le_mul hN (Nat.mul_le_mul_right _ (by omega))
  have n2 : Nq g * ((Nq g - 1) * 20) ≤ 10 * (9 * 20) := Nat.mul_le_mul hN (Nat.mul_le_mul_right _ (by omega))
  have n3 : Nq g * 20 ≤ 10 * 20 := Nat.mul_le_mul_right _ hN
  unfold bnd
  omega
/-- two men -/
theorem bnd_two (w : qF g) (h2 : qn g = 2) : bnd g := by
  unfold bnd
  rw [stN_sm]
  unfold nx
  rw [sm_two, sm_two, sm_two]
  have hsq := w.sq_lt
  have hb1 := w.2.2.2.2.2.2.2.1
  have hb2 := w.2.2.2.2.2.2.2.2.1
  have pt : ∀ i j k, i < sq g + 1 → j < sq g + 1 → k < sq g + 1 → sm 2 (fun s => if Ps g (((i * (sq g + 1) + j) * (sq g + 1) + k) * 2 + s) = true then (mvs g (((i * (sq g + 1) + j) * (sq g + 1) + k) * 2 + s)).length else 0) ≤ (decide (i < sq g)).toNat * ((decide (j < sq g)).toNat * ((true && k == sq g).toNat * 48)) := by
    intro i j k hi hj hk
    have one : ∀ s, s < 2 → (if Ps g (((i * (sq g + 1) + j) * (sq g + 1) + k) * 2 + s) = true then (mvs g (((i * (sq g + 1) + j) * (sq g + 1) + k) * 2 + s)).length else 0) ≤ (decide (i < sq g)).toNat * ((decide (j < sq g)).toNat * ((true && k == sq g).toNat * 24)) := by
      intro s hs
      have hp : ∀ m, m < 3 → PPq i j k m ≤ sq g := fun m _ => by unfold PPq; split; omega; split <;> omega
      obtain ⟨x, e1, e2, e3⟩ : ∃ x, ((i * (sq g + 1) + j) * (sq g + 1) + k) * 2 + s = x ∧ x % 2 = s ∧ ∀ m, m < 3 → plc g x m = PPq i j k m := by
        obtain ⟨h1, h2, h3⟩ := plc_ixo (g := g) (P := PPq i j k) (show s ≤ 1 by omega) hp
        exact ⟨_, rfl, h1, h3⟩
      rw [e1]
      split
      · rename_i hP
        unfold Ps at hP
        simp only [Bool.and_eq_true, poss, Bool.not_eq_true'] at hP
        have pc := (posN_iff w _).mp hP.2.1
        have c0 := pc.1 0 (by omega)
        have c1 := pc.1 1 (by omega)
        have c2 := pc.2.2.2 2 (by omega) (by omega)
        have hb : qb g = 1 := by omega
        rw [show roy g 0 = 0 from rfl, e3 0 (by omega)] at c0
        rw [show roy g 1 = qb g from rfl, hb, e3 1 (by omega)] at c1
        rw [e3 2 (by omega)] at c2
        have c0 : i < sq g := c0
        have c1 : j < sq g := c1
        have c2 : k = sq g := c2
        rw [decide_eq_true c0, decide_eq_true c1, beq_iff_eq.mpr c2]
        have := mvA_len g w (plc g x) (x % 2) (qn g)
        rw [h2] at this
        unfold mvs
        rw [h2]
        simpa using this
      · exact Nat.zero_le _
    have h0 := one 0 (by omega)
    have h1 := one 1 (by omega)
    simp only [sm]
    have e : (decide (i < sq g)).toNat * ((decide (j < sq g)).toNat * ((true && k == sq g).toNat * 48)) = (decide (i < sq g)).toNat * ((decide (j < sq g)).toNat * ((true && k == sq g).toNat * 24)) + (decide (i < sq g)).toNat * ((decide (j < sq g)).toNat * ((true && k == sq g).toNat * 24)) := by
      cases decide (i < sq g) <;> cases decide (j < sq g) <;> cases (true && k == sq g) <;> rfl
    rw [e]
    omega
  have s1 := sm_le (n := sq g + 1) (fun i hi => sm_le (n := sq g + 1) (fun j hj => sm_le (n := sq g + 1) (fun k hk => pt i j k hi hj hk)))
  refine Nat.le_trans s1 ?_
  have k1 : sm (sq g + 1) (fun k => (true && k == sq g).toNat) = 1 := cnt_one (p := fun _ => true) (Nat.lt_succ_self _)
  have k2 : ∀ n, sm (n + 1) (fun i => (decide (i < n)).toNat) = n := fun n => by
    rw [sm, decide_eq_false (Nat.lt_irrefl _)]
    have : sm n (fun i => (decide (i < n)).toNat) = sm n (fun _ => 1) := sm_congr fun i hi => by rw [decide_eq_true hi]; rfl
    rw [this, sm_const]
    simp
  have e : sm (sq g + 1) (fun i => sm (sq g + 1) (fun j => sm (sq g + 1) (fun k => (decide (i < sq g)).toNat * ((decide (j < sq g)).toNat * ((true && k == sq g).toNat * 48))))) = sq g * (sq g * 48) := by
    have a1 : ∀ i j, sm (sq g + 1) (fun k => (decide (i < sq g)).toNat * ((decide (j < sq g)).toNat * ((true && k == sq g).toNat * 48))) = (decide (i < sq g)).toNat * ((decide (j < sq g)).toNat * 48) := fun i j => by
      cases decide (i < sq g) <;> cases decide (j < sq g)
      · exact (sm_congr (g := fun _ => 0) fun k _ => by rw [Bool.toNat_false, Nat.zero_mul]).trans ((sm_zero _).trans (Nat.zero_mul _).symm)
      · exact (sm_congr (g := fun _ => 0) fun k _ => by rw [Bool.toNat_false, Nat.zero_mul]).trans ((sm_zero _).trans (Nat.zero_mul _).symm)
      · exact (sm_congr (g := fun _ => 0) fun k _ => by rw [Bool.toNat_false, Nat.zero_mul, Nat.mul_zero]).trans ((sm_zero _).trans rfl)
      · have := (sm_congr (n := sq g + 1) (f := fun k => (true).toNat * ((true).toNat * ((true && k == sq g).toNat * 48))) (g := fun k => (true && k == sq g).toNat * 48) fun k _ => by rw [Bool.toNat_true, Nat.one_mul, Nat.one_mul])
        rw [this, sm_mul, k1]
        rfl
    rw [sm_congr fun i _ => sm_congr fun j _ => a1 i j]
    have a2 : ∀ i, sm (sq g + 1) (fun j => (decide (i < sq g)).toNat * ((decide (j < sq g)).toNat * 48)) = (decide (i < sq g)).toNat * (sq g * 48) := fun i => by
      have : sm (sq g + 1) (fun j => (decide (i < sq g)).toNat * ((decide (j < sq g)).toNat * 48)) = sm (sq g + 1) (fun j => (decide (j < sq g)).toNat * ((decide (i < sq g)).toNat * 48)) := sm_congr fun j _ => Nat.mul_left_comm _ _ _
      rw [this, sm_mul, k2, Nat.mul_left_comm]
    rw [sm_congr fun i _ => a2 i, sm_mul, k2]
  rw [e]
  have := Nat.mul_le_mul hsq.1 (Nat.mul_le_mul_right 48 hsq.1)
  omega
end
