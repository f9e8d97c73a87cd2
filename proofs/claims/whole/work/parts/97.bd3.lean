section
variable {g : Gm} {mA mC mB sA : Nat}
theorem stN_sm (g : Gm) (n : Nat) : stN g n = sm n (fun x => if Ps g x = true then (mvs g x).length else 0) := by
  induction n with
  | zero => rfl
  | succ n ih => rw [stN, sm, ih]
theorem mvR_cnt (g : Gm) (P : Nat → Nat) (s m n : Nat) : (mvR g P s m n).length = cnt n (fun t => (mvT g P s m t).isSome) := by
  induction n with
  | zero => rfl
  | succ n ih =>
    rw [mvR_succ, List.length_append, ih]
    show _ = cnt n _ + ((mvT g P s m n).isSome).toNat
    cases mvT g P s m n <;> rfl
theorem mvM_le (g : Gm) (P : Nat → Nat) (s m : Nat) (k : Nat) (h : iof g m s = true → P m < sq g → cnt (sq g) (fun t => (mvT g P s m t).isSome) ≤ k) : (mvM g P s m).length ≤ k := by
  unfold mvM
  split
  · rename_i c
    simp only [Bool.and_eq_true, decide_eq_true_eq] at c
    rw [mvR_cnt]
    exact h c.1 c.2
  · exact Nat.zero_le _
theorem mvA_3 (g : Gm) (P : Nat → Nat) (s : Nat) : (mvA g P s 3).length = (mvM g P s 0).length + (mvM g P s 1).length + (mvM g P s 2).length := by
  rw [mvA_succ, mvA_succ, mvA_succ]
  simp [mvA, Nat.add_assoc]
theorem Ro.sum (R : Ro g mA mC mB sA) (f : Nat → Nat) : f 0 + f 1 + f 2 = f mA + f mC + f mB := by
  have hA := R.lA
  have hC := R.lC
  have hB := R.lB
  have h1 := R.AC
  have h2 := R.AB
  have h3 := R.CB
  rcases (show mA = 0 ∨ mA = 1 ∨ mA = 2 by omega) with rfl | rfl | rfl <;> rcases (show mC = 0 ∨ mC = 1 ∨ mC = 2 by omega) with rfl | rfl | rfl <;> rcases (show mB = 0 ∨ mB = 1 ∨ mB = 2 by omega) with rfl | rfl | rfl <;> omega
def WAq (g : Gm) (mA mC mB a c b : Nat) : Nat := cnt (sq g) (fun t => tAq g mA mC mB a c b t)
def WCq (g : Gm) (mC mB a c b : Nat) : Nat := cnt (sq g) (fun t => tCq g mC mB a c b t)
def WBq (g : Gm) (mA mB a c b : Nat) : Nat := cnt (sq g) (fun t => tBq g mA mB a c b t)
def WXq (g : Gm) (mB a c b : Nat) : Nat := (tXq g mB a c b).toNat
theorem len_A (w : qF g) (R : Ro g mA mC mB sA) {x : Nat} (hP : Ps g x = true) (hs : x % 2 = sA) (hc : ∀ m, m < 3 → plc g x m ≤ sq g) : (mvs g x).length ≤ WAq g mA mC mB (plc g x mA) (plc g x mC) (plc g x mB) + WCq g mC mB (plc g x mA) (plc g x mC) (plc g x mB) := by
  unfold Ps at hP
  simp only [Bool.and_eq_true, poss, Bool.not_eq_true'] at hP
  have pc := (posN_iff w _).mp hP.2.1
  have hk := hP.2.2
  unfold mvs
  rw [R.n3, mvA_3, R.sum (fun m => (mvM g (plc g x) (x % 2) m).length)]
  rw [hs] at hk ⊢
  have e1 := mvM_le g (plc g x) sA mA (WAq g mA mC mB (plc g x mA) (plc g x mC) (plc g x mB)) (fun _ _ => cnt_le fun t ht h => p_A w R pc (hc _ R.lC) hk ht h)
  have e2 := mvM_le g (plc g x) sA mC (WCq g mC mB (plc g x mA) (plc g x mC) (plc g x mB)) (fun _ h0 => cnt_le fun t ht h => p_C w R pc h0 hk ht h)
  have e3 := mvM_le g (plc g x) sA mB 0 (fun h _ => by rw [R.nB] at h; cases h)
  omega
theorem len_B (w : qF g) (R : Ro g mA mC mB sA) {x : Nat} (hP : Ps g x = true) (hs : x % 2 = 1 - sA) (hc : ∀ m, m < 3 → plc g x m ≤ sq g) : (mvs g x).length ≤ WBq g mA mB (plc g x mA) (plc g x mC) (plc g x mB) + WXq g mB (plc g x mA) (plc g x mC) (plc g x mB) := by
  unfold Ps at hP
  simp only [Bool.and_eq_true, poss, Bool.not_eq_true'] at hP
  have pc := (posN_iff w _).mp hP.2.1
  have hk := hP.2.2
  have s2 := R.s2
  unfold mvs
  rw [R.n3, mvA_3, R.sum (fun m => (mvM g (plc g x) (x % 2) m).length)]
  rw [hs] at hk ⊢
  rw [show 1 - (1 - sA) = sA by omega] at hk
  have e1 := mvM_le g (plc g x) (1 - sA) mA 0 (fun h _ => by rw [R.nA] at h; cases h)
  have e2 := mvM_le g (plc g x) (1 - sA) mC 0 (fun h _ => by rw [R.nC] at h; cases h)
  have e3 := mvM_le g (plc g x) (1 - sA) mB (WBq g mA mB (plc g x mA) (plc g x mC) (plc g x mB) + WXq g mB (plc g x mA) (plc g x mC) (plc g x mB)) (fun _ _ => by
    generalize hq : tXq g mB (plc g x mA) (plc g x mC) (plc g x mB) = X
    have k1 : cnt (sq g) (fun t => (mvT g (plc g x) (1 - sA) mB t).isSome) ≤ sm (sq g) (fun t => (tBq g mA mB (plc g x mA) (plc g x mC) (plc g x mB) t).toNat + ((fun _ => X) t && t == plc g x mC).toNat) := by
      refine sm_le fun t ht => ?_
      show ((mvT g (plc g x) (1 - sA) mB t).isSome).toNat ≤ (tBq g mA mB (plc g x mA) (plc g x mC) (plc g x mB) t).toNat + (X && t == plc g x mC).toNat
      cases h : (mvT g (plc g x) (1 - sA) mB t).isSome with
      | false => exact Nat.zero_le _
      | true =>
        rcases p_B w R pc (hc _ R.lC) hk ht h with o | ⟨o1, o2⟩
        · rw [o]; exact Nat.le_add_right _ _
        · rw [hq] at o2; rw [o2, beq_iff_eq.mpr o1]; exact Nat.le_add_left _ _
    rw [sm_add] at k1
    have k2 : sm (sq g) (fun t => ((fun _ => X) t && t == plc g x mC).toNat) ≤ X.toNat := by
      by_cases c : plc g x mC < sq g
      · exact Nat.le_of_eq (cnt_one (p := fun _ => X) c)
      · have z : sm (sq g) (fun t => ((fun _ => X) t && t == plc g x mC).toNat) = sm (sq g) (fun _ => 0) := sm_congr fun t ht => by
          rw [beq_eq_false_iff_ne.mpr (show t ≠ plc g x mC by omega), Bool.and_false]; rfl
        rw [z, sm_zero]; exact Nat.zero_le _
    have k3 : WXq g mB (plc g x mA) (plc g x mC) (plc g x mB) = X.toNat := by unfold WXq; rw [hq]
    have k4 : WBq g mA mB (plc g x mA) (plc g x mC) (plc g x mB) = sm (sq g) (fun t => (tBq g mA mB (plc g x mA) (plc g x mC) (plc g x mB) t).toNat) := rfl
    omega)
  omega
def PPq (i j k : Nat) : Nat → Nat := fun m => if m = 0 then i else if m = 1 then j else k
def Wq (g : Gm) (mA mC mB a c b : Nat) : Nat := (WAq g mA mC mB a c b + WCq g mC mB a c b) + (WBq g mA mB a c b + WXq g mB a c b)
theorem tot_0 (w : qF g) (R : Ro g mA mC mB sA) : stN g (nx g) ≤ sm (sq g + 1) (fun i => sm (sq g + 1) (fun j => sm (sq g + 1) (fun k => Wq g mA mC mB (PPq i j k mA) (PPq i j k mC) (PPq i j k mB)))) := by
  rw [stN_sm]
  unfold nx
  rw [sm_two, sm_two, sm_two]
  refine sm_le fun i hi => sm_le fun j hj => sm_le fun k hk => ?_
  have hp : ∀ m, m < 3 → PPq i j k m ≤ sq g := fun m _ => by unfold PPq; split; omega; split <;> omega
  have key : ∀ s, s ≤ 1 → ∃ x, ((i * (sq g + 1) + j) * (sq g + 1) + k) * 2 + s = x ∧ x % 2 = s ∧ ∀ m, m < 3 → plc g x m = PPq i j k m := fun s hs => by
    obtain ⟨h1, h2, h3⟩ := plc_ixo (g := g) (P := PPq i j k) hs hp
    exact ⟨_, rfl, h1, h3⟩
  have one : ∀ s, s ≤ 1 → s = sA → (if Ps g (((i * (sq g + 1) + j) * (sq g + 1) + k) * 2 + s) = true then (mvs g (((i * (sq g + 1) + j) * (sq g + 1) + k) * 2 + s)).length else 0) ≤ WAq g mA mC mB (PPq i j k mA) (PPq i j k mC) (PPq i j k mB) + WCq g mC mB (PPq i j k mA) (PPq i j k mC) (PPq i j k mB) := by
    intro s hs e
    obtain ⟨x, e1, e2, e3⟩ := key s hs
    rw [e1]
    split
    · rename_i h
      have := len_A w R h (e2.trans e) (fun m hm => by rw [e3 m hm]; exact hp m hm)
      rw [e3 _ R.lA, e3 _ R.lB, e3 _ R.lC] at this
      exact this
    · exact Nat.zero_le _
  have two : ∀ s, s ≤ 1 → s = 1 - sA → (if Ps g (((i * (sq g + 1) + j) * (sq g + 1) + k) * 2 + s) = true then (mvs g (((i * (sq g + 1) + j) * (sq g + 1) + k) * 2 + s)).length else 0) ≤ WBq g mA mB (PPq i j k mA) (PPq i j k mC) (PPq i j k mB) + WXq g mB (PPq i j k mA) (PPq i j k mC) (PPq i j k mB) := by
    intro s hs e
    obtain ⟨x, e1, e2, e3⟩ := key s hs
    rw [e1]
    split
    · rename_i h
      have := len_B w R h (e2.trans e) (fun m hm => by rw [e3 m hm]; exact hp m hm)
      rw [e3 _ R.lA, e3 _ R.lB, e3 _ R.lC] at this
      exact this
    · exact Nat.zero_le _
  have s2 := R.s2
  unfold Wq
  rcases (show sA = 0 ∨ sA = 1 by omega) with e | e
  · have h0 := one 0 (by omega) e.symm
    have h1 := two 1 (by omega) (by omega)
    simp only [sm]
    omega
  · have h0 := two 0 (by omega) (by omega)
    have h1 := one 1 (by omega) e.symm
    simp only [sm]
    omega
theorem tot_1 (w : qF g) (R : Ro g mA mC mB sA) (hp : (mA = 0 ∧ mC = 1 ∧ mB = 2) ∨ (mA = 1 ∧ mC = 2 ∧ mB = 0)) : stN g (nx g) ≤ sm (sq g + 1) (fun a => sm (sq g + 1) (fun c => sm (sq g + 1) (fun b => Wq g mA mC mB a c b))) := by
  have h := tot_0 w R
  rcases hp with ⟨rfl, rfl, rfl⟩ | ⟨rfl, rfl, rfl⟩
  · exact h
  · refine Nat.le_trans h (Nat.le_of_eq ?_)
    show sm (sq g + 1) (fun i => sm (sq g + 1) (fun j => sm (sq g + 1) (fun k => Wq g 1 2 0 j k i))) = _
    rw [sm_comm]
    refine sm_congr fun j _ => ?_
    rw [sm_comm]
def LA (g : Gm) (mA mC mB c a : Nat) : Nat := sm (sq g + 1) (fun b => WAq g mA mC mB a c b)
def LB (g : Gm) (mA mB c b : Nat) : Nat := sm (sq g + 1) (fun a => WBq g mA mB a c b + WXq g mB a c b)
def LC (g : Gm) (mC mB a c : Nat) : Nat := sm (sq g + 1) (fun b => WCq g mC mB a c b)
theorem tot_le (w : qF g) (R : Ro g mA mC mB sA) (hp : (mA = 0 ∧ mC = 1 ∧ mB = 2) ∨ (mA = 1 ∧ mC = 2 ∧ mB = 0)) : stN g (nx g) ≤ sm (sq g + 1) (fun c => sm (sq g + 1) (fun a => LA g mA mC mB c a)) + sm (sq g + 1) (fun a => sm (sq g + 1) (fun c => LC g mC mB a c)) + sm (sq g + 1) (fun c => sm (sq g + 1) (fun b => LB g mA mB c b)) := by
  refine Nat.le_trans (tot_1 w R hp) (Nat.le_of_eq ?_)
  have e1 : sm (sq g + 1) (fun a => sm (sq g + 1) (fun c => sm (sq g + 1) (fun b => Wq g mA mC mB a c b))) = sm (sq g + 1) (fun a => sm (sq g + 1) (fun c => LA g mA mC mB c a)) + sm (sq g + 1) (fun a => sm (sq g + 1) (fun c => LC g mC mB a c)) + sm (sq g + 1) (fun a => sm (sq g + 1) (fun c => sm (sq g + 1) (fun b => WBq g mA mB a c b + WXq g mB a c b))) := by
    rw [← sm_add, ← sm_add]
    refine sm_congr fun a _ => ?_
    rw [← sm_add, ← sm_add]
    refine sm_congr fun c _ => ?_
    unfold LA LC
    rw [← sm_add, ← sm_add]
    rfl
  rw [e1, sm_comm (sq g + 1) (sq g + 1) (fun a c => LA g mA mC mB c a), sm_comm (sq g + 1) (sq g + 1) (fun a c => sm (sq g + 1) (fun b => WBq g mA mB a c b + WXq g mB a c b))]
  congr 1
  refine sm_congr fun c _ => ?_
  rw [sm_comm]
  rfl
end
