section
variable {E : Wd} {h hb : Hp} {r : Nat} {g : Gm} {d : Nat}
theorem c_posInit {Q : Hp → Prop} {mc ms : Nat} (K : Kr E hb r g) (w : qF g) (hr : r + 3 ≤ hb.1) (hcm : 4 ≤ mc ∧ 869 ≤ ms) (hq : ∀ h', Kp E h' hb.1 r (hb.1 + 2) g (fun _ => 0) 0 0 → h'.1 = hb.1 + 5 → (∀ a, a < hb.1 → h'.2 a = hb.2 a) → Q h') : OkW E YX1_init (d + 4) mc ms [.ref hb.1, .ref r] (nO hb 1 [.null, .null, .null, .int 0, .int 0]) Q := by
  refine rnX1_init ?_
  refine ⟨⟨by omega, by omega⟩, fun h1 e1 => ?_⟩
  have a1 : h1.1 = hb.1 + 2 ∧ h1.2 (hb.1 + 1) = some (.inl (eA E 0, 3, .inl (fun _ => 0))) ∧ h1.2 hb.1 = some (.inr (1, [.null, .null, .null, .int 0, .int 0])) ∧ ∀ a, a < hb.1 → h1.2 a = hb.2 a := by
    rw [e1]
    refine ⟨rfl, by simp [nA, nO], by simp [nA, nO], fun a ha => ?_⟩
    have q1 : a ≠ hb.1 + 1 := by omega
    have q2 : a ≠ hb.1 := by omega
    simp [nA, nO, q1, q2]
  clear e1
  obtain ⟨a2, a3, a4, a5⟩ := a1
  refine ⟨⟨_, a4, by decide⟩, fun h3 e3 => ?_⟩
  have b1 : h3.1 = hb.1 + 2 ∧ h3.2 (hb.1 + 1) = some (.inl (eA E 0, 3, .inl (fun _ => 0))) ∧ h3.2 hb.1 = some (.inr (1, [.null, .null, .ref (hb.1 + 1), .int 0, .int 0])) ∧ ∀ a, a < hb.1 → h3.2 a = hb.2 a := by
    rw [e3]
    refine ⟨a2, by simp [pF, a3], by simp [pF, a4, nO], fun a ha => ?_⟩
    have q2 : a ≠ hb.1 := by omega
    simp [pF, q2, a5 a ha]
  clear e3
  obtain ⟨b2, b3, b4, b5⟩ := b1
  refine ⟨⟨_, b4, by simp⟩, fun h4 e4 => ?_⟩
  have d1 : h4.1 = hb.1 + 2 ∧ h4.2 (hb.1 + 1) = some (.inl (eA E 0, 3, .inl (fun _ => 0))) ∧ h4.2 hb.1 = some (.inr (1, [.ref r, .null, .ref (hb.1 + 1), .int 0, .int 0])) ∧ ∀ a, a < hb.1 → h4.2 a = hb.2 a := by
    rw [e4]
    refine ⟨b2, by simp [pF, b3], by simp [pF, b4], fun a ha => ?_⟩
    have q2 : a ≠ hb.1 := by omega
    simp [pF, q2, b5 a ha]
  clear e4
  obtain ⟨d2, d3, d4, d5⟩ := d1
  refine ⟨⟨by omega, by omega⟩, fun h5 e5 => ?_⟩
  subst e5
  have K4 : Kr E h4 r g := K.of (fun j hj => d5 _ (by omega))
  refine ⟨2, 864, ⟨by omega, by omega⟩, c_reachInit (hb := h4) K4 w (by omega) ⟨Nat.le_refl _, Nat.le_refl _⟩ (fun h7 C7 s7 u7 => ?_)⟩
  rw [d2] at C7 s7 u7 ⊢
  have e0 : h7.2 hb.1 = some (.inr (1, [.ref r, .null, .ref (hb.1 + 1), .int 0, .int 0])) := by rw [u7 _ (by omega)]; exact d4
  refine ⟨⟨_, e0, by simp⟩, fun h8 e8 => ?_⟩
  subst e8
  have fr : ∀ a, a ≠ hb.1 → (pF h7 hb.1 1 (.ref (hb.1 + 2))).2 a = h7.2 a := fun a ha => by simp [pF, ha]
  refine hq _ ⟨K.of (fun j hj => by rw [fr _ (by omega), u7 _ (by omega)]; exact d5 _ (by omega)), C7.of (fun j hj => fr _ (by omega)), by simp [pF, e0, kpf, nI_0], ⟨fun _ => 0, by rw [fr _ (by omega), u7 _ (by omega)]; exact d3, fun m hm => rfl⟩, fun m hm => Nat.zero_le _, by omega, by omega⟩ (by show h7.1 = _; omega) (fun a ha => by rw [fr _ (by omega), u7 _ (by omega)]; exact d5 a ha)
end
