abbrev Hp : Type := Nat × (Nat → Option va_E)
abbrev Wd : Type := Launch × va_G × (Nat → ClassId) × Nat × Heap × Nat × Nat
abbrev eL (E : Wd) : Launch := E.1
abbrev eD (E : Wd) : va_G := E.2.1
abbrev eA (E : Wd) : Nat → ClassId := E.2.2.1
abbrev eZ (E : Wd) : Nat := E.2.2.2.1
abbrev eH (E : Wd) : Heap := E.2.2.2.2.1
abbrev eS (E : Wd) : Nat := E.2.2.2.2.2.1
abbrev eV (E : Wd) : Nat := E.2.2.2.2.2.2
def zz_tys (E : Wd) : List (ClassId × FieldType) := [(eA E 0, .int), (eA E 1, .boolean), (eA E 2, .array .int)]
def zz_txt : List Int32 := [119, 102, 107, 110, 97, 114, 98, 113, 100, 112]
def zz_T (E : Wd) (U : State) : Prop :=
  vk_R "EndgameTable$Reader" 73 "wfknarbqdp" (eS E) U ∧ vk_R "EndgameTableModel" 108 "wfknarbqdp" (eS E) U ∧
  vk_S 1 [10] [zz_txt] (fun _ => eS E) (fun _ => eV E) (fun q => eZ E ≤ q) U (eH E) ∧
  va_Z "java/lang/String" "COMPACT_STRINGS" "Z" (.int 1) (fun q => eZ E ≤ q) U (eH E)
def zz_N (U : State) : Prop := (∀ own idx ref nm ds host, Cond.fieldLinkNest own idx ref nm ds host ∈ lw_tbl → va_Nw (.fieldLinkNest own idx ref nm ds host) U) ∧
  (∀ own idx y host, Cond.methodLinkNest own idx y host ∈ lw_tbl → va_Nw (.methodLinkNest own idx y host) U) ∧ (Cond.arrayOver (.array .int)).before #[] U = true
def zz_K (E : Wd) (U : State) : Prop := va_K (eD E) vwCl (zz_tys E) U ∧ zz_T E U ∧ zz_N U
def zz_R (E : Wd) (h : Hp) (H : Heap) : Prop :=
  H.size = h.1 ∧ eZ E ≤ h.1 ∧ eZ E ≤ (eH E).size ∧ (∀ a o, h.2 a = some o → eZ E ≤ a ∧ va_at (eD E) vwCl (a, o) H) ∧ ∀ q, q < eZ E → H[q]? = (eH E)[q]?
def zz_L (ls : Array Slot) (nL : Nat) (L : List (Option Value)) : Prop :=
  ls.size = nL ∧ lv_wf ls ∧ ∀ (i : Nat) (v : Value), L[i]? = some (some v) → v.category = 1 ∧ ls[i]? = some (.val v)
abbrev Mx : Type := Program × Env × Room × State × MethodId × Array Value × List Frame × Method × Code × (State → Prop)
abbrev xP (X : Mx) : Program := X.1
abbrev xE (X : Mx) : Env := X.2.1
abbrev xR (X : Mx) : Room := X.2.2.1
abbrev xS (X : Mx) : State := X.2.2.2.1
abbrev xM (X : Mx) : MethodId := X.2.2.2.2.1
abbrev xA (X : Mx) : Array Value := X.2.2.2.2.2.1
abbrev xB (X : Mx) : List Frame := X.2.2.2.2.2.2.1
abbrev xT (X : Mx) : Method := X.2.2.2.2.2.2.2.1
abbrev xC (X : Mx) : Code := X.2.2.2.2.2.2.2.2.1
abbrev xQ (X : Mx) : State → Prop := X.2.2.2.2.2.2.2.2.2
abbrev xW (E : Wd) (X : Mx) (H : Heap) (locs : List Loc) (k n pc : Nat) (ls : Array Slot) (st : List Value) : Prop :=
  W (xP X) (eL E) (xE X) (xR X) (xS X) (xM X) (xA X) (xB X) (xT X) (xC X) H locs k n (xQ X) (F0 (xM X) pc ls st)
def GG (E : Wd) (X : Mx) (nL k n pc : Nat) (L : List (Option Value)) (st : List Value) (h : Hp) : Prop :=
  ∀ (H : Heap) (locs : List Loc) (ls : Array Slot), zz_R E h H → (∀ q ∈ locs, eZ E ≤ q.base) → zz_L ls nL L → xW E X H locs k n pc ls st
def zz_P (E : Wd) (av : List Value) (h : Hp) : Array Value → State → Prop := fun a U => a = av.toArray ∧ zz_K E U ∧ zz_R E h U.heap
def zz_Q (E : Wd) (Q : Option Value → Hp → Prop) : Array Value → State → Outcome → State → Prop := fun _ _ o t => ∃ r h', o = .returned r ∧ zz_R E h' t.heap ∧ Q r h'
abbrev zz_rm (d mc ms : Nat) : Room := { frames := d, cells := mc, slots := ms, locals := 40 * d }
def Ok (E : Wd) (Y : My) (d mc ms : Nat) (av : List Value) (h : Hp) (Q : Option Value → Hp → Prop) : Prop :=
  Met (eL E) Y.1 (.code Y.1 Y.2.1 Y.2.2.1 Y.2.2.2 :: zz_W) (zz_rm d mc ms) (zz_P E av h) (zz_Q E Q) mc ms (fun q => eZ E ≤ q)
def OkI (E : Wd) (Y : My) (d : Nat) (av : List Value) (h : Hp) (Q : Int32 → Hp → Prop) : Prop := Ok E Y d 0 0 av h (fun r h' => ∃ x : Int32, r = some (.int x) ∧ Q x h')
def OkV (E : Wd) (Y : My) (d : Nat) (av : List Value) (h : Hp) (Q : Hp → Prop) : Prop := Ok E Y d 0 0 av h (fun r h' => r = none ∧ Q h')
def OkN (E : Wd) (Y : My) (d mc ms : Nat) (av : List Value) (h : Hp) (Q : Option Nat → Hp → Prop) : Prop := Ok E Y d mc ms av h (fun r h' => ∃ x : Option Nat, r = some (va_rf x) ∧ Q x h')
def OkJ (E : Wd) (Y : My) (d mc ms : Nat) (av : List Value) (h : Hp) (Q : Int32 → Hp → Prop) : Prop := Ok E Y d mc ms av h (fun r h' => ∃ x : Int32, r = some (.int x) ∧ Q x h')
def OkW (E : Wd) (Y : My) (d mc ms : Nat) (av : List Value) (h : Hp) (Q : Hp → Prop) : Prop := Ok E Y d mc ms av h (fun r h' => r = none ∧ Q h')
def zz_C (E : Wd) (X : Mx) (Y : My) (d mc ms : Nat) (Q : Option Value → Hp → Prop) : Prop :=
  (xP X).tables.exec = Jvm.exec ∧ (xC X).code = Y.2.1 ∧ (xC X).maxLocals = Y.2.2.1 ∧ (xS X).vm.findClass Y.1.cls = some (xM X).cls ∧ (∀ w ∈ zz_W, w.before (xA X) (xS X) = true) ∧ zz_K E (xS X) ∧
  xR X = zz_rm d mc ms ∧ (xT X).sig.returnType = Y.2.2.2 ∧ (xT X).locks = false ∧ (xT X).name = Y.1.name ∧ xQ X = MQ (xB X) (zz_Q E Q) (xA X) (xS X) mc ms (fun q => eZ E ≤ q)
theorem zz_N.moved {u U : State} (hW : u.WarmedH U.vm) (h : zz_N u) : zz_N U :=
  ⟨fun _ _ _ _ _ _ hw => va_Nw.warmF hW (h.1 _ _ _ _ _ _ hw), fun _ _ _ _ hw => va_Nw.warmM hW (h.2.1 _ _ _ _ hw), (show (Cond.arrayOver (.array .int)).before #[] U = (Cond.arrayOver (.array .int)).before #[] (u.setVm U.vm) from rfl).trans ((Cond.arrayOver_setVmC (args := #[]) (s := u) (vm' := U.vm) hW.alike (.array .int)).trans h.2.2)⟩
theorem zz_N.same {u U : State} (hv : U.vm = u.vm) (h : zz_N u) : zz_N U :=
  ⟨fun _ _ _ _ _ _ hw => va_Nw.same rfl hv.symm (h.1 _ _ _ _ _ _ hw), fun _ _ _ _ hw => va_Nw.same rfl hv.symm (h.2.1 _ _ _ _ hw), (show (Cond.arrayOver (.array .int)).before #[] U = (Cond.arrayOver (.array .int)).before #[] (u.setVm U.vm) from rfl).trans ((Cond.arrayOver_setVmC (args := #[]) (s := u) (vm' := U.vm) (by rw [hv]; exact Vm.Alike.refl _) (.array .int)).trans h.2.2)⟩
theorem zz_K.moved {E : Wd} {u U : State} (hW : u.WarmedH U.vm) (h : zz_K E u) : zz_K E U :=
  ⟨va_K.moved hW.alike h.1, ⟨vk_R.warm hW h.2.1.1, vk_R.warm hW h.2.1.2.1, vk_S.moved hW.alike h.2.1.2.2.1, va_Z.moved hW.alike h.2.1.2.2.2⟩, zz_N.moved hW h.2.2⟩
theorem zz_K.same {E : Wd} {u U : State} (hv : U.vm = u.vm) (h : zz_K E u) : zz_K E U :=
  ⟨va_K.moved (by rw [hv]; exact Vm.Alike.refl _) h.1, ⟨vk_R.same hv h.2.1.1, vk_R.same hv h.2.1.2.1, vk_S.moved (by rw [hv]; exact Vm.Alike.refl _) h.2.1.2.2.1, va_Z.moved (by rw [hv]; exact Vm.Alike.refl _) h.2.1.2.2.2⟩, zz_N.same hv h.2.2⟩
theorem zz_args : ∀ (vs : List Value) (i : Nat), (∀ v ∈ vs, v.category = 1) → lv_args i vs = (vs.zipIdx i).map (fun q => (q.2, q.1))
  | [], _, _ => rfl
  | v :: vs, i, h => by
    have h1 : v.category = 1 := h v List.mem_cons_self
    show (i, v) :: lv_args (if v.category = 2 then i + 2 else i + 1) vs = _
    rw [if_neg (by omega), zz_args vs (i + 1) (fun w hw => h w (List.mem_cons_of_mem _ hw))]
    rfl
theorem zz_slots (vs : List Value) (h : ∀ v ∈ vs, v.category = 1) : (lg_sl vs).length = vs.length := by
  induction vs with
  | nil => rfl
  | cons v vs ih =>
    have h1 : v.category = 1 := h v List.mem_cons_self
    have h2 : ¬ v.category = 2 := by omega
    have h3 := ih (fun w hw => h w (List.mem_cons_of_mem _ hw))
    simp only [lg_sl, List.flatMap_cons, if_neg h2] at h3 ⊢
    simp [h3]
theorem zz_entry {vs : List Value} {nL : Nat} (h : ∀ v ∈ vs, v.category = 1) (hl : vs.length ≤ nL) : zz_L ((lg_sl vs ++ List.replicate (nL - (lg_sl vs).length) Slot.unset).toArray) nL (vs.map some) := by
  obtain ⟨h1, h2, h3⟩ := lv_entry vs (n := nL) (by rw [zz_slots vs h]; exact hl)
  refine ⟨h1, h2, fun i v hi => ?_⟩
  rw [List.getElem?_map] at hi
  cases hv : vs[i]? with
  | none => rw [hv] at hi; cases hi
  | some w =>
    rw [hv] at hi
    have hw : w = v := by simpa using hi
    subst hw
    refine ⟨h w (List.mem_of_getElem? hv), h3 (i, w) ?_⟩
    rw [zz_args vs 0 h]
    refine List.mem_map.mpr ⟨(w, i), ?_, rfl⟩
    exact List.mem_of_getElem? (i := i) (by rw [List.getElem?_zipIdx, hv]; simp)
theorem zz_body {E : Wd} {Y : My} {np d mc ms : Nat} {av : List Value} {h : Hp} {Q : Option Value → Hp → Prop} (hm : zz_M Y np) (hav : ∀ v ∈ av, v.category = 1) (hlen : av.length ≤ Y.2.2.1) {L : List (Option Value)} (hL : ∀ (i : Nat) (v : Value), L[i]? = some (some v) → (av.map some)[i]? = some (some v))
    (body : ∀ X : Mx, zz_C E X Y d mc ms Q → GG E X Y.2.2.1 0 0 0 L [] h) : Ok E Y d mc ms av h Q := by
  refine Met.ofW (cc := Y.2.1) (maxL := Y.2.2.1) (ret := Y.2.2.2) hm.1 rfl ?_
  intro p e s m args below meth c s₁ B hml hv
  obtain ⟨rfl, hK, hR⟩ := hv
  have hts := atoms_spec (ws := .code Y.1 Y.2.1 Y.2.2.1 Y.2.2.2 :: zz_W) B.pre
  have hC : zz_C E (p, e, zz_rm d mc ms, s, m, av.toArray, below, meth, c, MQ below (zz_Q E Q) av.toArray s mc ms (fun q => eZ E ≤ q)) Y d mc ms Q :=
    ⟨B.exec, B.bytes, hml, findClass_of_methodNamed B.named, fun w hw => hts w (List.mem_cons_of_mem _ hw), hK, rfl, B.returns, B.notSynchronized, (name_of_methodNamed B.named B.method).1, rfl⟩
  obtain ⟨e1, e2, e3⟩ := zz_entry (nL := Y.2.2.1) hav hlen
  rw [lg_entry_eq]
  exact body _ hC s.heap [] _ hR (fun _ q => by cases q) ⟨e1, e2, fun i v hi => e3 i v (hL i v hi)⟩
theorem zz_at {ls : Array Slot} {nL : Nat} {L : List (Option Value)} (h : zz_L ls nL L) {i : Nat} {v : Value} (hi : L[i]? = some (some v)) : ls[i]? = some (.val v) := (h.2.2 i v hi).2
theorem zz_set {ls ls' : Array Slot} {nL : Nat} {L : List (Option Value)} {i : Nat} {v : Value} (h : zz_L ls nL L) (hc : v.category = 1)
    (hs : ∀ (l : List (Nat × Value)), lv_has ls nL l → lv_has ls' nL ((i, v) :: l.filter (fun q => !(q.1 == i) && !(q.1 + 1 == i && q.2.category == 2)))) : zz_L ls' nL (L.set i (some v)) := by
  have h0 := hs [] ⟨h.1, h.2.1, fun q hq => by cases hq⟩
  refine ⟨h0.1, h0.2.1, fun j w hj => ?_⟩
  rw [List.getElem?_set] at hj
  by_cases hij : i = j
  · subst hij
    rw [if_pos rfl] at hj
    by_cases hl : i < L.length
    · rw [if_pos hl] at hj
      have hw : v = w := by simpa using hj
      subst hw
      exact ⟨hc, h0.2.2 (i, v) List.mem_cons_self⟩
    · rw [if_neg hl] at hj; cases hj
  · rw [if_neg hij] at hj
    obtain ⟨g1, g2⟩ := h.2.2 j w hj
    have h1 := hs [(j, w)] ⟨h.1, h.2.1, fun q hq => by rw [List.mem_singleton] at hq; rw [hq]; exact g2⟩
    refine ⟨g1, h1.2.2 (j, w) (List.mem_cons_of_mem _ (List.mem_filter.mpr ⟨List.mem_singleton.mpr rfl, ?_⟩))⟩
    have e1 : (j == i) = false := by simpa using fun q : j = i => hij q.symm
    simp [e1, g1]
theorem zg_iconst {E : Wd} {X : Mx} {Y : My} {d mc ms nL k n pc q : Nat} {Q : Option Value → Hp → Prop} {L : List (Option Value)} {st : List Value} {h : Hp} {c : Int} {v : Int32} (C : zz_C E X Y d mc ms Q) (hd : decode Y.2.1 pc = .ok (.iconst c, 1)) (hv : Int32.ofInt c = v) (hq : pc + 1 = q) (g : GG E X nL k n q L (.int v :: st) h) : GG E X nL k n pc L (st) h := by
  subst hq
  intro H locs ls hR hl hL
  exact lv_iconst C.1 C.2.1 hd hv (g H locs ls hR hl hL)
theorem zg_bipush {E : Wd} {X : Mx} {Y : My} {d mc ms nL k n pc q : Nat} {Q : Option Value → Hp → Prop} {L : List (Option Value)} {st : List Value} {h : Hp} {c : Int} {v : Int32} (C : zz_C E X Y d mc ms Q) (hd : decode Y.2.1 pc = .ok (.bipush c, 2)) (hv : (Int8.ofInt c).toInt32 = v) (hq : pc + 2 = q) (g : GG E X nL k n q L (.int v :: st) h) : GG E X nL k n pc L (st) h := by
  subst hq
  intro H locs ls hR hl hL
  exact lv_bipush C.1 C.2.1 hd hv (g H locs ls hR hl hL)
theorem zg_sipush {E : Wd} {X : Mx} {Y : My} {d mc ms nL k n pc q : Nat} {Q : Option Value → Hp → Prop} {L : List (Option Value)} {st : List Value} {h : Hp} {c : Int} {v : Int32} (C : zz_C E X Y d mc ms Q) (hd : decode Y.2.1 pc = .ok (.sipush c, 3)) (hv : (Int16.ofInt c).toInt32 = v) (hq : pc + 3 = q) (g : GG E X nL k n q L (.int v :: st) h) : GG E X nL k n pc L (st) h := by
  subst hq
  intro H locs ls hR hl hL
  exact lv_sipush C.1 C.2.1 hd hv (g H locs ls hR hl hL)
theorem zg_iload_n {E : Wd} {X : Mx} {Y : My} {d mc ms nL k n pc q : Nat} {Q : Option Value → Hp → Prop} {L : List (Option Value)} {st : List Value} {h : Hp} {i : Fin 4} {x : Int32} (C : zz_C E X Y d mc ms Q) (hd : decode Y.2.1 pc = .ok (.iload_n i, 1)) (hi : L[(i : Nat)]? = some (some (.int x))) (hq : pc + 1 = q) (g : GG E X nL k n q L (.int x :: st) h) : GG E X nL k n pc L (st) h := by
  subst hq
  intro H locs ls hR hl hL
  exact lv_iload_n C.1 C.2.1 hd rfl (zz_at hL hi) (g H locs ls hR hl hL)
theorem zg_iload {E : Wd} {X : Mx} {Y : My} {d mc ms nL k n pc q : Nat} {Q : Option Value → Hp → Prop} {L : List (Option Value)} {st : List Value} {h : Hp} {i : Nat} {x : Int32} (C : zz_C E X Y d mc ms Q) (hd : decode Y.2.1 pc = .ok (.iload i, 2)) (hi : L[i]? = some (some (.int x))) (hq : pc + 2 = q) (g : GG E X nL k n q L (.int x :: st) h) : GG E X nL k n pc L (st) h := by
  subst hq
  intro H locs ls hR hl hL
  exact lv_iload C.1 C.2.1 hd (zz_at hL hi) (g H locs ls hR hl hL)
theorem zg_aload_n {E : Wd} {X : Mx} {Y : My} {d mc ms nL k n pc q : Nat} {Q : Option Value → Hp → Prop} {L : List (Option Value)} {st : List Value} {h : Hp} {i : Fin 4} {x : Nat} (C : zz_C E X Y d mc ms Q) (hd : decode Y.2.1 pc = .ok (.aload_n i, 1)) (hi : L[(i : Nat)]? = some (some (.ref x))) (hq : pc + 1 = q) (g : GG E X nL k n q L (.ref x :: st) h) : GG E X nL k n pc L (st) h := by
  subst hq
  intro H locs ls hR hl hL
  exact lv_aload_n C.1 C.2.1 hd rfl (zz_at hL hi) (g H locs ls hR hl hL)
theorem zg_aload {E : Wd} {X : Mx} {Y : My} {d mc ms nL k n pc q : Nat} {Q : Option Value → Hp → Prop} {L : List (Option Value)} {st : List Value} {h : Hp} {i : Nat} {x : Nat} (C : zz_C E X Y d mc ms Q) (hd : decode Y.2.1 pc = .ok (.aload i, 2)) (hi : L[i]? = some (some (.ref x))) (hq : pc + 2 = q) (g : GG E X nL k n q L (.ref x :: st) h) : GG E X nL k n pc L (st) h := by
  subst hq
  intro H locs ls hR hl hL
  exact lv_aload C.1 C.2.1 hd (zz_at hL hi) (g H locs ls hR hl hL)
theorem zz_store {ls : Array Slot} {nL : Nat} {L : List (Option Value)} {i : Nat} {v : Value} (h : zz_L ls nL L) (hn : i < nL) (hc : v.category = 1) : ∃ ls', storeLocals ls i v = some ls' ∧ zz_L ls' nL (L.set i (some v)) := by
  obtain ⟨ls', e, -⟩ := lv_store1 (l := []) (i := i) (v := v) ⟨h.1, h.2.1, fun q hq => by cases hq⟩ hn hc
  refine ⟨ls', e, zz_set h hc (fun l hl => ?_)⟩
  obtain ⟨ls2, e2, h2⟩ := lv_store1 hl hn hc
  rw [e] at e2
  cases e2
  exact h2
theorem zg_istore_n {E : Wd} {X : Mx} {Y : My} {d mc ms nL k n pc q : Nat} {Q : Option Value → Hp → Prop} {L : List (Option Value)} {st : List Value} {h : Hp} {i : Fin 4} {x : Int32} (C : zz_C E X Y d mc ms Q) (hd : decode Y.2.1 pc = .ok (.istore_n i, 1)) (hn : (i : Nat) < nL) (hq : pc + 1 = q) (g : GG E X nL k n q (L.set (i : Nat) (some (.int x))) st h) : GG E X nL k n pc L (.int x :: st) h := by
  subst hq
  intro H locs ls hR hl hL T hT S
  obtain ⟨ls', e', hL'⟩ := zz_store (v := .int x) hL hn rfl
  obtain ⟨t, a, b⟩ := g H locs ls' hR hl hL' T hT S
  refine ⟨t, ?_, b⟩
  jvm_step S.here [S.here.top, ↓top_set S.here.top, C.1, C.2.1, hd, e']
  exact a
theorem zg_istore {E : Wd} {X : Mx} {Y : My} {d mc ms nL k n pc q : Nat} {Q : Option Value → Hp → Prop} {L : List (Option Value)} {st : List Value} {h : Hp} {i : Nat} {x : Int32} (C : zz_C E X Y d mc ms Q) (hd : decode Y.2.1 pc = .ok (.istore i, 2)) (hn : i < nL) (hq : pc + 2 = q) (g : GG E X nL k n q (L.set i (some (.int x))) st h) : GG E X nL k n pc L (.int x :: st) h := by
  subst hq
  intro H locs ls hR hl hL T hT S
  obtain ⟨ls', e', hL'⟩ := zz_store (v := .int x) hL hn rfl
  obtain ⟨t, a, b⟩ := g H locs ls' hR hl hL' T hT S
  refine ⟨t, ?_, b⟩
  jvm_step S.here [S.here.top, ↓top_set S.here.top, C.1, C.2.1, hd, e']
  exact a
theorem zg_astore_n {E : Wd} {X : Mx} {Y : My} {d mc ms nL k n pc q : Nat} {Q : Option Value → Hp → Prop} {L : List (Option Value)} {st : List Value} {h : Hp} {i : Fin 4} {x : Nat} (C : zz_C E X Y d mc ms Q) (hd : decode Y.2.1 pc = .ok (.astore_n i, 1)) (hn : (i : Nat) < nL) (hq : pc + 1 = q) (g : GG E X nL k n q (L.set (i : Nat) (some (.ref x))) st h) : GG E X nL k n pc L (.ref x :: st) h := by
  subst hq
  intro H locs ls hR hl hL T hT S
  obtain ⟨ls', e', hL'⟩ := zz_store (v := .ref x) hL hn rfl
  obtain ⟨t, a, b⟩ := g H locs ls' hR hl hL' T hT S
  refine ⟨t, ?_, b⟩
  jvm_step S.here [S.here.top, ↓top_set S.here.top, C.1, C.2.1, hd, e']
  exact ⟨rfl, a⟩
theorem zg_astore {E : Wd} {X : Mx} {Y : My} {d mc ms nL k n pc q : Nat} {Q : Option Value → Hp → Prop} {L : List (Option Value)} {st : List Value} {h : Hp} {i : Nat} {x : Nat} (C : zz_C E X Y d mc ms Q) (hd : decode Y.2.1 pc = .ok (.astore i, 2)) (hn : i < nL) (hq : pc + 2 = q) (g : GG E X nL k n q (L.set i (some (.ref x))) st h) : GG E X nL k n pc L (.ref x :: st) h := by
  subst hq
  intro H locs ls hR hl hL T hT S
  obtain ⟨ls', e', hL'⟩ := zz_store (v := .ref x) hL hn rfl
  obtain ⟨t, a, b⟩ := g H locs ls' hR hl hL' T hT S
  refine ⟨t, ?_, b⟩
  jvm_step S.here [S.here.top, ↓top_set S.here.top, C.1, C.2.1, hd, e']
  exact ⟨rfl, a⟩
theorem zg_iinc {E : Wd} {X : Mx} {Y : My} {d mc ms nL k n pc q : Nat} {Q : Option Value → Hp → Prop} {L : List (Option Value)} {st : List Value} {h : Hp} {i : Nat} {c : Int} {x v : Int32} (C : zz_C E X Y d mc ms Q) (hd : decode Y.2.1 pc = .ok (.iinc i c, 3)) (hi : L[i]? = some (some (.int x))) (hc : Int32.ofInt c = v) (hn : i < nL) (hq : pc + 3 = q) (g : GG E X nL k n q (L.set i (some (.int (x + v)))) st h) : GG E X nL k n pc L st h := by
  subst hq
  subst hc
  intro H locs ls hR hl hL T hT S
  have hg := zz_at hL hi
  obtain ⟨ls', e', hL'⟩ := zz_store (v := .int (x + Int32.ofInt c)) hL hn rfl
  obtain ⟨t, a, b⟩ := g H locs ls' hR hl hL' T hT S
  refine ⟨t, ?_, b⟩
  jvm_step S.here [S.here.top, ↓top_set S.here.top, C.1, C.2.1, hd, hg, e']
  exact a
theorem zg_iadd {E : Wd} {X : Mx} {Y : My} {d mc ms nL k n pc q : Nat} {Q : Option Value → Hp → Prop} {L : List (Option Value)} {st : List Value} {h : Hp} {x y : Int32} (C : zz_C E X Y d mc ms Q) (hd : decode Y.2.1 pc = .ok (.iadd, 1))  (hq : pc + 1 = q) (g : GG E X nL k n q L (.int (x + y) :: st) h) : GG E X nL k n pc L (.int y :: .int x :: st) h := by
  subst hq
  intro H locs ls hR hl hL
  exact lv_iadd C.1 C.2.1 hd (g H locs ls hR hl hL)
theorem zg_isub {E : Wd} {X : Mx} {Y : My} {d mc ms nL k n pc q : Nat} {Q : Option Value → Hp → Prop} {L : List (Option Value)} {st : List Value} {h : Hp} {x y : Int32} (C : zz_C E X Y d mc ms Q) (hd : decode Y.2.1 pc = .ok (.isub, 1))  (hq : pc + 1 = q) (g : GG E X nL k n q L (.int (x - y) :: st) h) : GG E X nL k n pc L (.int y :: .int x :: st) h := by
  subst hq
  intro H locs ls hR hl hL
  exact lv_isub C.1 C.2.1 hd (g H locs ls hR hl hL)
theorem zg_imul {E : Wd} {X : Mx} {Y : My} {d mc ms nL k n pc q : Nat} {Q : Option Value → Hp → Prop} {L : List (Option Value)} {st : List Value} {h : Hp} {x y : Int32} (C : zz_C E X Y d mc ms Q) (hd : decode Y.2.1 pc = .ok (.imul, 1))  (hq : pc + 1 = q) (g : GG E X nL k n q L (.int (x * y) :: st) h) : GG E X nL k n pc L (.int y :: .int x :: st) h := by
  subst hq
  intro H locs ls hR hl hL
  exact lv_imul C.1 C.2.1 hd (g H locs ls hR hl hL)
theorem zg_iand {E : Wd} {X : Mx} {Y : My} {d mc ms nL k n pc q : Nat} {Q : Option Value → Hp → Prop} {L : List (Option Value)} {st : List Value} {h : Hp} {x y : Int32} (C : zz_C E X Y d mc ms Q) (hd : decode Y.2.1 pc = .ok (.iand, 1))  (hq : pc + 1 = q) (g : GG E X nL k n q L (.int (x &&& y) :: st) h) : GG E X nL k n pc L (.int y :: .int x :: st) h := by
  subst hq
  intro H locs ls hR hl hL
  exact lv_iand C.1 C.2.1 hd (g H locs ls hR hl hL)
theorem zg_ior {E : Wd} {X : Mx} {Y : My} {d mc ms nL k n pc q : Nat} {Q : Option Value → Hp → Prop} {L : List (Option Value)} {st : List Value} {h : Hp} {x y : Int32} (C : zz_C E X Y d mc ms Q) (hd : decode Y.2.1 pc = .ok (.ior, 1))  (hq : pc + 1 = q) (g : GG E X nL k n q L (.int (x ||| y) :: st) h) : GG E X nL k n pc L (.int y :: .int x :: st) h := by
  subst hq
  intro H locs ls hR hl hL
  exact lv_ior C.1 C.2.1 hd (g H locs ls hR hl hL)
theorem zg_ixor {E : Wd} {X : Mx} {Y : My} {d mc ms nL k n pc q : Nat} {Q : Option Value → Hp → Prop} {L : List (Option Value)} {st : List Value} {h : Hp} {x y : Int32} (C : zz_C E X Y d mc ms Q) (hd : decode Y.2.1 pc = .ok (.ixor, 1))  (hq : pc + 1 = q) (g : GG E X nL k n q L (.int (x ^^^ y) :: st) h) : GG E X nL k n pc L (.int y :: .int x :: st) h := by
  subst hq
  intro H locs ls hR hl hL
  exact lv_ixor C.1 C.2.1 hd (g H locs ls hR hl hL)
theorem zg_ishl {E : Wd} {X : Mx} {Y : My} {d mc ms nL k n pc q : Nat} {Q : Option Value → Hp → Prop} {L : List (Option Value)} {st : List Value} {h : Hp} {x y : Int32} (C : zz_C E X Y d mc ms Q) (hd : decode Y.2.1 pc = .ok (.ishl, 1))  (hq : pc + 1 = q) (g : GG E X nL k n q L (.int (x <<< (y &&& 31)) :: st) h) : GG E X nL k n pc L (.int y :: .int x :: st) h := by
  subst hq
  intro H locs ls hR hl hL
  exact lv_ishl C.1 C.2.1 hd (g H locs ls hR hl hL)
theorem zg_ishr {E : Wd} {X : Mx} {Y : My} {d mc ms nL k n pc q : Nat} {Q : Option Value → Hp → Prop} {L : List (Option Value)} {st : List Value} {h : Hp} {x y : Int32} (C : zz_C E X Y d mc ms Q) (hd : decode Y.2.1 pc = .ok (.ishr, 1))  (hq : pc + 1 = q) (g : GG E X nL k n q L (.int (x >>> (y &&& 31)) :: st) h) : GG E X nL k n pc L (.int y :: .int x :: st) h := by
  subst hq
  intro H locs ls hR hl hL
  exact lv_ishr C.1 C.2.1 hd (g H locs ls hR hl hL)
theorem zg_iushr {E : Wd} {X : Mx} {Y : My} {d mc ms nL k n pc q : Nat} {Q : Option Value → Hp → Prop} {L : List (Option Value)} {st : List Value} {h : Hp} {x y : Int32} (C : zz_C E X Y d mc ms Q) (hd : decode Y.2.1 pc = .ok (.iushr, 1))  (hq : pc + 1 = q) (g : GG E X nL k n q L (.int ((x.toUInt32 >>> (y.toUInt32 &&& Int32.toUInt32 31)).toInt32) :: st) h) : GG E X nL k n pc L (.int y :: .int x :: st) h := by
  subst hq
  intro H locs ls hR hl hL
  exact lv_iushr C.1 C.2.1 hd rfl (g H locs ls hR hl hL)
theorem zg_ineg {E : Wd} {X : Mx} {Y : My} {d mc ms nL k n pc q : Nat} {Q : Option Value → Hp → Prop} {L : List (Option Value)} {st : List Value} {h : Hp} {x : Int32} (C : zz_C E X Y d mc ms Q) (hd : decode Y.2.1 pc = .ok (.ineg, 1))  (hq : pc + 1 = q) (g : GG E X nL k n q L (.int (-x) :: st) h) : GG E X nL k n pc L (.int x :: st) h := by
  subst hq
  intro H locs ls hR hl hL
  exact lv_ineg C.1 C.2.1 hd (g H locs ls hR hl hL)
theorem zg_idiv {E : Wd} {X : Mx} {Y : My} {d mc ms nL k n pc q : Nat} {Q : Option Value → Hp → Prop} {L : List (Option Value)} {st : List Value} {h : Hp} {x y : Int32} (C : zz_C E X Y d mc ms Q) (hd : decode Y.2.1 pc = .ok (.idiv, 1)) (hne : ¬ y = 0) (hq : pc + 1 = q) (g : GG E X nL k n q L (.int (x / y) :: st) h) : GG E X nL k n pc L (.int y :: .int x :: st) h := by
  subst hq
  intro H locs ls hR hl hL
  exact lv_idiv C.1 C.2.1 hd hne (g H locs ls hR hl hL)
theorem zg_irem {E : Wd} {X : Mx} {Y : My} {d mc ms nL k n pc q : Nat} {Q : Option Value → Hp → Prop} {L : List (Option Value)} {st : List Value} {h : Hp} {x y : Int32} (C : zz_C E X Y d mc ms Q) (hd : decode Y.2.1 pc = .ok (.irem, 1)) (hne : ¬ y = 0) (hq : pc + 1 = q) (g : GG E X nL k n q L (.int (x - x / y * y) :: st) h) : GG E X nL k n pc L (.int y :: .int x :: st) h := by
  subst hq
  intro H locs ls hR hl hL
  exact lv_irem C.1 C.2.1 hd hne (g H locs ls hR hl hL)
theorem zg_i2c {E : Wd} {X : Mx} {Y : My} {d mc ms nL k n pc q : Nat} {Q : Option Value → Hp → Prop} {L : List (Option Value)} {st : List Value} {h : Hp} {x : Int32} (C : zz_C E X Y d mc ms Q) (hd : decode Y.2.1 pc = .ok (.i2c, 1))  (hq : pc + 1 = q) (g : GG E X nL k n q L (.int ((x.toUInt32 % 65536).toInt32) :: st) h) : GG E X nL k n pc L (.int x :: st) h := by
  subst hq
  intro H locs ls hR hl hL
  exact lv_i2c C.1 C.2.1 hd rfl (g H locs ls hR hl hL)
theorem zg_dup {E : Wd} {X : Mx} {Y : My} {d mc ms nL k n pc q : Nat} {Q : Option Value → Hp → Prop} {L : List (Option Value)} {st : List Value} {h : Hp} {v : Value} (C : zz_C E X Y d mc ms Q) (hd : decode Y.2.1 pc = .ok (.dup, 1)) (hv : v.category = 1) (hq : pc + 1 = q) (g : GG E X nL k n q L (v :: v :: st) h) : GG E X nL k n pc L (v :: st) h := by
  subst hq
  intro H locs ls hR hl hL
  exact lv_dup C.1 C.2.1 hd hv (g H locs ls hR hl hL)
theorem zg_pop {E : Wd} {X : Mx} {Y : My} {d mc ms nL k n pc q : Nat} {Q : Option Value → Hp → Prop} {L : List (Option Value)} {st : List Value} {h : Hp} {v : Value} (C : zz_C E X Y d mc ms Q) (hd : decode Y.2.1 pc = .ok (.pop, 1)) (hv : v.category = 1) (hq : pc + 1 = q) (g : GG E X nL k n q L (st) h) : GG E X nL k n pc L (v :: st) h := by
  subst hq
  intro H locs ls hR hl hL
  exact lv_pop C.1 C.2.1 hd hv (g H locs ls hR hl hL)
theorem zg_dup2 {E : Wd} {X : Mx} {Y : My} {d mc ms nL k n pc q : Nat} {Q : Option Value → Hp → Prop} {L : List (Option Value)} {st : List Value} {h : Hp} {v w : Value} (C : zz_C E X Y d mc ms Q) (hd : decode Y.2.1 pc = .ok (.dup2, 1)) (hv : v.category = 1) (hw : w.category = 1) (hq : pc + 1 = q) (g : GG E X nL k n q L (v :: w :: v :: w :: st) h) : GG E X nL k n pc L (v :: w :: st) h := by
  subst hq
  intro H locs ls hR hl hL
  exact lv_dup2_11 C.1 C.2.1 hd hv hw (g H locs ls hR hl hL)
theorem zg_icmp_eq {E : Wd} {X : Mx} {Y : My} {d mc ms nL k n pc q t : Nat} {Q : Option Value → Hp → Prop} {L : List (Option Value)} {st : List Value} {h : Hp} {x y : Int32} {off : Int} (C : zz_C E X Y d mc ms Q) (hd : decode Y.2.1 pc = .ok (.if_icmp .eq off, 3)) (ht : (pc : Int) + off = (t : Int)) (hq : pc + 3 = q) (gt : x = y → GG E X nL k n t L st h) (gf : ¬ x = y → GG E X nL k n q L st h) : GG E X nL k n pc L (.int y :: .int x :: st) h := by
  subst hq
  intro H locs ls hR hl hL
  exact lv_icmp_eq C.1 C.2.1 hd ht (fun c => gt c H locs ls hR hl hL) (fun c => gf c H locs ls hR hl hL)
theorem zg_if_eq {E : Wd} {X : Mx} {Y : My} {d mc ms nL k n pc q t : Nat} {Q : Option Value → Hp → Prop} {L : List (Option Value)} {st : List Value} {h : Hp} {x : Int32} {off : Int} (C : zz_C E X Y d mc ms Q) (hd : decode Y.2.1 pc = .ok (.ifCond .eq off, 3)) (ht : (pc : Int) + off = (t : Int)) (hq : pc + 3 = q) (gt : x = 0 → GG E X nL k n t L st h) (gf : ¬ x = 0 → GG E X nL k n q L st h) : GG E X nL k n pc L (.int x :: st) h := by
  subst hq
  intro H locs ls hR hl hL
  exact lv_if_eq C.1 C.2.1 hd ht (fun c => gt c H locs ls hR hl hL) (fun c => gf c H locs ls hR hl hL)
theorem zg_icmp_ne {E : Wd} {X : Mx} {Y : My} {d mc ms nL k n pc q t : Nat} {Q : Option Value → Hp → Prop} {L : List (Option Value)} {st : List Value} {h : Hp} {x y : Int32} {off : Int} (C : zz_C E X Y d mc ms Q) (hd : decode Y.2.1 pc = .ok (.if_icmp .ne off, 3)) (ht : (pc : Int) + off = (t : Int)) (hq : pc + 3 = q) (gt : ¬ x = y → GG E X nL k n t L st h) (gf : x = y → GG E X nL k n q L st h) : GG E X nL k n pc L (.int y :: .int x :: st) h := by
  subst hq
  intro H locs ls hR hl hL
  exact lv_icmp_ne C.1 C.2.1 hd ht (fun c => gt c H locs ls hR hl hL) (fun c => gf c H locs ls hR hl hL)
theorem zg_if_ne {E : Wd} {X : Mx} {Y : My} {d mc ms nL k n pc q t : Nat} {Q : Option Value → Hp → Prop} {L : List (Option Value)} {st : List Value} {h : Hp} {x : Int32} {off : Int} (C : zz_C E X Y d mc ms Q) (hd : decode Y.2.1 pc = .ok (.ifCond .ne off, 3)) (ht : (pc : Int) + off = (t : Int)) (hq : pc + 3 = q) (gt : ¬ x = 0 → GG E X nL k n t L st h) (gf : x = 0 → GG E X nL k n q L st h) : GG E X nL k n pc L (.int x :: st) h := by
  subst hq
  intro H locs ls hR hl hL
  exact lv_if_ne C.1 C.2.1 hd ht (fun c => gt c H locs ls hR hl hL) (fun c => gf c H locs ls hR hl hL)
theorem zg_icmp_lt {E : Wd} {X : Mx} {Y : My} {d mc ms nL k n pc q t : Nat} {Q : Option Value → Hp → Prop} {L : List (Option Value)} {st : List Value} {h : Hp} {x y : Int32} {off : Int} (C : zz_C E X Y d mc ms Q) (hd : decode Y.2.1 pc = .ok (.if_icmp .lt off, 3)) (ht : (pc : Int) + off = (t : Int)) (hq : pc + 3 = q) (gt : x < y → GG E X nL k n t L st h) (gf : ¬ x < y → GG E X nL k n q L st h) : GG E X nL k n pc L (.int y :: .int x :: st) h := by
  subst hq
  intro H locs ls hR hl hL
  exact lv_icmp_lt C.1 C.2.1 hd ht (fun c => gt c H locs ls hR hl hL) (fun c => gf c H locs ls hR hl hL)
theorem zg_if_lt {E : Wd} {X : Mx} {Y : My} {d mc ms nL k n pc q t : Nat} {Q : Option Value → Hp → Prop} {L : List (Option Value)} {st : List Value} {h : Hp} {x : Int32} {off : Int} (C : zz_C E X Y d mc ms Q) (hd : decode Y.2.1 pc = .ok (.ifCond .lt off, 3)) (ht : (pc : Int) + off = (t : Int)) (hq : pc + 3 = q) (gt : x < 0 → GG E X nL k n t L st h) (gf : ¬ x < 0 → GG E X nL k n q L st h) : GG E X nL k n pc L (.int x :: st) h := by
  subst hq
  intro H locs ls hR hl hL
  exact lv_if_lt C.1 C.2.1 hd ht (fun c => gt c H locs ls hR hl hL) (fun c => gf c H locs ls hR hl hL)
theorem zg_icmp_ge {E : Wd} {X : Mx} {Y : My} {d mc ms nL k n pc q t : Nat} {Q : Option Value → Hp → Prop} {L : List (Option Value)} {st : List Value} {h : Hp} {x y : Int32} {off : Int} (C : zz_C E X Y d mc ms Q) (hd : decode Y.2.1 pc = .ok (.if_icmp .ge off, 3)) (ht : (pc : Int) + off = (t : Int)) (hq : pc + 3 = q) (gt : y ≤ x → GG E X nL k n t L st h) (gf : ¬ y ≤ x → GG E X nL k n q L st h) : GG E X nL k n pc L (.int y :: .int x :: st) h := by
  subst hq
  intro H locs ls hR hl hL
  exact lv_icmp_ge C.1 C.2.1 hd ht (fun c => gt c H locs ls hR hl hL) (fun c => gf c H locs ls hR hl hL)
theorem zg_if_ge {E : Wd} {X : Mx} {Y : My} {d mc ms nL k n pc q t : Nat} {Q : Option Value → Hp → Prop} {L : List (Option Value)} {st : List Value} {h : Hp} {x : Int32} {off : Int} (C : zz_C E X Y d mc ms Q) (hd : decode Y.2.1 pc = .ok (.ifCond .ge off, 3)) (ht : (pc : Int) + off = (t : Int)) (hq : pc + 3 = q) (gt : 0 ≤ x → GG E X nL k n t L st h) (gf : ¬ 0 ≤ x → GG E X nL k n q L st h) : GG E X nL k n pc L (.int x :: st) h := by
  subst hq
  intro H locs ls hR hl hL
  exact lv_if_ge C.1 C.2.1 hd ht (fun c => gt c H locs ls hR hl hL) (fun c => gf c H locs ls hR hl hL)
theorem zg_icmp_gt {E : Wd} {X : Mx} {Y : My} {d mc ms nL k n pc q t : Nat} {Q : Option Value → Hp → Prop} {L : List (Option Value)} {st : List Value} {h : Hp} {x y : Int32} {off : Int} (C : zz_C E X Y d mc ms Q) (hd : decode Y.2.1 pc = .ok (.if_icmp .gt off, 3)) (ht : (pc : Int) + off = (t : Int)) (hq : pc + 3 = q) (gt : y < x → GG E X nL k n t L st h) (gf : ¬ y < x → GG E X nL k n q L st h) : GG E X nL k n pc L (.int y :: .int x :: st) h := by
  subst hq
  intro H locs ls hR hl hL
  exact lv_icmp_gt C.1 C.2.1 hd ht (fun c => gt c H locs ls hR hl hL) (fun c => gf c H locs ls hR hl hL)
theorem zg_if_gt {E : Wd} {X : Mx} {Y : My} {d mc ms nL k n pc q t : Nat} {Q : Option Value → Hp → Prop} {L : List (Option Value)} {st : List Value} {h : Hp} {x : Int32} {off : Int} (C : zz_C E X Y d mc ms Q) (hd : decode Y.2.1 pc = .ok (.ifCond .gt off, 3)) (ht : (pc : Int) + off = (t : Int)) (hq : pc + 3 = q) (gt : 0 < x → GG E X nL k n t L st h) (gf : ¬ 0 < x → GG E X nL k n q L st h) : GG E X nL k n pc L (.int x :: st) h := by
  subst hq
  intro H locs ls hR hl hL
  exact lv_if_gt C.1 C.2.1 hd ht (fun c => gt c H locs ls hR hl hL) (fun c => gf c H locs ls hR hl hL)
theorem zg_icmp_le {E : Wd} {X : Mx} {Y : My} {d mc ms nL k n pc q t : Nat} {Q : Option Value → Hp → Prop} {L : List (Option Value)} {st : List Value} {h : Hp} {x y : Int32} {off : Int} (C : zz_C E X Y d mc ms Q) (hd : decode Y.2.1 pc = .ok (.if_icmp .le off, 3)) (ht : (pc : Int) + off = (t : Int)) (hq : pc + 3 = q) (gt : x ≤ y → GG E X nL k n t L st h) (gf : ¬ x ≤ y → GG E X nL k n q L st h) : GG E X nL k n pc L (.int y :: .int x :: st) h := by
  subst hq
  intro H locs ls hR hl hL
  exact lv_icmp_le C.1 C.2.1 hd ht (fun c => gt c H locs ls hR hl hL) (fun c => gf c H locs ls hR hl hL)
theorem zg_if_le {E : Wd} {X : Mx} {Y : My} {d mc ms nL k n pc q t : Nat} {Q : Option Value → Hp → Prop} {L : List (Option Value)} {st : List Value} {h : Hp} {x : Int32} {off : Int} (C : zz_C E X Y d mc ms Q) (hd : decode Y.2.1 pc = .ok (.ifCond .le off, 3)) (ht : (pc : Int) + off = (t : Int)) (hq : pc + 3 = q) (gt : x ≤ 0 → GG E X nL k n t L st h) (gf : ¬ x ≤ 0 → GG E X nL k n q L st h) : GG E X nL k n pc L (.int x :: st) h := by
  subst hq
  intro H locs ls hR hl hL
  exact lv_if_le C.1 C.2.1 hd ht (fun c => gt c H locs ls hR hl hL) (fun c => gf c H locs ls hR hl hL)
theorem zg_goto {E : Wd} {X : Mx} {Y : My} {d mc ms nL k n pc t : Nat} {Q : Option Value → Hp → Prop} {L : List (Option Value)} {st : List Value} {h : Hp} {off : Int} (C : zz_C E X Y d mc ms Q) (hd : decode Y.2.1 pc = .ok (.goto off, 3)) (ht : (pc : Int) + off = (t : Int)) (g : GG E X nL k n t L st h) : GG E X nL k n pc L st h := by
  intro H locs ls hR hl hL
  exact lv_goto C.1 C.2.1 hd ht (g H locs ls hR hl hL)
theorem zg_nonnull {E : Wd} {X : Mx} {Y : My} {d mc ms nL k n pc q t : Nat} {Q : Option Value → Hp → Prop} {L : List (Option Value)} {st : List Value} {h : Hp} {r : Option Nat} {off : Int} (C : zz_C E X Y d mc ms Q) (hd : decode Y.2.1 pc = .ok (.ifnonnull off, 3)) (ht : (pc : Int) + off = (t : Int)) (hq : pc + 3 = q) (gt : ∀ a, r = some a → GG E X nL k n t L st h) (gf : r = none → GG E X nL k n q L st h) : GG E X nL k n pc L (va_rf r :: st) h := by
  subst hq
  intro H locs ls hR hl hL
  cases r with
  | none => exact lv_ifnonnullN C.1 C.2.1 hd (gf rfl H locs ls hR hl hL)
  | some a => exact lv_ifnonnull C.1 C.2.1 hd ht (gt a rfl H locs ls hR hl hL)
theorem zg_null {E : Wd} {X : Mx} {Y : My} {d mc ms nL k n pc q t : Nat} {Q : Option Value → Hp → Prop} {L : List (Option Value)} {st : List Value} {h : Hp} {r : Option Nat} {off : Int} (C : zz_C E X Y d mc ms Q) (hd : decode Y.2.1 pc = .ok (.ifnull off, 3)) (ht : (pc : Int) + off = (t : Int)) (hq : pc + 3 = q) (gt : r = none → GG E X nL k n t L st h) (gf : ∀ a, r = some a → GG E X nL k n q L st h) : GG E X nL k n pc L (va_rf r :: st) h := by
  subst hq
  intro H locs ls hR hl hL
  cases r with
  | none => exact lv_ifnullN C.1 C.2.1 hd ht (gt rfl H locs ls hR hl hL)
  | some a => exact lv_ifnull C.1 C.2.1 hd (gf a rfl H locs ls hR hl hL)
theorem zg_acmp_eq {E : Wd} {X : Mx} {Y : My} {d mc ms nL k n pc q t : Nat} {Q : Option Value → Hp → Prop} {L : List (Option Value)} {st : List Value} {h : Hp} {r w : Option Nat} {off : Int} (C : zz_C E X Y d mc ms Q) (hd : decode Y.2.1 pc = .ok (.if_acmp .eq off, 3)) (ht : (pc : Int) + off = (t : Int)) (hq : pc + 3 = q) (gt : r = w → GG E X nL k n t L st h) (gf : ¬ r = w → GG E X nL k n q L st h) : GG E X nL k n pc L (va_rf w :: va_rf r :: st) h := by
  subst hq
  intro H locs ls hR hl hL
  exact lv_acmp_eq C.1 C.2.1 hd ht (fun c => gt c H locs ls hR hl hL) (fun c => gf c H locs ls hR hl hL)
theorem zg_acmp_ne {E : Wd} {X : Mx} {Y : My} {d mc ms nL k n pc q t : Nat} {Q : Option Value → Hp → Prop} {L : List (Option Value)} {st : List Value} {h : Hp} {r w : Option Nat} {off : Int} (C : zz_C E X Y d mc ms Q) (hd : decode Y.2.1 pc = .ok (.if_acmp .ne off, 3)) (ht : (pc : Int) + off = (t : Int)) (hq : pc + 3 = q) (gt : ¬ r = w → GG E X nL k n t L st h) (gf : r = w → GG E X nL k n q L st h) : GG E X nL k n pc L (va_rf w :: va_rf r :: st) h := by
  subst hq
  intro H locs ls hR hl hL
  exact lv_acmp_ne C.1 C.2.1 hd ht (fun c => gt c H locs ls hR hl hL) (fun c => gf c H locs ls hR hl hL)
theorem zg_tabOut {E : Wd} {X : Mx} {Y : My} {d mc ms nL k n pc t : Nat} {Q : Option Value → Hp → Prop} {L : List (Option Value)} {st : List Value} {h : Hp} {x : Int32} {df lo hi : Int} {offs : Array Int} {len : Nat} (C : zz_C E X Y d mc ms Q) (hd : decode Y.2.1 pc = .ok (.tableswitch df lo hi offs, len)) (hx : x.toInt < lo ∨ hi < x.toInt) (ht : (pc : Int) + df = (t : Int)) (g : GG E X nL k n t L st h) : GG E X nL k n pc L (.int x :: st) h := by
  intro H locs ls hR hl hL
  exact lv_tableOut C.1 C.2.1 hd hx ht (g H locs ls hR hl hL)
theorem zg_tabIn {E : Wd} {X : Mx} {Y : My} {d mc ms nL k n pc t : Nat} {Q : Option Value → Hp → Prop} {L : List (Option Value)} {st : List Value} {h : Hp} {x : Int32} {df lo hi off : Int} {offs : Array Int} {len : Nat} (C : zz_C E X Y d mc ms Q) (hd : decode Y.2.1 pc = .ok (.tableswitch df lo hi offs, len)) (h1 : ¬ x.toInt < lo) (h2 : ¬ hi < x.toInt) (ho : offs[(x.toInt - lo).toNat]? = some off) (ht : (pc : Int) + off = (t : Int)) (g : GG E X nL k n t L st h) : GG E X nL k n pc L (.int x :: st) h := by
  intro H locs ls hR hl hL
  exact lv_tableIn C.1 C.2.1 hd h1 h2 ho ht (g H locs ls hR hl hL)
def vI : Value → Int32
  | .int x => x
  | _ => 0
def vA : Value → Nat
  | .ref a => a
  | _ => 0
def vN : Value → Option Nat
  | .ref a => some a
  | _ => none
def hF (h : Hp) (a j : Nat) : Value := match h.2 a with
  | some (.inr o) => o.2.getD j .null
  | _ => .null
abbrev fI (h : Hp) (a j : Nat) : Int32 := vI (hF h a j)
abbrev fA (h : Hp) (a j : Nat) : Nat := vA (hF h a j)
abbrev fN (h : Hp) (a j : Nat) : Option Nat := vN (hF h a j)
def isO (h : Hp) (a ci : Nat) : Prop := ∃ fs, h.2 a = some (.inr (ci, fs))
def okI (h : Hp) (a ci j : Nat) : Prop := ∃ fs x, h.2 a = some (.inr (ci, fs)) ∧ fs[j]? = some (.int x)
def okA (h : Hp) (a ci j : Nat) : Prop := ∃ fs b, h.2 a = some (.inr (ci, fs)) ∧ fs[j]? = some (.ref b)
def okN (h : Hp) (a ci j : Nat) : Prop := ∃ (fs : List Value) (r : Option Nat), h.2 a = some (.inr (ci, fs)) ∧ fs[j]? = some (va_rf r)
def okP (h : Hp) (a ci j : Nat) : Prop := ∃ fs : List Value, h.2 a = some (.inr (ci, fs)) ∧ j < fs.length
def pF (h : Hp) (a j : Nat) (v : Value) : Hp := (h.1, fun b => if b = a then (match h.2 a with
  | some (.inr o) => some (.inr (o.1, o.2.set j v))
  | z => z) else h.2 b)
def okR (E : Wd) (h : Hp) (a t : Nat) (i : Int32) : Prop := ∃ m f, h.2 a = some (.inl (eA E t, m, .inl f)) ∧ vp_in i m
def okL (E : Wd) (h : Hp) (a t : Nat) : Prop := ∃ m, h.2 a = some (.inl (eA E t, m))
def gA (h : Hp) (a : Nat) (i : Int32) : Int32 := match h.2 a with
  | some (.inl (_, _, .inl f)) => f i.toNatClampNeg
  | _ => 0
def lA (h : Hp) (a : Nat) : Int32 := match h.2 a with
  | some (.inl c) => Int32.ofNat c.2.1
  | _ => 0
def sA (h : Hp) (a : Nat) (i x : Int32) : Hp := (h.1, fun b => if b = a then (match h.2 a with
  | some (.inl (c, m, .inl f)) => some (.inl (c, m, .inl (upd f i.toNatClampNeg x)))
  | z => z) else h.2 b)
def okW (E : Wd) (h : Hp) (a : Nat) (i : Int32) : Prop := ∃ m g b, h.2 a = some (.inl (eA E 2, m, .inr (.inr (.inr (.inr g))))) ∧ vp_in i m ∧ g i.toNatClampNeg = some b
def gW (h : Hp) (a : Nat) (i : Int32) : Nat := match h.2 a with
  | some (.inl (_, _, .inr (.inr (.inr (.inr g))))) => (g i.toNatClampNeg).getD 0
  | _ => 0
def nO (h : Hp) (ci : Nat) (fs : List Value) : Hp := (h.1 + 1, fun b => if b = h.1 then some (.inr (ci, fs)) else h.2 b)
def nA (E : Wd) (h : Hp) (t m : Nat) : Hp := (h.1 + 1, fun b => if b = h.1 then some (.inl (eA E t, m, .inl (fun _ => 0))) else h.2 b)
abbrev nB (x : Int32) : Int32 := vp_nar .boolean x
def mB (x : Int32) : Prop := x = 0 ∨ x = 1
theorem zn_b {x : Int32} (hx : mB x) : narrow .boolean (.int x) = .int x := by rcases hx with rfl | rfl <;> rfl
theorem zf_b {x : Int32} (hx : mB x) : fits .boolean (.int x) = true := by rcases hx with rfl | rfl <;> rfl
theorem nB_eq {x : Int32} (hx : mB x) : nB x = x := by rcases hx with rfl | rfl <;> rfl
theorem zz_Rset {E : Wd} {h h' : Hp} {H H' : Heap} {a : Nat} (hR : zz_R E h H) (h1 : h'.1 = h.1) (h2 : ∀ b, b ≠ a → h'.2 b = h.2 b) (h0 : eZ E ≤ a) (h3 : ∀ o, h'.2 a = some o → va_at (eD E) vwCl (a, o) H') (e2 : H'.size = H.size) (e3 : ∀ q, q ≠ a → H'[q]? = H[q]?) : zz_R E h' H' := by
  obtain ⟨r1, r2, r3, r4, r5⟩ := hR
  refine ⟨by rw [e2, h1]; exact r1, by rw [h1]; exact r2, r3, fun b o hb => ?_, fun q hq => ?_⟩
  · by_cases e : b = a
    · subst e
      exact ⟨h0, h3 o hb⟩
    · rw [h2 b e] at hb
      obtain ⟨g1, g2⟩ := r4 b o hb
      exact ⟨g1, g2.kept (e3 b e)⟩
  · rw [e3 q (by omega)]
    exact r5 q hq
theorem zz_Rnew {E : Wd} {h h' : Hp} {H H' : Heap} (hR : zz_R E h H) (h1 : h'.1 = h.1 + 1) (h2 : ∀ b, b ≠ h.1 → h'.2 b = h.2 b) (h3 : ∀ o, h'.2 h.1 = some o → va_at (eD E) vwCl (h.1, o) H') (e2 : H'.size = h.1 + 1) (e3 : ∀ q, q < h.1 → H'[q]? = H[q]?) : zz_R E h' H' := by
  obtain ⟨r1, r2, r3, r4, r5⟩ := hR
  refine ⟨by rw [e2, h1], by rw [h1]; omega, r3, fun b o hb => ?_, fun q hq => ?_⟩
  · by_cases e : b = h.1
    · subst e
      exact ⟨r2, h3 o hb⟩
    · rw [h2 b e] at hb
      obtain ⟨g1, g2⟩ := r4 b o hb
      have g3 := g2.lt
      rw [r1] at g3
      exact ⟨g1, g2.kept (e3 b g3)⟩
  · rw [e3 q (by omega)]
    exact r5 q hq
section
variable {E : Wd} {X : Mx} {Y : My} {d mc ms nL k n pc q : Nat} {Q : Option Value → Hp → Prop} {L : List (Option Value)} {st : List Value} {h : Hp}
theorem zg_get {ci j a idx N : Nat} {Cn : String} {T : u_T} {ty : Nat → FieldType} {v : Value} (C : zz_C E X Y d mc ms Q) (B : zz_B ci Cn T N ty) (hj : j < N) (hk : Cond.fieldLink Y.1.cls idx (T j).1 (T j).2.1 (T j).2.2.1 ∈ zz_W) (hd : decode Y.2.1 pc = .ok (.getfield idx, 3)) (hq : pc + 3 = q)
    (ho : ∃ fs : List Value, h.2 a = some (.inr (ci, fs)) ∧ fs[j]? = some v) (g : GG E X nL k n q L (v :: st) h) : GG E X nL k n pc L (.ref a :: st) h := by
  subst hq
  obtain ⟨fs, h1, h2⟩ := ho
  intro H locs ls hR hl hL
  have hP : va_P (eD E) vwCl [(a, .inr (ci, fs))] H := fun i x hx => by
    have hz : i < 1 := (List.getElem?_eq_some_iff.mp hx).1
    rw [show i = 0 by omega] at hx
    cases hx
    exact (hR.2.2.2.1 a _ h1).2
  exact va_get (D := eD E) (tys := zz_tys E) (ws := [(a, .inr (ci, fs))]) C.1 C.2.1 C.2.2.2.2.1 B.2.1 C.2.2.2.1 C.2.2.2.2.2.1.1 hP 0 rfl B.1 j hj (C.2.2.2.2.1 _ hk) (fun _ e => e) h2 hd (g H locs ls hR hl hL)
theorem zg_getN {ci j a idx N : Nat} {Cn host : String} {T : u_T} {ty : Nat → FieldType} {v : Value} (C : zz_C E X Y d mc ms Q) (B : zz_B ci Cn T N ty) (hj : j < N) (hk : Cond.fieldLinkNest Y.1.cls idx (T j).1 (T j).2.1 (T j).2.2.1 host ∈ lw_tbl) (hd : decode Y.2.1 pc = .ok (.getfield idx, 3)) (hq : pc + 3 = q)
    (ho : ∃ fs : List Value, h.2 a = some (.inr (ci, fs)) ∧ fs[j]? = some v) (g : GG E X nL k n q L (v :: st) h) : GG E X nL k n pc L (.ref a :: st) h := by
  subst hq
  obtain ⟨fs, h1, h2⟩ := ho
  intro H locs ls hR hl hL
  have hP : va_P (eD E) vwCl [(a, .inr (ci, fs))] H := fun i x hx => by
    have hz : i < 1 := (List.getElem?_eq_some_iff.mp hx).1
    rw [show i = 0 by omega] at hx
    cases hx
    exact (hR.2.2.2.1 a _ h1).2
  exact va_getN (D := eD E) (tys := zz_tys E) (ws := [(a, .inr (ci, fs))]) C.1 C.2.1 C.2.2.2.2.1 B.2.1 C.2.2.2.1 C.2.2.2.2.2.1.1 hP 0 rfl B.1 j hj (va_Nw.use rfl (C.2.2.2.2.2.1.2.2.1 _ _ _ _ _ _ hk)) (fun _ e => e) h2 hd (g H locs ls hR hl hL)
theorem hF_of {h : Hp} {a ci j : Nat} {fs : List Value} {v : Value} (h1 : h.2 a = some (.inr (ci, fs))) (h2 : fs[j]? = some v) : hF h a j = v := by
  simp [hF, h1, List.getD_eq_getElem?_getD, h2]
theorem okI.get {ci j a : Nat} (ho : okI h a ci j) : ∃ fs : List Value, h.2 a = some (.inr (ci, fs)) ∧ fs[j]? = some (.int (fI h a j)) := by
  obtain ⟨fs, x, h1, h2⟩ := ho
  exact ⟨fs, h1, by rw [fI, hF_of h1 h2]; exact h2⟩
theorem okA.get {ci j a : Nat} (ho : okA h a ci j) : ∃ fs : List Value, h.2 a = some (.inr (ci, fs)) ∧ fs[j]? = some (.ref (fA h a j)) := by
  obtain ⟨fs, x, h1, h2⟩ := ho
  exact ⟨fs, h1, by rw [fA, hF_of h1 h2]; exact h2⟩
theorem okN.get {ci j a : Nat} (ho : okN h a ci j) : ∃ fs : List Value, h.2 a = some (.inr (ci, fs)) ∧ fs[j]? = some (va_rf (fN h a j)) := by
  obtain ⟨fs, x, h1, h2⟩ := ho
  refine ⟨fs, h1, ?_⟩
  rw [fN, hF_of h1 h2, h2]
  cases x <;> rfl
theorem zz_apart {ci N : Nat} {Cn : String} {T : u_T} {ty : Nat → FieldType} (C : zz_C E X Y d mc ms Q) (B : zz_B ci Cn T N ty) : ∀ x y, x < N → y < N → x ≠ y → ((eD E).2 ci) x ≠ ((eD E).2 ci) y :=
  va_apart (own := Cn) C.2.2.2.2.1 B.2.1 ty B.2.2.1 B.2.2.2 C.2.2.2.2.2.1.1 B.1
theorem zz_putR {ci j a N : Nat} {Cn : String} {T : u_T} {ty : Nat → FieldType} {v : Value} {H H' : Heap} {cell : Cell} {fs : List Value} (C : zz_C E X Y d mc ms Q) (B : zz_B ci Cn T N ty) (hj : j < N) (hR : zz_R E h H) (h1 : h.2 a = some (.inr (ci, fs))) (hl : j < fs.length)
    (q1 : H[a]? = some cell) (q2 : cell.cls = (eD E).1 ci) (q3 : cell.vm = .none) (q4 : ∀ i, i < N → cell.slots[(eD E).2 ci i]? = some (vp_V fs i)) (e1 : H'[a]? = some (cell.setSlot ((eD E).2 ci j) v)) (e2 : H'.size = H.size) (e3 : ∀ q, q ≠ a → H'[q]? = H[q]?) : zz_R E (pF h a j v) H' := by
  refine zz_Rset hR rfl (fun b hb => by simp [pF, hb]) (hR.2.2.2.1 a _ h1).1 (fun o ho => ?_) e2 e3
  have ho2 : (pF h a j v).2 a = some (.inr (ci, fs.set j v)) := by simp [pF, h1]
  rw [ho2] at ho
  cases ho
  exact ⟨_, B.1, t_OB.to (V := updV (vp_V fs) j v) ⟨_, e1, q2, q3, t_set q4 (zz_apart C B) hj v⟩ (fun i _ => vp_updV_set hl v i)⟩
theorem zg_put {ci j a idx N : Nat} {Cn : String} {T : u_T} {ty : Nat → FieldType} {v : Value} (C : zz_C E X Y d mc ms Q) (B : zz_B ci Cn T N ty) (hj : j < N) (hk : Cond.fieldLink Y.1.cls idx (T j).1 (T j).2.1 (T j).2.2.1 ∈ zz_W) (hd : decode Y.2.1 pc = .ok (.putfield idx, 3)) (hq : pc + 3 = q)
    (hfin : (T j).2.2.2 = false) (ho : okP h a ci j) (hn : narrow (ty j) v = v) (hfit : fits (ty j) v = true) (g : GG E X nL k n q L st (pF h a j v)) : GG E X nL k n pc L (v :: .ref a :: st) h := by
  subst hq
  obtain ⟨fs, h1, h2⟩ := ho
  intro H locs ls hR hl hL
  obtain ⟨r, h3, cell, q1, q2, q3, q4⟩ := (hR.2.2.2.1 a _ h1).2
  have hr : r = (Cn, T, N) := Option.some.inj (h3.symm.trans B.1)
  subst hr
  obtain ⟨hS, hfc, kC, hkC, hkind⟩ := C.2.2.2.2.2.1.1.1 ci _ B.1
  obtain ⟨cf, kf, fi, f, hi, hsl⟩ := hS j hj
  have hlay := C.2.2.2.2.1 _ (B.2.1 _ (u_in_lay hj))
  unfold u_lay at hlay
  rw [if_neg (by rw [hfin]; decide)] at hlay
  have hst := (u_facts hfc hkC (u_lays C.2.2.2.2.1 B.2.1 hj) hi).1
  have h6 := u_store hfc hkC hkind hlay hi (B.2.2.1 j hj) hn hfit
  refine W.putK C.1 C.2.1 (f := f) ⟨C.2.2.2.1, C.2.2.2.2.1 _ hk, ⟨_, _, _, hi⟩, hst⟩ (by rw [q2]; exact h6) q1 q3 (by rw [hsl]; exact k2_hasslot (q4 j hj)) rfl rfl hd fun H' e1 e2 e3 => ?_
  rw [hsl] at e1 ⊢
  refine g H' _ ls (zz_putR C B hj hR h1 h2 q1 q2 q3 q4 e1 e2 e3) (fun z hz => ?_) hL
  rcases List.mem_append.mp hz with hz | hz
  · exact hl z hz
  · rw [List.mem_singleton] at hz
    rw [hz]
    exact (hR.2.2.2.1 a _ h1).1
theorem zg_putN {ci j a idx N : Nat} {Cn host : String} {T : u_T} {ty : Nat → FieldType} {v : Value} (C : zz_C E X Y d mc ms Q) (B : zz_B ci Cn T N ty) (hj : j < N) (hk : Cond.fieldLinkNest Y.1.cls idx (T j).1 (T j).2.1 (T j).2.2.1 host ∈ lw_tbl) (hd : decode Y.2.1 pc = .ok (.putfield idx, 3)) (hq : pc + 3 = q)
    (hfin : (T j).2.2.2 = false) (ho : okP h a ci j) (hn : narrow (ty j) v = v) (hfit : fits (ty j) v = true) (g : GG E X nL k n q L st (pF h a j v)) : GG E X nL k n pc L (v :: .ref a :: st) h := by
  subst hq
  obtain ⟨fs, h1, h2⟩ := ho
  intro H locs ls hR hl hL
  obtain ⟨r, h3, cell, q1, q2, q3, q4⟩ := (hR.2.2.2.1 a _ h1).2
  have hr : r = (Cn, T, N) := Option.some.inj (h3.symm.trans B.1)
  subst hr
  obtain ⟨hS, hfc, kC, hkC, hkind⟩ := C.2.2.2.2.2.1.1.1 ci _ B.1
  obtain ⟨cf, kf, fi, f, hi, hsl⟩ := hS j hj
  have hlay := C.2.2.2.2.1 _ (B.2.1 _ (u_in_lay hj))
  unfold u_lay at hlay
  rw [if_neg (by rw [hfin]; decide)] at hlay
  have hst := (u_facts hfc hkC (u_lays C.2.2.2.2.1 B.2.1 hj) hi).1
  have h6 := u_store hfc hkC hkind hlay hi (B.2.2.1 j hj) hn hfit
  refine va_WputK C.1 C.2.1 (f := f) C.2.2.2.1 (va_Nw.use rfl (C.2.2.2.2.2.1.2.2.1 _ _ _ _ _ _ hk)) hi hst (by rw [q2]; exact h6) q1 q3 (by rw [hsl]; exact k2_hasslot (q4 j hj)) rfl rfl hd fun H' e1 e2 e3 => ?_
  rw [hsl] at e1 ⊢
  refine g H' _ ls (zz_putR C B hj hR h1 h2 q1 q2 q3 q4 e1 e2 e3) (fun z hz => ?_) hL
  rcases List.mem_append.mp hz with hz | hz
  · exact hl z hz
  · rw [List.mem_singleton] at hz
    rw [hz]
    exact (hR.2.2.2.1 a _ h1).1
theorem zg_putF {ci j a idx N : Nat} {Cn : String} {T : u_T} {ty : Nat → FieldType} {v : Value} (C : zz_C E X Y d mc ms Q) (B : zz_B ci Cn T N ty) (hj : j < N) (hk : Cond.fieldLink Y.1.cls idx (T j).1 (T j).2.1 (T j).2.2.1 ∈ zz_W) (hd : decode Y.2.1 pc = .ok (.putfield idx, 3)) (hq : pc + 3 = q)
    (hfin : (T j).2.2.2 = true) (hin : Y.1.name = "<init>") (hdecl : (T j).1 = Y.1.cls) (ho : okP h a ci j) (hn : narrow (ty j) v = v) (hfit : fits (ty j) v = true) (g : GG E X nL k n q L st (pF h a j v)) : GG E X nL k n pc L (v :: .ref a :: st) h := by
  subst hq
  obtain ⟨fs, h1, h2⟩ := ho
  intro H locs ls hR hl hL
  obtain ⟨r, h3, cell, q1, q2, q3, q4⟩ := (hR.2.2.2.1 a _ h1).2
  have hr : r = (Cn, T, N) := Option.some.inj (h3.symm.trans B.1)
  subst hr
  obtain ⟨hS, hfc, kC, hkC, hkind⟩ := C.2.2.2.2.2.1.1.1 ci _ B.1
  obtain ⟨cf, kf, fi, f, hi, hsl⟩ := hS j hj
  have hlay := C.2.2.2.2.1 _ (B.2.1 _ (u_in_lay hj))
  unfold u_lay at hlay
  rw [if_pos hfin] at hlay
  have hst := (u_facts hfc hkC (u_lays C.2.2.2.2.1 B.2.1 hj) hi).1
  have hcf : (xM X).cls = cf := by
    obtain ⟨_, _, c', _, _, _, -, -, hf', -, -, -, hown2, -⟩ := Cond.laysFinal_spec hlay
    have e1 : c' = cf := by have := hi.symm.trans hf'; simp at this; exact this.1.symm
    rw [hdecl] at hown2
    rw [← e1]; exact Option.some.inj (C.2.2.2.1.symm.trans hown2)
  have h6 := u_fits hfc hkC hkind (Or.inr hlay) hi (B.2.2.1 j hj) hn hfit
  refine W.putFinK C.1 C.2.1 C.2.2.2.1 (C.2.2.2.2.1 _ hk) hi hst hcf (C.2.2.2.2.2.2.2.2.2.1.trans hin) (by rw [q2]; exact h6) q1 q3 (by rw [hsl]; exact k2_hasslot (q4 j hj)) rfl rfl hd fun H' e1 e2 e3 => ?_
  rw [hsl] at e1 ⊢
  refine g H' _ ls (zz_putR C B hj hR h1 h2 q1 q2 q3 q4 e1 e2 e3) (fun z hz => ?_) hL
  rcases List.mem_append.mp hz with hz | hz
  · exact hl z hz
  · rw [List.mem_singleton] at hz
    rw [hz]
    exact (hR.2.2.2.1 a _ h1).1
end
section
variable {E : Wd} {X : Mx} {Y : My} {d mc ms nL k n pc q : Nat} {Q : Option Value → Hp → Prop} {L : List (Option Value)} {st : List Value} {h : Hp}
theorem zz_hP {a : Nat} {o : va_E} {H : Heap} (hR : zz_R E h H) (h1 : h.2 a = some o) : va_P (eD E) vwCl [(a, o)] H := fun i x hx => by
  have hz : i < 1 := (List.getElem?_eq_some_iff.mp hx).1
  rw [show i = 0 by omega] at hx
  cases hx
  exact (hR.2.2.2.1 a _ h1).2
theorem gA_of {a m : Nat} {c : ClassId} {f : Nat → Int32} {i : Int32} (h1 : h.2 a = some (.inl (c, m, .inl f))) : gA h a i = f i.toNatClampNeg := by simp [gA, h1]
theorem sA_of {a m : Nat} {c : ClassId} {f : Nat → Int32} {i x : Int32} (h1 : h.2 a = some (.inl (c, m, .inl f))) : (sA h a i x).2 a = some (.inl (c, m, .inl (upd f i.toNatClampNeg x))) := by simp [sA, h1]
theorem zg_iald {a : Nat} {i : Int32} (C : zz_C E X Y d mc ms Q) (hd : decode Y.2.1 pc = .ok (.iaload, 1)) (hq : pc + 1 = q) (ho : okR E h a 0 i) (g : GG E X nL k n q L (.int (gA h a i) :: st) h) : GG E X nL k n pc L (.int i :: .ref a :: st) h := by
  subst hq
  obtain ⟨m, f, h1, h2⟩ := ho
  intro H locs ls hR hl hL
  rw [gA_of h1] at g
  exact va_iald C.1 C.2.1 C.2.2.2.2.2.1.1 (zz_hP hR h1) 0 0 rfl rfl h2 hd (g H locs ls hR hl hL)
theorem zg_zald {a : Nat} {i : Int32} (C : zz_C E X Y d mc ms Q) (hd : decode Y.2.1 pc = .ok (.baload, 1)) (hq : pc + 1 = q) (ho : okR E h a 1 i) (g : GG E X nL k n q L (.int (gA h a i) :: st) h) : GG E X nL k n pc L (.int i :: .ref a :: st) h := by
  subst hq
  obtain ⟨m, f, h1, h2⟩ := ho
  intro H locs ls hR hl hL
  rw [gA_of h1] at g
  exact va_zald C.1 C.2.1 C.2.2.2.2.2.1.1 (zz_hP hR h1) 0 1 rfl rfl h2 hd (g H locs ls hR hl hL)
theorem zz_stR {a m : Nat} {c : ClassId} {f : Nat → Int32} {i x : Int32} {H H' : Heap} (hR : zz_R E h H) (h1 : h.2 a = some (.inl (c, m, .inl f))) (e1 : H'[a]? = some (vp_cell c (m, .inl (upd f i.toNatClampNeg x)))) (e2 : H'.size = H.size) (e3 : ∀ q, q ≠ a → H'[q]? = H[q]?) : zz_R E (sA h a i x) H' := by
  refine zz_Rset hR rfl (fun b hb => by simp [sA, hb]) (hR.2.2.2.1 a _ h1).1 (fun o ho => ?_) e2 e3
  rw [sA_of h1] at ho
  cases ho
  exact e1
theorem zg_iast {a : Nat} {i x : Int32} (C : zz_C E X Y d mc ms Q) (hd : decode Y.2.1 pc = .ok (.iastore, 1)) (hq : pc + 1 = q) (ho : okR E h a 0 i) (g : GG E X nL k n q L st (sA h a i x)) : GG E X nL k n pc L (.int x :: .int i :: .ref a :: st) h := by
  subst hq
  obtain ⟨m, f, h1, h2⟩ := ho
  intro H locs ls hR hl hL
  refine W.iast C.1 C.2.1 (zz_hP hR h1 0 _ rfl) ((C.2.2.2.2.2.1.1.2 0 _ rfl).1 m (fun j => .int (f j))) (fun q => by cases q) (by show ¬ (i < 0 ∨ (arrV _ _ _).slots.size ≤ _); rw [arrV_size]; exact h2) rfl rfl hd fun H1 e z oq => ?_
  refine g H1 _ ls (zz_stR hR h1 ?_ z oq) (fun z hz => ?_) hL
  · rw [e, vp_cell_i, vp_cell_i, arrV_store]
    congr 2
    funext q
    by_cases hq : q = i.toNatClampNeg
    · subst hq
      simp [updV, upd]
    · simp [updV, upd, hq]
  · rcases List.mem_append.mp hz with hz | hz
    · exact hl z hz
    · rw [List.mem_singleton] at hz
      rw [hz]
      exact (hR.2.2.2.1 a _ h1).1
theorem zg_zast {a : Nat} {i x : Int32} (C : zz_C E X Y d mc ms Q) (hd : decode Y.2.1 pc = .ok (.bastore, 1)) (hq : pc + 1 = q) (ho : okR E h a 1 i) (hx : mB x) (g : GG E X nL k n q L st (sA h a i x)) : GG E X nL k n pc L (.int x :: .int i :: .ref a :: st) h := by
  subst hq
  obtain ⟨m, f, h1, h2⟩ := ho
  intro H locs ls hR hl hL
  rw [← nB_eq hx] at g
  refine W.zast C.1 C.2.1 (zz_hP hR h1 0 _ rfl) ((C.2.2.2.2.2.1.1.2 1 _ rfl).1 m (fun j => .int (f j))) (fun q => by cases q) (by show ¬ (i < 0 ∨ (arrV _ _ _).slots.size ≤ _); rw [arrV_size]; exact h2) rfl rfl hd fun H1 e z oq => ?_
  refine g H1 _ ls (zz_stR hR h1 ?_ z oq) (fun z hz => ?_) hL
  · rw [e, vp_cell_i, vp_cell_i, arrV_store]
    congr 2
    funext q
    by_cases hq : q = i.toNatClampNeg
    · subst hq
      simp [updV, upd, nB, vp_nar]
      try rfl
    · simp [updV, upd, hq]
  · rcases List.mem_append.mp hz with hz | hz
    · exact hl z hz
    · rw [List.mem_singleton] at hz
      rw [hz]
      exact (hR.2.2.2.1 a _ h1).1
theorem zg_alen {a t : Nat} (C : zz_C E X Y d mc ms Q) (ht : t < 3) (hd : decode Y.2.1 pc = .ok (.arraylength, 1)) (hq : pc + 1 = q) (ho : okL E h a t) (g : GG E X nL k n q L (.int (lA h a) :: st) h) : GG E X nL k n pc L (.ref a :: st) h := by
  subst hq
  obtain ⟨m, h1⟩ := ho
  intro H locs ls hR hl hL
  have e : lA h a = Int32.ofNat m.1 := by simp [lA, h1]
  rw [e] at g
  obtain ⟨ty, hty⟩ : ∃ ty, (zz_tys E)[t]? = some (eA E t, ty) := by
    match t, ht with
    | 0, _ => exact ⟨_, rfl⟩
    | 1, _ => exact ⟨_, rfl⟩
    | 2, _ => exact ⟨_, rfl⟩
  exact va_alen C.1 C.2.1 C.2.2.2.2.2.1.1 (zz_hP hR h1) 0 t rfl hty rfl hd (g H locs ls hR hl hL)
theorem gW_of {a m b : Nat} {c : ClassId} {f : Nat → Option Nat} {i : Int32} (h1 : h.2 a = some (.inl (c, m, .inr (.inr (.inr (.inr f)))))) (h2 : f i.toNatClampNeg = some b) : gW h a i = b := by simp [gW, h1, h2]
theorem zg_aald {a : Nat} {i : Int32} (C : zz_C E X Y d mc ms Q) (hd : decode Y.2.1 pc = .ok (.aaload, 1)) (hq : pc + 1 = q) (ho : okW E h a i) (g : GG E X nL k n q L (.ref (gW h a i) :: st) h) : GG E X nL k n pc L (.int i :: .ref a :: st) h := by
  subst hq
  obtain ⟨m, f, b, h1, h2, h3⟩ := ho
  intro H locs ls hR hl hL
  rw [gW_of h1 h3] at g
  have hlt : i.toNatClampNeg < m := Nat.not_le.mp fun q => h2 (Or.inr q)
  exact W.aald (v := .ref b) C.1 C.2.1 (zz_hP hR h1 0 _ rfl) ((C.2.2.2.2.2.1.1.2 2 _ rfl).1 m (fun j => va_rf (f j))) rfl (fun q => by cases q) (by show ¬ (i < 0 ∨ (arrV _ _ _).slots.size ≤ _); rw [arrV_size]; exact h2) (by show (arrV _ _ _).slots[_]? = _; rw [arrV_read _ _ hlt, h3]; rfl) rfl rfl hd (g H locs ls hR hl hL)
theorem zg_new {ci idx N : Nat} {Cn : String} {T : u_T} {ty : Nat → FieldType} {fs : List Value} (C : zz_C E X Y d mc ms Q) (B : zz_B ci Cn T N ty) (hk : Cond.classLink Y.1.cls idx Cn ∈ zz_W ∧ Cond.instantiable Cn N ∈ zz_W ∧ Cond.initialized Cn ∈ zz_W) (hfs : ∀ j, j < N → defaultValue (ty j) = vp_V fs j) (hd : decode Y.2.1 pc = .ok (.new idx, 3)) (hq : pc + 3 = q)
    (hc : k + 1 ≤ mc ∧ n + N ≤ ms) (g : GG E X nL (k + 1) (n + N) q L (.ref h.1 :: st) (nO h ci fs)) : GG E X nL k n pc L st h := by
  subst hq
  intro H locs ls hR hl hL
  have hKn := C.2.2.2.2.2.1.1.1 ci _ B.1
  have hr := C.2.2.2.2.2.2.1
  refine W.newcK C.1 C.2.1 C.2.2.2.1 (C.2.2.2.2.1 _ hk.1) (C.2.2.2.2.1 _ hk.2.1) (C.2.2.2.2.1 _ hk.2.2) rfl hd (by rw [hr]; exact hc.1) (by rw [hr]; exact hc.2) hKn.2.1 hR.1 fun H1 kC hkC e1 z1 o1 => ?_
  refine g H1 locs ls (zz_Rnew hR rfl (fun b hb => by simp [nO, hb]) (fun o ho => ?_) z1 o1) hl hL
  have ho2 : (nO h ci fs).2 h.1 = some (.inr (ci, fs)) := by simp [nO]
  rw [ho2] at ho
  cases ho
  exact ⟨_, B.1, (u_born ty C.2.2.2.2.1 B.2.1 hKn hkC e1 B.2.2.1).to hfs⟩
theorem zz_nar {t : Nat} {at' : ArrayType} {ty : FieldType} {m : Nat} {c : Int32} (C : zz_C E X Y d mc ms Q) (hty : newarray.typeOf at' = ty) (hk : Cond.arrayClass ty ∈ zz_W) (htys : (zz_tys E)[t]? = some (eA E t, ty)) (hdef : defaultValue ty = .int 0) (hnm : ∀ (U : State) (cA : ClassId), va_RA U cA ty → U.vm.findClass ("[" ++ ty.toString) = some cA) (hd : decode Y.2.1 pc = .ok (.newarray at', 2)) (hq : pc + 2 = q)
    (hn : ¬ c < 0) (hm : c.toNatClampNeg = m) (hby : m * componentBytes ty ≤ 536870912) (hc : k + 1 ≤ mc ∧ n + m ≤ ms) (g : GG E X nL (k + 1) (n + m) q L (.ref h.1 :: st) (nA E h t m)) : GG E X nL k n pc L (.int c :: st) h := by
  subst hq
  subst hty
  intro H locs ls hR hl hL
  have hr := C.2.2.2.2.2.2.1
  refine va_newaK C.1 C.2.1 (C.2.2.2.2.1 _ hk) rfl hd rfl hn hm hby (by rw [hr]; exact hc.1) (by rw [hr]; exact hc.2) hR.1 fun H1 cA e1 z1 o1 hAr hNm => ?_
  have hA := hnm _ _ (C.2.2.2.2.2.1.1.2 t _ htys).2
  have hcA : cA = eA E t := Option.some.inj (hNm.symm.trans hA)
  subst hcA
  refine g H1 locs ls (zz_Rnew hR rfl (fun b hb => by simp [nA, hb]) (fun o ho => ?_) z1 o1) hl hL
  have ho2 : (nA E h t m).2 h.1 = some (.inl (eA E t, m, .inl (fun _ => 0))) := by simp [nA]
  rw [ho2] at ho
  cases ho
  show H1[h.1]? = some (vp_cell _ _)
  rw [e1, vp_cell_i, hdef]
theorem zg_newI {m : Nat} {c : Int32} (C : zz_C E X Y d mc ms Q) (hk : Cond.arrayClass .int ∈ zz_W) (hd : decode Y.2.1 pc = .ok (.newarray .int, 2)) (hq : pc + 2 = q)
    (hn : ¬ c < 0) (hm : c.toNatClampNeg = m) (hby : m * 4 ≤ 536870912) (hc : k + 1 ≤ mc ∧ n + m ≤ ms) (g : GG E X nL (k + 1) (n + m) q L (.ref h.1 :: st) (nA E h 0 m)) : GG E X nL k n pc L (.int c :: st) h :=
  zz_nar (t := 0) (at' := .int) C rfl hk rfl rfl (fun _ _ e => e) hd hq hn hm hby hc g
theorem zg_newZ {m : Nat} {c : Int32} (C : zz_C E X Y d mc ms Q) (hk : Cond.arrayClass .boolean ∈ zz_W) (hd : decode Y.2.1 pc = .ok (.newarray .boolean, 2)) (hq : pc + 2 = q)
    (hn : ¬ c < 0) (hm : c.toNatClampNeg = m) (hby : m * 1 ≤ 536870912) (hc : k + 1 ≤ mc ∧ n + m ≤ ms) (g : GG E X nL (k + 1) (n + m) q L (.ref h.1 :: st) (nA E h 1 m)) : GG E X nL k n pc L (.int c :: st) h :=
  zz_nar (t := 1) (at' := .boolean) C rfl hk rfl rfl (fun _ _ e => e) hd hq hn hm hby hc g
theorem zg_objInit {a idx : Nat} (C : zz_C E X Y d mc ms Q) (hk : Cond.methodLink Y.1.cls idx Lib.objectInit ∈ zz_W ∧ Cond.instanceMethod Lib.objectInit ∈ zz_W ∧ Cond.code Lib.objectInit ⟨#[0xb1]⟩ 1 none ∈ zz_W) (hnL : Y.2.2.1 = nL) (hd1 : 1 ≤ d) (hst : st.length ≤ 4) (hd : decode Y.2.1 pc = .ok (.invokespecial idx, 3)) (hq : pc + 3 = q)
    (g : GG E X nL k n q L st h) : GG E X nL k n pc L (.ref a :: st) h := by
  subst hq
  intro H locs ls hR hl hL
  have hr := C.2.2.2.2.2.2.1
  have hcat : (st.map fun v => v.category).sum ≤ 2 * st.length := by
    clear hst g
    induction st with
    | nil => simp
    | cons v st ih =>
      have := lv_cat v
      simp only [List.map_cons, List.sum_cons, List.length_cons]
      omega
  refine W.objInit C.1 C.2.1 C.2.2.2.1 (C.2.2.2.2.1 _ hk.1) (C.2.2.2.2.1 _ hk.2.1) (C.2.2.2.2.1 _ hk.2.2) rfl (by show ls.size = _; rw [hL.1, C.2.2.1, hnL]) rfl hd (by rw [hr]; exact hd1) (by rw [hr]; show 2 * (F0 _ _ _ _).monitorRoom + _ + 12 ≤ 40 * d; have e0 : (F0 (xM X) pc ls (.ref a :: st)).monitorRoom = 0 := rfl; rw [e0]; omega) ?_
  exact W.eq rfl (g H locs ls hR hl hL)
theorem zg_iret {x : Int32} (C : zz_C E X Y d mc ms Q) (hret : Y.2.2.2 = some .int) (hd : decode Y.2.1 pc = .ok (.ireturn, 1)) (hc : k ≤ mc ∧ n ≤ ms) (hQ : Q (some (.int x)) h) : GG E X nL k n pc L [.int x] h := by
  intro H locs ls hR hl hL
  obtain ⟨c1, c2, c3, c4, c5, c6, c7, c8, c9, c10, c11⟩ := C
  show W _ _ _ _ _ _ _ _ _ _ _ _ _ _ (xQ X) _
  rw [c11]
  exact W.widen hc.1 hc.2 (W.iret c1 c2 (c8.trans hret) (fun t ht hW => ⟨_, h, rfl, by rw [ht]; exact hR, hQ⟩) hl hd c9)
theorem zg_zret {x : Int32} (C : zz_C E X Y d mc ms Q) (hret : Y.2.2.2 = some .boolean) (hd : decode Y.2.1 pc = .ok (.ireturn, 1)) (hc : k ≤ mc ∧ n ≤ ms) (hx : mB x) (hQ : Q (some (.int x)) h) : GG E X nL k n pc L [.int x] h := by
  intro H locs ls hR hl hL
  obtain ⟨c1, c2, c3, c4, c5, c6, c7, c8, c9, c10, c11⟩ := C
  show W _ _ _ _ _ _ _ _ _ _ _ _ _ _ (xQ X) _
  rw [c11]
  refine W.widen hc.1 hc.2 (W.zret c1 c2 (c8.trans hret) ?_ (fun t ht hW => ⟨_, h, rfl, by rw [ht]; exact hR, hQ⟩) hl hd c9)
  exact zn_b hx
theorem zg_vret (C : zz_C E X Y d mc ms Q) (hret : Y.2.2.2 = none) (hd : decode Y.2.1 pc = .ok (.return_, 1)) (hc : k ≤ mc ∧ n ≤ ms) (hQ : Q none h) : GG E X nL k n pc L [] h := by
  intro H locs ls hR hl hL
  obtain ⟨c1, c2, c3, c4, c5, c6, c7, c8, c9, c10, c11⟩ := C
  show W _ _ _ _ _ _ _ _ _ _ _ _ _ _ (xQ X) _
  rw [c11]
  exact W.widen hc.1 hc.2 (W.vret c1 c2 (c8.trans hret) (fun t ht hW => ⟨_, h, rfl, by rw [ht]; exact hR, hQ⟩) hl hd c9)
theorem zg_aret {r : Option Nat} {nm : String} (C : zz_C E X Y d mc ms Q) (hret : Y.2.2.2 = some (.object nm)) (hd : decode Y.2.1 pc = .ok (.areturn, 1)) (hc : k ≤ mc ∧ n ≤ ms) (hQ : Q (some (va_rf r)) h) : GG E X nL k n pc L [va_rf r] h := by
  intro H locs ls hR hl hL
  obtain ⟨c1, c2, c3, c4, c5, c6, c7, c8, c9, c10, c11⟩ := C
  show W _ _ _ _ _ _ _ _ _ _ _ _ _ _ (xQ X) _
  rw [c11]
  exact W.widen hc.1 hc.2 (W.aret c1 c2 (c8.trans hret) (Or.inl ⟨_, rfl⟩) (by cases r; exact Or.inl rfl; exact Or.inr ⟨_, rfl⟩) (fun t ht hW => ⟨_, h, rfl, by rw [ht]; exact hR, hQ⟩) hl hd c9)
theorem zz_sum : ∀ (st : List Value), st.length ≤ 4 → (st.map fun v => v.category).sum ≤ 8 := by
  have h : ∀ st : List Value, (st.map fun v => v.category).sum ≤ 2 * st.length := by
    intro st
    induction st with
    | nil => simp
    | cons v st ih =>
      have := lv_cat v
      simp only [List.map_cons, List.sum_cons, List.length_cons]
      omega
  intro st hs
  have := h st
  omega
theorem zz_cont {H : Heap} {locs : List Loc} {ls : Array Slot} {mc' ms' : Nat} {st0 rest : List Value} {a : Array Value} {Q' : Option Value → Hp → Prop} (hq : pc + 3 = q)
    (hr : va_Run (xP X) (eL E) (xE X) (xR X) (xS X) (xM X) (xA X) (xB X) (xT X) (xC X) H locs k n mc' ms' (F0 (xM X) pc ls st0) rest (zz_Q E Q' a) (fun q => eZ E ≤ q)) (hl : ∀ q ∈ locs, eZ E ≤ q.base) (hL : zz_L ls nL L)
    (kk : ∀ r h', Q' r h' → GG E X nL (k + mc') (n + ms') q L (r.toList ++ rest) h') : xW E X H locs k n pc ls st0 := by
  subst hq
  intro T hT S
  obtain ⟨v, st₀, t, T', L', h0, S', hL', e1, e2, ⟨r, h', hv, hR', hq⟩, go⟩ := hr T hT S
  cases hv
  obtain ⟨t2, a1, b1⟩ := kk v h' hq T'.heap (locs ++ L') ls (by rw [e1]; exact hR') (fun z hz => by
    rcases List.mem_append.mp hz with hz | hz
    · exact hl z hz
    · exact hL' z hz) hL T' rfl S'
  exact ⟨t2, go t2 a1, b1⟩
theorem zz_blind {av : List Value} : FrameBlind (zz_P E av h) := fun a U g mk q => ⟨q.1, zz_K.same rfl q.2.1, q.2.2⟩
theorem zz_callB {Yc : My} {np idx d' mc' ms' : Nat} (C : zz_C E X Y d mc ms Q) (M : zz_M Yc np) (hk : Cond.methodLink Y.1.cls idx Yc.1 ∈ zz_W) (hd1 : d' + 1 ≤ d) : CallB (xR X) (xS X) (xA X) Y.1.cls idx Yc.1 Yc.2.1 Yc.2.2.1 Yc.2.2.2 (.code Yc.1 Yc.2.1 Yc.2.2.1 Yc.2.2.2 :: zz_W) (zz_rm d' mc' ms') mc' ms' np := by
  refine callB_of np C.2.2.2.2.1 (zz_goodIn M.2.1) rfl rfl rfl (C.2.2.2.2.1 _ M.2.2.1) (C.2.2.2.2.1 _ hk) M.2.2.2.1 ?_
  have hm := M.2.2.2.2
  rw [C.2.2.2.2.2.2.1]
  exact ⟨hd1, by show 8 + (_ + 11) + 40 * d' ≤ 40 * d; omega⟩
theorem zz_callN {Yc : My} {np idx d' mc' ms' : Nat} {host : String} (C : zz_C E X Y d mc ms Q) (M : zz_M Yc np) (hk : Cond.methodLinkNest Y.1.cls idx Yc.1 host ∈ lw_tbl) (hd1 : d' + 1 ≤ d) : va_CN (xR X) (xS X) (xA X) Y.1.cls idx Yc.1 host Yc.2.1 Yc.2.2.1 Yc.2.2.2 (.code Yc.1 Yc.2.1 Yc.2.2.1 Yc.2.2.2 :: zz_W) (zz_rm d' mc' ms') mc' ms' np := by
  refine va_cnB np C.2.2.2.2.1 (zz_goodIn M.2.1) rfl rfl rfl (C.2.2.2.2.2.1.2.2.2.1 _ _ _ _ hk) (C.2.2.2.2.1 _ M.2.2.1) M.2.2.2.1 ?_
  have hm := M.2.2.2.2
  rw [C.2.2.2.2.2.2.1]
  exact ⟨hd1, by show 8 + (_ + 11) + 40 * d' ≤ 40 * d; omega⟩
theorem zz_callV {Yc : My} {np idx d' mc' ms' b ci N : Nat} {T : u_T} {av st0 rest : List Value} {Q' : Option Value → Hp → Prop} (C : zz_C E X Y d mc ms Q) (M : zz_M Yc np) (V : zz_V Yc) (hk : Cond.methodLink Y.1.cls idx Yc.1 ∈ zz_W) (hnL : Y.2.2.1 = nL) (hci : vwCl[ci]? = some (Yc.1.cls, T, N)) (ho : isO h b ci) (hn : av.length = np) (hst : st0 = av.reverse ++ .ref b :: rest) (hrest : rest.length ≤ 4) (hd1 : d' + 1 ≤ d)
    (hd : decode Y.2.1 pc = .ok (.invokevirtual idx, 3)) (hq : pc + 3 = q) (hc : k + mc' ≤ mc ∧ n + ms' ≤ ms) (ok : Ok E Yc d' mc' ms' (.ref b :: av) h Q') (kk : ∀ r h', Q' r h' → GG E X nL (k + mc') (n + ms') q L (r.toList ++ rest) h') : GG E X nL k n pc L st0 h := by
  obtain ⟨fs, h1⟩ := ho
  intro H locs ls hR hl hL
  have hr := C.2.2.2.2.2.2.1
  refine zz_cont hq (va_runV (As := av) (rest := rest) (C := Yc.1.cls) ⟨C.1, C.2.1, C.2.2.1, C.2.2.2.1, C.2.2.2.2.1⟩ ok ⟨zz_callB C M hk hd1, C.2.2.2.2.1 _ V.1, C.2.2.2.2.1 _ V.2⟩ ⟨zz_blind, va_recv C.2.2.2.2.2.1.1 (zz_hP hR h1) (ci := ci) (q0 := 0) hci rfl, fun U hU hW => ⟨rfl, zz_K.moved hW C.2.2.2.2.2.1, by rw [hU]; exact hR⟩⟩ rfl hn (by show ls.size = _; rw [hL.1, hnL]) hst (lv_room (zz_sum rest hrest)) hd (by rw [hr]; exact hc)) hl hL kk
theorem zz_callS {Yc : My} {np idx d' mc' ms' : Nat} {av st0 rest : List Value} {Q' : Option Value → Hp → Prop} (C : zz_C E X Y d mc ms Q) (M : zz_M Yc np) (V : Cond.static Yc.1 ∈ zz_W) (hk : Cond.methodLink Y.1.cls idx Yc.1 ∈ zz_W) (hnL : Y.2.2.1 = nL) (hn : av.length = np) (hst : st0 = av.reverse ++ rest) (hrest : rest.length ≤ 4) (hd1 : d' + 1 ≤ d)
    (hd : decode Y.2.1 pc = .ok (.invokestatic idx, 3)) (hq : pc + 3 = q) (hc : k + mc' ≤ mc ∧ n + ms' ≤ ms) (ok : Ok E Yc d' mc' ms' av h Q') (kk : ∀ r h', Q' r h' → GG E X nL (k + mc') (n + ms') q L (r.toList ++ rest) h') : GG E X nL k n pc L st0 h := by
  intro H locs ls hR hl hL
  have hr := C.2.2.2.2.2.2.1
  refine zz_cont hq (va_runS (As := av) (rest := rest) ⟨C.1, C.2.1, C.2.2.1, C.2.2.2.1, C.2.2.2.2.1⟩ ok ⟨zz_callB C M hk hd1, C.2.2.2.2.1 _ V⟩ ⟨zz_blind, fun U hU hW => ⟨rfl, zz_K.moved hW C.2.2.2.2.2.1, by rw [hU]; exact hR⟩⟩ rfl hn (by show ls.size = _; rw [hL.1, hnL]) hst (lv_room (zz_sum rest hrest)) hd (by rw [hr]; exact hc)) hl hL kk
theorem zz_callSN {Yc : My} {np idx d' mc' ms' : Nat} {host : String} {av st0 rest : List Value} {Q' : Option Value → Hp → Prop} (C : zz_C E X Y d mc ms Q) (M : zz_M Yc np) (V : Cond.static Yc.1 ∈ zz_W) (hk : Cond.methodLinkNest Y.1.cls idx Yc.1 host ∈ lw_tbl) (hnL : Y.2.2.1 = nL) (hn : av.length = np) (hst : st0 = av.reverse ++ rest) (hrest : rest.length ≤ 4) (hd1 : d' + 1 ≤ d)
    (hd : decode Y.2.1 pc = .ok (.invokestatic idx, 3)) (hq : pc + 3 = q) (hc : k + mc' ≤ mc ∧ n + ms' ≤ ms) (ok : Ok E Yc d' mc' ms' av h Q') (kk : ∀ r h', Q' r h' → GG E X nL (k + mc') (n + ms') q L (r.toList ++ rest) h') : GG E X nL k n pc L st0 h := by
  intro H locs ls hR hl hL
  have hr := C.2.2.2.2.2.2.1
  refine zz_cont hq (va_runSN (As := av) (rest := rest) ⟨C.1, C.2.1, C.2.2.1, C.2.2.2.1, C.2.2.2.2.1⟩ ok ⟨zz_callN C M hk hd1, C.2.2.2.2.1 _ V, trivial⟩ ⟨zz_blind, fun U hU hW => ⟨rfl, zz_K.moved hW C.2.2.2.2.2.1, by rw [hU]; exact hR⟩⟩ rfl hn (by show ls.size = _; rw [hL.1, hnL]) hst (lv_room (zz_sum rest hrest)) hd (by rw [hr]; exact hc)) hl hL kk
theorem zz_callI {Yc : My} {np idx d' mc' ms' b : Nat} {av st0 rest : List Value} {Q' : Option Value → Hp → Prop} (C : zz_C E X Y d mc ms Q) (M : zz_M Yc np) (V : zz_I Yc) (hv : Yc.2.2.2 = none) (hk : Cond.methodLink Y.1.cls idx Yc.1 ∈ zz_W) (hnL : Y.2.2.1 = nL) (hn : av.length = np) (hst : st0 = av.reverse ++ .ref b :: rest) (hrest : rest.length ≤ 4) (hd1 : d' + 1 ≤ d)
    (hd : decode Y.2.1 pc = .ok (.invokespecial idx, 3)) (hq : pc + 3 = q) (hc : k + mc' ≤ mc ∧ n + ms' ≤ ms) (ok : Ok E Yc d' mc' ms' (.ref b :: av) h Q') (kk : ∀ r h', Q' r h' → GG E X nL (k + mc') (n + ms') q L (r.toList ++ rest) h') : GG E X nL k n pc L st0 h := by
  intro H locs ls hR hl hL
  have hr := C.2.2.2.2.2.2.1
  have hB := zz_callB (mc' := mc') (ms' := ms') C M hk hd1
  rw [hv] at hB
  unfold Ok at ok
  rw [hv] at ok
  refine zz_cont hq (va_runI (As := av) (rest := rest) ⟨C.1, C.2.1, C.2.2.1, C.2.2.2.1, C.2.2.2.2.1⟩ ok ⟨hB, V.1, C.2.2.2.2.1 _ V.2⟩ ⟨zz_blind, fun U hU hW => ⟨rfl, zz_K.moved hW C.2.2.2.2.2.1, by rw [hU]; exact hR⟩⟩ rfl hn (by show ls.size = _; rw [hL.1, hnL]) hst (lv_room (zz_sum rest hrest)) hd (by rw [hr]; exact hc)) hl hL kk
theorem zz_callIN {Yc : My} {np idx d' mc' ms' b : Nat} {host : String} {av st0 rest : List Value} {Q' : Option Value → Hp → Prop} (C : zz_C E X Y d mc ms Q) (M : zz_M Yc np) (V : zz_I Yc) (hv : Yc.2.2.2 = none) (hk : Cond.methodLinkNest Y.1.cls idx Yc.1 host ∈ lw_tbl) (hnL : Y.2.2.1 = nL) (hn : av.length = np) (hst : st0 = av.reverse ++ .ref b :: rest) (hrest : rest.length ≤ 4) (hd1 : d' + 1 ≤ d)
    (hd : decode Y.2.1 pc = .ok (.invokespecial idx, 3)) (hq : pc + 3 = q) (hc : k + mc' ≤ mc ∧ n + ms' ≤ ms) (ok : Ok E Yc d' mc' ms' (.ref b :: av) h Q') (kk : ∀ r h', Q' r h' → GG E X nL (k + mc') (n + ms') q L (r.toList ++ rest) h') : GG E X nL k n pc L st0 h := by
  intro H locs ls hR hl hL
  have hr := C.2.2.2.2.2.2.1
  have hB := zz_callN (mc' := mc') (ms' := ms') C M hk hd1
  rw [hv] at hB
  unfold Ok at ok
  rw [hv] at ok
  refine zz_cont hq (va_runIN (As := av) (rest := rest) ⟨C.1, C.2.1, C.2.2.1, C.2.2.2.1, C.2.2.2.2.1⟩ ok ⟨hB, V.1, C.2.2.2.2.1 _ V.2⟩ ⟨zz_blind, fun U hU hW => ⟨rfl, zz_K.moved hW C.2.2.2.2.2.1, by rw [hU]; exact hR⟩⟩ rfl hn (by show ls.size = _; rw [hL.1, hnL]) hst (lv_room (zz_sum rest hrest)) hd (by rw [hr]; exact hc)) hl hL kk
theorem zg_max {idx : Nat} {x y : Int32} (C : zz_C E X Y d mc ms Q) (hk : Cond.methodLink Y.1.cls idx Lib.Math.max.name ∈ zz_W ∧ Cond.static Lib.Math.max.name ∈ zz_W ∧ Cond.initialized "java/lang/Math" ∈ zz_W ∧ Cond.code Lib.Math.max.name Lib.Math.max.code 2 (some .int) ∈ zz_W) (hnL : Y.2.2.1 = nL) (hd1 : 1 ≤ d) (hst : st.length ≤ 4) (hcm : k ≤ mc ∧ n ≤ ms) (hd : decode Y.2.1 pc = .ok (.invokestatic idx, 3)) (hq : pc + 3 = q)
    (g : GG E X nL k n q L (.int (if x < y then y else x) :: st) h) : GG E X nL k n pc L (.int y :: .int x :: st) h := by
  subst hq
  intro H locs ls hR hl hL
  have hr := C.2.2.2.2.2.2.1
  have hs := zz_sum st hst
  exact va_mmax C.1 C.2.1 (by rw [hL.1, C.2.2.1, hnL]) C.2.2.2.1 (C.2.2.2.2.1 _ hk.1) (C.2.2.2.2.1 _ hk.2.1) (C.2.2.2.2.1 _ hk.2.2.1) (C.2.2.2.2.1 _ hk.2.2.2) (by rw [hr]; exact hd1) (by rw [hr]; show _ ≤ 40 * d; omega) (by rw [hr]; exact hcm.1) (by rw [hr]; exact hcm.2) hd (g H locs ls hR hl hL)
theorem zg_min {idx : Nat} {x y : Int32} (C : zz_C E X Y d mc ms Q) (hk : Cond.methodLink Y.1.cls idx Lib.Math.min.name ∈ zz_W ∧ Cond.static Lib.Math.min.name ∈ zz_W ∧ Cond.initialized "java/lang/Math" ∈ zz_W ∧ Cond.code Lib.Math.min.name Lib.Math.min.code 2 (some .int) ∈ zz_W) (hnL : Y.2.2.1 = nL) (hd1 : 1 ≤ d) (hst : st.length ≤ 4) (hcm : k ≤ mc ∧ n ≤ ms) (hd : decode Y.2.1 pc = .ok (.invokestatic idx, 3)) (hq : pc + 3 = q)
    (g : GG E X nL k n q L (.int (if y < x then y else x) :: st) h) : GG E X nL k n pc L (.int y :: .int x :: st) h := by
  subst hq
  intro H locs ls hR hl hL
  have hr := C.2.2.2.2.2.2.1
  have hs := zz_sum st hst
  exact va_mmin C.1 C.2.1 (by rw [hL.1, C.2.2.1, hnL]) C.2.2.2.1 (C.2.2.2.2.1 _ hk.1) (C.2.2.2.2.1 _ hk.2.1) (C.2.2.2.2.1 _ hk.2.2.1) (C.2.2.2.2.1 _ hk.2.2.2) (by rw [hr]; exact hd1) (by rw [hr]; show _ ≤ 40 * d; omega) (by rw [hr]; exact hcm.1) (by rw [hr]; exact hcm.2) hd (g H locs ls hR hl hL)
theorem zg_abs {idx : Nat} {x : Int32} (C : zz_C E X Y d mc ms Q) (hk : Cond.methodLink Y.1.cls idx Lib.Math.abs.name ∈ zz_W ∧ Cond.static Lib.Math.abs.name ∈ zz_W ∧ Cond.initialized "java/lang/Math" ∈ zz_W ∧ Cond.code Lib.Math.abs.name Lib.Math.abs.code 1 (some .int) ∈ zz_W) (hnL : Y.2.2.1 = nL) (hd1 : 1 ≤ d) (hst : st.length ≤ 4) (hcm : k ≤ mc ∧ n ≤ ms) (hd : decode Y.2.1 pc = .ok (.invokestatic idx, 3)) (hq : pc + 3 = q)
    (g : GG E X nL k n q L (.int (if 0 ≤ x then x else 0 - x) :: st) h) : GG E X nL k n pc L (.int x :: st) h := by
  subst hq
  intro H locs ls hR hl hL
  have hr := C.2.2.2.2.2.2.1
  have hs := zz_sum st hst
  exact va_mabs C.1 C.2.1 (by rw [hL.1, C.2.2.1, hnL]) C.2.2.2.1 (C.2.2.2.2.1 _ hk.1) (C.2.2.2.2.1 _ hk.2.1) (C.2.2.2.2.1 _ hk.2.2.1) (C.2.2.2.2.1 _ hk.2.2.2) (by rw [hr]; exact hd1) (by rw [hr]; show _ ≤ 40 * d; omega) (by rw [hr]; exact hcm.1) (by rw [hr]; exact hcm.2) hd (g H locs ls hR hl hL)
end
def zmask : List Bool → List (Option Value) → List (Option Value)
  | [], _ => []
  | _ :: _, [] => []
  | true :: bs, v :: L => v :: zmask bs L
  | false :: bs, _ :: L => none :: zmask bs L
theorem zmask_get : ∀ (bs : List Bool) (L : List (Option Value)) (i : Nat) (v : Value), (zmask bs L)[i]? = some (some v) → L[i]? = some (some v)
  | [], _, _, _, h => by simp [zmask] at h
  | _ :: _, [], _, _, h => by simp [zmask] at h
  | true :: bs, w :: L, 0, v, h => by simpa [zmask] using h
  | true :: bs, w :: L, i + 1, v, h => by
    have h' : (zmask bs L)[i]? = some (some v) := by simpa [zmask] using h
    simpa using zmask_get bs L i v h'
  | false :: bs, w :: L, 0, v, h => by simp [zmask] at h
  | false :: bs, w :: L, i + 1, v, h => by
    have h' : (zmask bs L)[i]? = some (some v) := by simpa [zmask] using h
    simpa using zmask_get bs L i v h'
theorem zc_n : ∀ v ∈ ([] : List Value), v.category = 1 := fun v h => by cases h
theorem zc_i {x : Int32} {vs : List Value} (h : ∀ v ∈ vs, v.category = 1) : ∀ v ∈ (.int x :: vs), v.category = 1 := fun v hv => by
  rcases List.mem_cons.mp hv with e | hv
  · rw [e]; rfl
  · exact h v hv
theorem zc_a {x : Nat} {vs : List Value} (h : ∀ v ∈ vs, v.category = 1) : ∀ v ∈ (.ref x :: vs), v.category = 1 := fun v hv => by
  rcases List.mem_cons.mp hv with e | hv
  · rw [e]; rfl
  · exact h v hv
theorem zn_o {nm : String} (r : Option Nat) : narrow (.object nm) (va_rf r) = va_rf r ∧ fits (.object nm) (va_rf r) = true := by cases r <;> exact ⟨rfl, rfl⟩
def okC (E : Wd) (h : Hp) (a0 : Nat) (sp : Int32) (a : Nat) (dp n : Int32) : Prop := ∃ n0 n1 f g, h.2 a0 = some (.inl (eA E 0, n0, .inl f)) ∧ h.2 a = some (.inl (eA E 0, n1, .inl g)) ∧ a0 ≠ a ∧ ¬ sp < 0 ∧ ¬ dp < 0 ∧ ¬ n < 0 ∧ sp.toNatClampNeg + n.toNatClampNeg ≤ n0 ∧ dp.toNatClampNeg + n.toNatClampNeg ≤ n1
def cA (h : Hp) (a0 : Nat) (sp : Int32) (a : Nat) (dp n : Int32) : Hp := (h.1, fun b => if b = a then (match h.2 a0, h.2 a with
  | some (.inl (_, _, .inl f)), some (.inl (c, m, .inl g)) => some (.inl (c, m, .inl (va_cpy f g sp.toNatClampNeg dp.toNatClampNeg n.toNatClampNeg)))
  | _, z => z) else h.2 b)
def nM (E : Wd) (h : Hp) (N M : Nat) : Hp := (h.1 + 1 + N, fun b => if b = h.1 then some (.inl (eA E 2, N, .inr (.inr (.inr (.inr (fun i => if i < N then some (h.1 + 1 + i) else none))))))
  else if h.1 < b ∧ b < h.1 + 1 + N then some (.inl (eA E 0, M, .inl (fun _ => 0))) else h.2 b)
section
variable {E : Wd} {X : Mx} {Y : My} {d mc ms nL k n pc q t : Nat} {Q : Option Value → Hp → Prop} {L : List (Option Value)} {st : List Value} {h : Hp}
theorem zg_mask (bs : List Bool) (g : GG E X nL k n pc (zmask bs L) st h) : GG E X nL k n pc L st h := fun H locs ls hR hl hL => g H locs ls hR hl ⟨hL.1, hL.2.1, fun i v hi => hL.2.2 i v (zmask_get bs L i v hi)⟩
theorem zz_body2 {np r : Nat} {av : List Value} (hm : zz_M Y np) (hav : ∀ v ∈ av, v.category = 1) (hlen : av.length ≤ Y.2.2.1)
    (body : ∀ X : Mx, zz_C E X Y d mc ms Q → GG E X Y.2.2.1 0 0 0 (av.map some ++ List.replicate r none) [] h) : Ok E Y d mc ms av h Q := by
  refine zz_body hm hav hlen (fun i v hi => ?_) body
  by_cases hl : i < (av.map some).length
  · rwa [List.getElem?_append_left hl] at hi
  · rw [List.getElem?_append_right (by omega)] at hi
    have h1 := List.mem_of_getElem? hi
    have h2 := List.eq_of_mem_replicate h1
    cases h2
theorem zg_tabC {x y : Int32} {df lo hi off : Int} {offs : Array Int} {len : Nat} (C : zz_C E X Y d mc ms Q) (hd : decode Y.2.1 pc = .ok (.tableswitch df lo hi offs, len)) (e : x = y) (h1 : ¬ y.toInt < lo) (h2 : ¬ hi < y.toInt) (ho : offs[(y.toInt - lo).toNat]? = some off) (ht : (pc : Int) + off = (t : Int)) (g : GG E X nL k n t L st h) : GG E X nL k n pc L (.int x :: st) h := by
  subst e
  exact zg_tabIn C hd h1 h2 ho ht g
theorem zg_tabD {x : Int32} {df lo hi : Int} {offs : Array Int} {len : Nat} (cnt : Nat) (C : zz_C E X Y d mc ms Q) (hd : decode Y.2.1 pc = .ok (.tableswitch df lo hi offs, len)) (hx : ∀ j : Nat, j < cnt → ¬ x = Int32.ofInt (lo + (j : Int))) (hh : hi + 1 = lo + (cnt : Int)) (ht : (pc : Int) + df = (t : Int)) (g : GG E X nL k n t L st h) : GG E X nL k n pc L (.int x :: st) h := by
  refine zg_tabOut C hd ?_ ht g
  by_cases h1 : x.toInt < lo
  · exact Or.inl h1
  · by_cases h2 : hi < x.toInt
    · exact Or.inr h2
    · exfalso
      refine hx (x.toInt - lo).toNat (by omega) ?_
      have e : lo + (((x.toInt - lo).toNat : Nat) : Int) = x.toInt := by omega
      rw [e, Int32.ofInt_toInt]
theorem zg_look {x : Int32} {df off : Int} {ps : Array (Int × Int)} {len : Nat} (C : zz_C E X Y d mc ms Q) (hd : decode Y.2.1 pc = .ok (.lookupswitch df ps, len)) (hp : (ps.toList.zip (ps.toList.drop 1)).all (fun (a, next) => a.1 < next.1) = true) (ho : Op.lookupswitch.offset ps.toList df x.toInt = off) (ht : (pc : Int) + off = (t : Int)) (g : GG E X nL k n t L st h) : GG E X nL k n pc L (.int x :: st) h := by
  intro H locs ls hR hl hL
  exact lv_lookup C.1 C.2.1 hd hp ho ht (g H locs ls hR hl hL)
theorem zg_ldcS {idx : Nat} (C : zz_C E X Y d mc ms Q) (ho : (Y.1.cls = "EndgameTable$Reader" ∧ idx = 73) ∨ (Y.1.cls = "EndgameTableModel" ∧ idx = 108)) (hd : decode Y.2.1 pc = .ok (.ldc idx, 2)) (hq : pc + 2 = q) (g : GG E X nL k n q L (.ref (eS E) :: st) h) : GG E X nL k n pc L st h := by
  subst hq
  intro H locs ls hR hl hL
  rcases ho with ⟨e1, e2⟩ | ⟨e1, e2⟩
  · subst e2
    exact va_ldcS C.1 C.2.1 C.2.2.2.1 (by rw [e1]; exact C.2.2.2.2.2.1.2.1.1) hd (g H locs ls hR hl hL)
  · subst e2
    exact va_ldcS C.1 C.2.1 C.2.2.2.1 (by rw [e1]; exact C.2.2.2.2.2.1.2.1.2.1) hd (g H locs ls hR hl hL)
theorem zz_below {A : Nat → Prop} {H : Heap} (hR : zz_R E h H) (hA : ∀ q, eZ E ≤ q → A q) : ∀ a : Nat, a < (eH E).size → ¬ A a → H[a]? = (eH E)[a]? := fun a _ h2 => hR.2.2.2.2 a (by
  rcases Nat.lt_or_ge a (eZ E) with h | h
  · exact h
  · exact absurd (hA a h) h2)
theorem zg_copy {idx a0 a : Nat} {sp dp c : Int32} (C : zz_C E X Y d mc ms Q) (hk : Cond.methodLink Y.1.cls idx arraycopyName ∈ zz_W ∧ Cond.native arraycopyName ∈ zz_W ∧ Cond.static arraycopyName ∈ zz_W ∧ Cond.initialized "java/lang/System" ∈ zz_W) (hnL : Y.2.2.1 = nL) (hd1 : 1 ≤ d) (hst : st.length ≤ 4) (hd : decode Y.2.1 pc = .ok (.invokestatic idx, 3)) (hq : pc + 3 = q)
    (ho : okC E h a0 sp a dp c) (g : GG E X nL k n q L st (cA h a0 sp a dp c)) : GG E X nL k n pc L (.int c :: .int dp :: .ref a :: .int sp :: .ref a0 :: st) h := by
  subst hq
  obtain ⟨n0, n1, f, gg, h1, h2, hne, p1, p2, p3, p4, p5⟩ := ho
  intro H locs ls hR hl hL
  have hr := C.2.2.2.2.2.2.1
  have hs := zz_sum st hst
  have hP : va_P (eD E) vwCl [(a0, .inl (eA E 0, n0, .inl f)), (a, .inl (eA E 0, n1, .inl gg))] H := fun i x hx => by
    match i, hx with
    | 0, hx => cases hx; exact (hR.2.2.2.1 a0 _ h1).2
    | 1, hx => cases hx; exact (hR.2.2.2.1 a _ h2).2
    | i + 2, hx => simp at hx
  have hfit : ∀ z : Int32, fits .int (.int z) = true := fun _ => rfl
  intro T hT S
  have hc0 : H[a0]? = some (vp_cell (eA E 0) (n0, .inl f)) := hP 0 _ rfl
  have hc1 : H[a]? = some (vp_cell (eA E 0) (n1, .inl gg)) := hP 1 _ rfl
  obtain ⟨-, k0, hk0, cm0, hkk0⟩ := (C.2.2.2.2.2.1.1.2 0 _ rfl).1 n0 (fun j => .int (f j))
  obtain ⟨-, k1, hk1, cm1, hkk1⟩ := (C.2.2.2.2.2.1.1.2 0 _ rfl).1 n1 (fun j => .int (gg j))
  have e0 : nativeFrameWords "java/lang/System" "arraycopy" 5 ≤ 20 := by decide +kernel
  have nn : ∀ z : Int32, ¬ z < 0 → z.toInt = (z.toNatClampNeg : Int) := by
    intro z hz
    have hz0 : (0 : Int) ≤ z.toInt := by
      have := Int32.not_lt.mp hz
      simpa using Int32.le_iff_toInt_le.mp this
    show z.toInt = ((z.toInt.toNat : Nat) : Int)
    omega
  obtain ⟨vm', S', step⟩ := S.arraycopy C.1 C.2.2.2.1 (C.2.2.2.2.1 _ hk.1) (C.2.2.2.2.1 _ hk.2.1) (C.2.2.2.2.1 _ hk.2.2.1) (C.2.2.2.2.1 _ hk.2.2.2) (src := a0) (dst := a) (cs := vp_cell (eA E 0) (n0, .inl f)) (cd := vp_cell (eA E 0) (n1, .inl gg)) (srcPos := sp) (destPos := dp) (n := c) (by rw [hT]; exact hc0) (by rw [hT]; exact hc1)
    (fun _ h => by cases h) (fun _ h => by cases h) (fun h => by cases h) (fun h => by cases h) hk0 hk1 hkk0 hkk1 (by simp [show refKind .int = false from rfl]) p1 p2 p3
    (by rw [nn sp p1, nn c p3]; show ¬ _ > ((arrV (eA E 0) n0 (fun j => .int (f j))).slots.size : Int); rw [arrV_size]; omega)
    (by rw [nn dp p2, nn c p3]; show ¬ _ > ((arrV (eA E 0) n1 (fun j => .int (gg j))).slots.size : Int); rw [arrV_size]; omega)
    (fun vm₁ _ i hi => by
      have e : (vp_cell (eA E 0) (n0, .inl f)).slots.getD (sp.toNatClampNeg + i) .null = .int (f (sp.toNatClampNeg + i)) := by
        show (arrV (eA E 0) n0 (fun j => .int (f j))).slots.getD _ _ = _
        rw [Array.getD_eq_getD_getElem?, arrV_read _ _ (by omega)]
        rfl
      refine ⟨?_, ?_⟩
      · rw [e]
        exact hfit _
      · rw [e]
        exact trivial)
    (g := F0 (xM X) pc ls (.int c :: .int dp :: .ref a :: .int sp :: .ref a0 :: st)) rfl (by show ls.size = _; rw [hL.1, C.2.2.1, hnL]) (rest := st) rfl (by rw [C.2.1]; exact hd) (by rw [hr]; exact hd1) (by rw [hr]; show 2 * 0 + _ + (nativeFrameWords "java/lang/System" "arraycopy" 5 + 11) ≤ 40 * d; omega)
  have e1 : copied (vp_cell (eA E 0) (n0, .inl f)) (vp_cell (eA E 0) (n1, .inl gg)) sp dp c = vp_cell (eA E 0) (n1, .inl (va_cpy f gg sp.toNatClampNeg dp.toNatClampNeg c.toNatClampNeg)) := va_copied (fun z => .int z) (eA E 0) (eA E 0) f gg p4
  rw [e1] at S' step
  have hlt : a < H.size := (Array.getElem?_eq_some_iff.mp hc1).1
  have hheap : ((T.setVm vm').setCell a (vp_cell (eA E 0) (n1, .inl (va_cpy f gg sp.toNatClampNeg dp.toNatClampNeg c.toNatClampNeg)))).heap = H.setIfInBounds a (vp_cell (eA E 0) (n1, .inl (va_cpy f gg sp.toNatClampNeg dp.toNatClampNeg c.toNatClampNeg))) := by rw [← hT]; rfl
  have oq : ∀ q : Nat, q ≠ a → (H.setIfInBounds a (vp_cell (eA E 0) (n1, .inl (va_cpy f gg sp.toNatClampNeg dp.toNatClampNeg c.toNatClampNeg))))[q]? = H[q]? := fun q hq => by simp [Array.getElem?_setIfInBounds, Ne.symm hq]
  have h0 : eZ E ≤ a := (hR.2.2.2.1 a _ h2).1
  have hcA : (cA h a0 sp a dp c).2 a = some (.inl (eA E 0, n1, .inl (va_cpy f gg sp.toNatClampNeg dp.toNatClampNeg c.toNatClampNeg))) := by simp [cA, h1, h2]
  have hR' : zz_R E (cA h a0 sp a dp c) (H.setIfInBounds a (vp_cell (eA E 0) (n1, .inl (va_cpy f gg sp.toNatClampNeg dp.toNatClampNeg c.toNatClampNeg)))) :=
    zz_Rset hR rfl (fun b hb => by simp [cA, hb]) h0 (fun o ho => by
      rw [hcA] at ho
      cases ho
      show (H.setIfInBounds a _)[a]? = some _
      simp [Array.getElem?_setIfInBounds, hlt]) (by simp) oq
  obtain ⟨t2, a1, b1⟩ := g _ _ ls hR' (fun z hz => by
    rcases List.mem_append.mp hz with h | h
    · exact hl z h
    · obtain ⟨y, -, hy⟩ := List.mem_map.mp h
      rw [← hy]
      exact h0) hL _ hheap S'
  exact ⟨t2, step t2 a1, b1⟩
theorem zz_outer (c : ClassId) (N h0 : Nat) : ∀ i : Nat, Jvm.Free.Multi.outerC c N h0 i = arrV c N (fun j => va_rf (if j < i then some (h0 + 1 + j) else none))
  | 0 => by
    show ({ cls := c, slots := Array.replicate N .null, vm := .none } : Cell) = _
    rw [arrV_new]
    refine congrArg (arrV c N) (funext fun j => ?_)
    simp [va_rf]
  | i + 1 => by
    show (Jvm.Free.Multi.outerC c N h0 i).setSlot i (.ref (h0 + 1 + i)) = _
    rw [zz_outer c N h0 i, arrV_store]
    refine congrArg (arrV c N) (funext fun j => ?_)
    by_cases e : j = i
    · subst e
      simp [updV, va_rf]
    · by_cases h : j < i
      · simp [updV, e, h, Nat.lt_succ_of_lt h]
      · simp [updV, e, h, show ¬ j < i + 1 by omega]
theorem zg_mna {idx N M : Nat} {c1 c2 : Int32} (C : zz_C E X Y d mc ms Q) (hk : Cond.arrayClass .int ∈ zz_W) (hk2 : Cond.classLink Y.1.cls idx "[[I" ∈ zz_W) (hd : decode Y.2.1 pc = .ok (.multianewarray idx 2, 4)) (hq : pc + 4 = q)
    (hn : ¬ c1 < 0) (hm : ¬ c2 < 0) (hN : c1.toNatClampNeg = N) (hM : c2.toNatClampNeg = M) (hb1 : N * 4 ≤ 536870912) (hb2 : M * 4 ≤ 536870912) (hc : k + (1 + N) ≤ mc ∧ n + (N + N * M) ≤ ms) (g : GG E X nL (k + (1 + N)) (n + (N + N * M)) q L (.ref h.1 :: st) (nM E h N M)) : GG E X nL k n pc L (.int c2 :: .int c1 :: st) h := by
  subst hq
  subst hN
  subst hM
  intro H locs ls hR hl hL T hT S
  have hr := C.2.2.2.2.2.2.1
  obtain ⟨vm₁, cA, comp, -, fA, fC, hO, -, S', step⟩ := S.multianewarray2F (ty := .int) C.1 C.2.2.2.1 (C.2.2.2.2.1 _ hk2) (show (Cond.arrayOver (.array .int)).before (xA X) (xS X) = true from C.2.2.2.2.2.1.2.2.2.2) (C.2.2.2.2.1 _ hk) (g := F0 (xM X) pc ls (.int c2 :: .int c1 :: st)) rfl (by rw [C.2.1]; exact hd) rfl hn hm hb1 hb2 (by omega) rfl rfl (by rw [hr]; exact hc.1) (by rw [hr]; exact hc.2)
  have hI := (C.2.2.2.2.2.1.1.2 0 _ rfl).2
  have hI2 := (C.2.2.2.2.2.1.1.2 2 _ rfl).2
  have e0 : eA E 0 = comp := Option.some.inj (hI.symm.trans fC)
  have e2 : eA E 2 = cA := Option.some.inj (hI2.symm.trans fA)
  subst e0
  subst e2
  generalize hF : Jvm.Free.Multi.fill (T.setVm vm₁) (eA E 2) (eA E 0) c1.toNatClampNeg c2.toNatClampNeg (defaultValue .int) c1.toNatClampNeg = F at S' step
  have hTh : (T.setVm vm₁).heap = H := hT
  obtain ⟨f1, f2, -, -⟩ := Jvm.Free.Multi.fill_facts (T.setVm vm₁) (eA E 2) (eA E 0) c1.toNatClampNeg c2.toNatClampNeg (defaultValue .int) c1.toNatClampNeg
  rw [hF, hTh] at f1 f2
  have hold : ∀ x : Nat, x < H.size → F.heap[x]? = H[x]? := fun x hx => by
    have := Jvm.Free.Multi.fill_old (T.setVm vm₁) (eA E 2) (eA E 0) c1.toNatClampNeg c2.toNatClampNeg (defaultValue .int) (a := x) (by rw [hTh]; exact hx) c1.toNatClampNeg
    rw [hF, hTh] at this
    exact this
  have hrow : ∀ j : Nat, j < c1.toNatClampNeg → F.heap[H.size + 1 + j]? = some (vp_cell (eA E 0) (c2.toNatClampNeg, .inl (fun _ => 0))) := fun j hj => by
    have := Jvm.Free.Multi.fill_inner (T.setVm vm₁) (eA E 2) (eA E 0) c1.toNatClampNeg c2.toNatClampNeg (defaultValue .int) c1.toNatClampNeg j hj
    rw [hF, hTh] at this
    rw [this, vp_cell_i, ← arrV_new]
    rfl
  rw [zz_outer] at f2
  obtain ⟨r1, r2, r3, r4, r5⟩ := hR
  have hR' : zz_R E (nM E h c1.toNatClampNeg c2.toNatClampNeg) F.heap := by
    refine ⟨by rw [f1, r1]; simp [nM]; try omega, by simp only [nM]; omega, r3, fun b o hb => ?_, fun q hq => ?_⟩
    · simp only [nM] at hb
      by_cases g1 : b = h.1
      · rw [if_pos g1] at hb
        cases hb
        subst g1
        refine ⟨r2, ?_⟩
        show F.heap[h.1]? = some (vp_cell _ _)
        rw [← r1, f2, vp_cell_q]
      · rw [if_neg g1] at hb
        by_cases g2 : h.1 < b ∧ b < h.1 + 1 + c1.toNatClampNeg
        · rw [if_pos g2] at hb
          cases hb
          refine ⟨by omega, ?_⟩
          have := hrow (b - h.1 - 1) (by omega)
          rw [r1, show h.1 + 1 + (b - h.1 - 1) = b by omega] at this
          exact this
        · rw [if_neg g2] at hb
          obtain ⟨q1, q2⟩ := r4 b o hb
          exact ⟨q1, q2.kept (hold b q2.lt)⟩
    · rw [hold q (by omega)]
      exact r5 q hq
  have hs : H.size = h.1 := r1
  rw [Nat.add_assoc, Nat.add_assoc] at S'
  obtain ⟨t2, a1, b1⟩ := g F.heap _ ls hR' hl hL F rfl S'
  have hTs : (T.setVm vm₁).heap.size = h.1 := by rw [hTh]; exact r1
  refine ⟨t2, step t2 ?_, b1⟩
  first | exact a1 | (rw [hTs]; exact a1) | (rw [hT, hs]; exact a1) | simpa [hT, hs] using a1
end
theorem zz_callT {E : Wd} {X : Mx} {Y : My} {d mc ms nL k n pc q : Nat} {Q : Option Value → Hp → Prop} {L : List (Option Value)} {h : Hp} {Yc : My} {np idx d' mc' ms' b : Nat} {av st0 rest : List Value} {Q' : Option Value → Hp → Prop} (C : zz_C E X Y d mc ms Q) (M : zz_M Yc np) (V : zz_V Yc) (hk : Cond.methodLink Y.1.cls idx Yc.1 ∈ zz_W) (hnL : Y.2.2.1 = nL) (ho : b = eS E) (hcl : Yc.1.cls = "java/lang/String") (hn : av.length = np) (hst : st0 = av.reverse ++ .ref b :: rest) (hrest : rest.length ≤ 4) (hd1 : d' + 1 ≤ d)
    (hd : decode Y.2.1 pc = .ok (.invokevirtual idx, 3)) (hq : pc + 3 = q) (hc : k + mc' ≤ mc ∧ n + ms' ≤ ms) (ok : Ok E Yc d' mc' ms' (.ref b :: av) h Q') (kk : ∀ r h', Q' r h' → GG E X nL (k + mc') (n + ms') q L (r.toList ++ rest) h') : GG E X nL k n pc L st0 h := by
  intro H locs ls hR hl hL
  have hr := C.2.2.2.2.2.2.1
  obtain ⟨cell, g1, g2, g3, g4⟩ := (C.2.2.2.2.2.1.2.1.2.2.1.1 0 (by decide)).1
  refine zz_cont hq (va_runV (As := av) (rest := rest) (C := Yc.1.cls) ⟨C.1, C.2.1, C.2.2.1, C.2.2.2.1, C.2.2.2.2.1⟩ ok ⟨zz_callB C M hk hd1, C.2.2.2.2.1 _ V.1, C.2.2.2.2.1 _ V.2⟩ ⟨zz_blind, ⟨cell, ?_, g2, by rw [hcl]; exact g3⟩, fun U hU hW => ⟨rfl, zz_K.moved hW C.2.2.2.2.2.1, by rw [hU]; exact hR⟩⟩ rfl hn (by show ls.size = _; rw [hL.1, hnL]) hst (lv_room (zz_sum rest hrest)) hd (by rw [hr]; exact hc)) hl hL kk
  rw [ho, hR.2.2.2.2 (eS E) (Nat.lt_of_not_le g4)]
  exact g1
