/-! THE ENGINE: writes, told of its heap -/
theorem eTy_ok {ty : FieldType} {v : Value} (base b : Nat) (h : eTy ty v = true) : narrow ty (eV base b v) = eV base b v ∧ fits ty (eV base b v) = true := by
  cases ty <;> cases v <;> first | exact ⟨rfl, rfl⟩ | (simp [eTy] at h)
theorem va_SA {base : Nat} {s : State} (hb : base ≤ s.heap.size) : ∀ q : Nat, s.heap.size ≤ q → base ≤ q := fun _ h => Nat.le_trans hb h
section Sto
variable {p : Program} {l : Launch} {e : Env} {R : Room} {s : State} {m : MethodId} {args : Array Value} {below : List Frame} {meth : Method} {c : Code} {H H0 : Heap} {locs : List Loc} {cells slots : Nat} {Q : State → Prop}
variable {cc : ByteArray} {pc : Nat} {ls : Array Slot} {rest : List Value} {D : va_G} {dA : Nat → ClassId} {base b : Nat} {h : eH}
theorem e_put (hexec : p.tables.exec = Jvm.exec) (hb : c.code = cc) {own C : String} {T : u_T} {N ci index : Nat} {Ts : List Cond} (hts : ∀ w ∈ Ts, w.before args s = true) (hin : ∀ w ∈ u_ws C T N, w ∈ Ts) (ty0 : Nat → FieldType) (hty : ∀ k, k < N → parseFieldDescriptor (T k).2.2.1 = some (ty0 k)) (hnm : ∀ a, a < N → ∀ b, b < N → a ≠ b → (T a).2.1 ≠ (T b).2.1) (hown : s.vm.findClass own = some m.cls) (hK : va_K D vwCl [] s) (hR : eRH D dA base b h H) (hS0 : va_S (fun q => base ≤ q) H0 H locs) {q0 : Nat} {fs : List Value} (he : h.2[q0]? = some (.inr (ci, fs))) (hc : vwCl[ci]? = some (C, T, N)) (k : Nat) (hk : k < N) (hlink : (Cond.fieldLink own index (T k).1 (T k).2.1 (T k).2.2.1).before args s = true) (hfin : (T k).2.2.2 = true → meth.name = "<init>" ∧ (T k).1 = own) {ty : FieldType} {v : Value} (hd : parseFieldDescriptor (T k).2.2.1 = some ty) (hn : narrow ty (eV base b v) = eV base b v) (hfit : fits ty (eV base b v) = true) (hl : k < fs.length)
    (hdg : decode cc pc = .ok (.putfield index, 3)) (kk : ∀ (H1 : Heap) (locs1 : List Loc), eRH D dA base b (h.1, h.2.set q0 (.inr (ci, fs.set k v))) H1 → va_S (fun q => base ≤ q) H0 H1 locs1 → W p l e R s m args below meth c H1 locs1 cells slots Q (F0 m (pc + 3) ls rest)) : W p l e R s m args below meth c H locs cells slots Q (F0 m pc ls (eV base b v :: .ref (base + q0) :: rest)) := by
  have hap := va_apart (own := own) hts hin ty0 hty hnm hK hc
  obtain ⟨r, h1, cell, q1, q2, q3, q4⟩ := hR.1 q0 _ he
  have hr : r = (C, T, N) := Option.some.inj (h1.symm.trans hc)
  subst hr
  obtain ⟨hS, hfc, kC, hkC, hkind⟩ := hK.1 ci _ hc
  obtain ⟨cf, kf, fi, f, hi, hsl⟩ := hS k hk
  have hlay := hts _ (hin _ (u_in_lay hk))
  unfold u_lay at hlay
  have hst := (u_facts hfc hkC (u_lays hts hin hk) hi).1
  have hend : ∀ (H' : Heap), H'[base + q0]? = some (cell.setSlot f.slot (eV base b v)) → H'.size = H.size → (∀ q, q ≠ base + q0 → H'[q]? = H[q]?) → W p l e R s m args below meth c H' (locs ++ [⟨base + q0, f.slot⟩]) cells slots Q (F0 m (pc + 3) ls rest) := by
    intro H' e1 e2 e3
    rw [hsl] at e1 ⊢
    refine kk H' _ (hR.set he ⟨_, hc, ?_⟩ e2 e3) (hS0.put e2 e3 (Nat.le_add_right _ _))
    refine t_OB.to (V := updV (vp_V (fs.map (eV base b))) k (eV base b v)) ⟨_, e1, q2, q3, t_set q4 hap hk (eV base b v)⟩ (fun j _ => ?_)
    have h9 := vp_updV_set (fs := fs.map (eV base b)) (k := k) (by rw [List.length_map]; exact hl) (eV base b v) j
    rw [h9, List.map_set]
  cases hf : (T k).2.2.2 with
  | false =>
    rw [if_neg (by rw [hf]; decide)] at hlay
    have h6 := u_store hfc hkC hkind hlay hi hd hn hfit
    exact W.putK hexec hb (f := f) ⟨hown, hlink, ⟨_, _, _, hi⟩, hst⟩ (by rw [q2]; exact h6) q1 q3 (by rw [hsl]; exact k2_hasslot (q4 k hk)) rfl rfl hdg hend
  | true =>
    rw [if_pos hf] at hlay
    obtain ⟨hin2, hdecl⟩ := hfin hf
    have hcf : m.cls = cf := by
      obtain ⟨_, _, c', _, _, _, -, -, hf', -, -, -, hown2, -⟩ := Cond.laysFinal_spec hlay
      have e1 : c' = cf := by have := hi.symm.trans hf'; simp at this; exact this.1.symm
      rw [hdecl] at hown2
      rw [← e1]; exact Option.some.inj (hown.symm.trans hown2)
    have h6 := u_fits hfc hkC hkind (Or.inr hlay) hi hd hn hfit
    exact W.putFinK hexec hb hown hlink hi hst hcf hin2 (by rw [q2]; exact h6) q1 q3 (by rw [hsl]; exact k2_hasslot (q4 k hk)) rfl rfl hdg hend
theorem e_iast (hexec : p.tables.exec = Jvm.exec) (hb : c.code = cc) (hAr : ArrOfT s (dA 0) .int) (hR : eRH D dA base b h H) (hS : va_S (fun q => base ≤ q) H0 H locs) {q0 n : Nat} {f : Nat → Int32} (he : h.2[q0]? = some (.inl (0, n, .inl f))) {i : Int32} {x : Int32} (hin : vp_in i n) (hdg : decode cc pc = .ok (.iastore, 1))
    (kk : ∀ (H1 : Heap) (locs1 : List Loc), eRH D dA base b (h.1, h.2.set q0 (.inl (0, n, .inl (upd f i.toNatClampNeg x)))) H1 → va_S (fun q => base ≤ q) H0 H1 locs1 → W p l e R s m args below meth c H1 locs1 cells slots Q (F0 m (pc + 1) ls rest)) : W p l e R s m args below meth c H locs cells slots Q (F0 m pc ls (.int x :: .int i :: .ref (base + q0) :: rest)) := by
  refine W.iast hexec hb (hR.1 q0 _ he) (hAr n (fun j => .int (f j))) (fun q => by cases q) (by show ¬ (i < 0 ∨ (arrV _ _ _).slots.size ≤ _); rw [arrV_size]; exact hin) rfl rfl hdg fun H1 e z oq => ?_
  refine kk H1 _ (hR.set he ?_ z oq) (hS.put z oq (Nat.le_add_right _ _))
  show H1[base + q0]? = some (vp_cell _ _)
  rw [e]
  show some (Cell.setSlot (vp_cell (dA 0) (n, .inl f)) _ _) = some (vp_cell (dA 0) (n, .inl _))
  rw [vp_cell_i, vp_cell_i, arrV_store]
  congr 2
  funext q
  by_cases hq : q = i.toNatClampNeg
  · subst hq
    simp [updV, upd]
  · simp [updV, upd, hq]
theorem e_zast (hexec : p.tables.exec = Jvm.exec) (hb : c.code = cc) (hAr : ArrOfT s (dA 1) .boolean) (hR : eRH D dA base b h H) (hS : va_S (fun q => base ≤ q) H0 H locs) {q0 n : Nat} {f : Nat → Int32} (he : h.2[q0]? = some (.inl (1, n, .inl f))) {i : Int32} {x : Int32} (hin : vp_in i n) (hdg : decode cc pc = .ok (.bastore, 1))
    (kk : ∀ (H1 : Heap) (locs1 : List Loc), eRH D dA base b (h.1, h.2.set q0 (.inl (1, n, .inl (upd f i.toNatClampNeg (vp_nar .boolean x))))) H1 → va_S (fun q => base ≤ q) H0 H1 locs1 → W p l e R s m args below meth c H1 locs1 cells slots Q (F0 m (pc + 1) ls rest)) : W p l e R s m args below meth c H locs cells slots Q (F0 m pc ls (.int x :: .int i :: .ref (base + q0) :: rest)) := by
  refine W.zast hexec hb (hR.1 q0 _ he) (hAr n (fun j => .int (f j))) (fun q => by cases q) (by show ¬ (i < 0 ∨ (arrV _ _ _).slots.size ≤ _); rw [arrV_size]; exact hin) rfl rfl hdg fun H1 e z oq => ?_
  refine kk H1 _ (hR.set he ?_ z oq) (hS.put z oq (Nat.le_add_right _ _))
  show H1[base + q0]? = some (vp_cell _ _)
  rw [e]
  show some (Cell.setSlot (vp_cell (dA 1) (n, .inl f)) _ _) = some (vp_cell (dA 1) (n, .inl _))
  rw [vp_cell_i, vp_cell_i, arrV_store]
  congr 2
  funext q
  by_cases hq : q = i.toNatClampNeg
  · subst hq
    simp [updV, upd, vp_nar, narrow]
  · simp [updV, upd, hq]
theorem e_last (hexec : p.tables.exec = Jvm.exec) (hb : c.code = cc) (hAr : ArrOfT s (dA 2) .long) (hR : eRH D dA base b h H) (hS : va_S (fun q => base ≤ q) H0 H locs) {q0 n : Nat} {f : Nat → Int64} (he : h.2[q0]? = some (.inl (2, n, .inr (.inl f)))) {i : Int32} {x : Int64} (hin : vp_in i n) (hdg : decode cc pc = .ok (.lastore, 1))
    (kk : ∀ (H1 : Heap) (locs1 : List Loc), eRH D dA base b (h.1, h.2.set q0 (.inl (2, n, .inr (.inl (vp_updL f i.toNatClampNeg x))))) H1 → va_S (fun q => base ≤ q) H0 H1 locs1 → W p l e R s m args below meth c H1 locs1 cells slots Q (F0 m (pc + 1) ls rest)) : W p l e R s m args below meth c H locs cells slots Q (F0 m pc ls (.long x :: .int i :: .ref (base + q0) :: rest)) := by
  refine W.last hexec hb (hR.1 q0 _ he) (hAr n (fun j => .long (f j))) (fun q => by cases q) (by show ¬ (i < 0 ∨ (arrV _ _ _).slots.size ≤ _); rw [arrV_size]; exact hin) rfl rfl hdg fun H1 e z oq => ?_
  refine kk H1 _ (hR.set he ?_ z oq) (hS.put z oq (Nat.le_add_right _ _))
  show H1[base + q0]? = some (vp_cell _ _)
  rw [e]
  show some (Cell.setSlot (vp_cell (dA 2) (n, .inr (.inl f))) _ _) = some (vp_cell (dA 2) (n, .inr (.inl _)))
  rw [vp_cell_l, vp_cell_l, arrV_store]
  congr 2
  funext q
  by_cases hq : q = i.toNatClampNeg
  · subst hq
    simp [updV, vp_updL]
  · simp [updV, vp_updL, hq]
theorem e_dast (hexec : p.tables.exec = Jvm.exec) (hb : c.code = cc) (hAr : ArrOfT s (dA 3) .double) (hR : eRH D dA base b h H) (hS : va_S (fun q => base ≤ q) H0 H locs) {q0 n : Nat} {f : Nat → UInt64} (he : h.2[q0]? = some (.inl (3, n, .inr (.inr (.inr (.inl f)))))) {i : Int32} {x : UInt64} (hin : vp_in i n) (hdg : decode cc pc = .ok (.dastore, 1))
    (kk : ∀ (H1 : Heap) (locs1 : List Loc), eRH D dA base b (h.1, h.2.set q0 (.inl (3, n, .inr (.inr (.inr (.inl (vf_upd f i.toNatClampNeg x))))))) H1 → va_S (fun q => base ≤ q) H0 H1 locs1 → W p l e R s m args below meth c H1 locs1 cells slots Q (F0 m (pc + 1) ls rest)) : W p l e R s m args below meth c H locs cells slots Q (F0 m pc ls (.double x :: .int i :: .ref (base + q0) :: rest)) := by
  refine W.dast hexec hb (hR.1 q0 _ he) (hAr n (fun j => .double (f j))) (fun q => by cases q) (by show ¬ (i < 0 ∨ (arrV _ _ _).slots.size ≤ _); rw [arrV_size]; exact hin) rfl rfl hdg fun H1 e z oq => ?_
  refine kk H1 _ (hR.set he ?_ z oq) (hS.put z oq (Nat.le_add_right _ _))
  show H1[base + q0]? = some (vp_cell _ _)
  rw [e]
  show some (Cell.setSlot (vp_cell (dA 3) (n, .inr (.inr (.inr (.inl f))))) _ _) = some (vp_cell (dA 3) (n, .inr (.inr (.inr (.inl _)))))
  rw [vp_cell_d, vp_cell_d, arrV_store]
  congr 2
  funext q
  by_cases hq : q = i.toNatClampNeg
  · subst hq
    simp [updV, vf_upd]
  · simp [updV, vf_upd, hq]
theorem e_astq (hexec : p.tables.exec = Jvm.exec) (hb : c.code = cc) (hK : va_K D vwCl [] s) (hRA : va_RA s (dA 4) (.object RX1)) (hR : eRH D dA base b h H) (hS : va_S (fun q => base ≤ q) H0 H locs) {q0 z n : Nat} {fs : List Value} {f : Nat → Option Nat} (he : h.2[q0]? = some (.inl (4, n, .inr (.inr (.inr (.inr f)))))) (hv : h.2[z]? = some (.inr (1, fs))) {i : Int32} (hin : vp_in i n) (hdg : decode cc pc = .ok (.aastore, 1))
    (kk : ∀ (H1 : Heap) (locs1 : List Loc), eRH D dA base b (h.1, h.2.set q0 (.inl (4, n, .inr (.inr (.inr (.inr (va_up f i.toNatClampNeg (some (z + 1)))))))) ) H1 → va_S (fun q => base ≤ q) H0 H1 locs1 → W p l e R s m args below meth c H1 locs1 cells slots Q (F0 m (pc + 1) ls rest)) : W p l e R s m args below meth c H locs cells slots Q (F0 m pc ls (.ref (base + z) :: .int i :: .ref (base + q0) :: rest)) := by
  have hlt : i.toNatClampNeg < n := Nat.not_le.mp fun q => hin (Or.inr q)
  have h0 : ¬ i < 0 := fun q => hin (Or.inl q)
  obtain ⟨r', hr', cellV, g1, g2, g3, -⟩ := hR.1 z _ hv
  have hcls := (hK.1 1 (RX1, TX1, 2) rfl).2
  obtain ⟨kA, comp, k1, k2, k3, -⟩ := hRA
  have hcomp : comp = D.1 1 := Option.some.inj (k3.symm.trans hcls.1)
  subst hcomp
  obtain ⟨kC, hkC, -⟩ := hcls.2
  refine W.aast hexec hb (hR.1 q0 _ he) (fun q h => by cases h) (fun h => by cases h) k1 k2 rfl hkC ⟨h0, by show _ < (arrV _ _ _).slots.size; rw [arrV_size]; exact hlt⟩ g1 (fun q h => by rw [g3] at h; cases h) (by rw [g2]; exact hkC) (by rw [g2]; exact va_assign hcls) rfl rfl hdg fun H1 e zz oq => ?_
  refine kk H1 _ (hR.set he ?_ zz oq) (hS.put zz oq (Nat.le_add_right _ _))
  show H1[base + q0]? = some (vp_cell _ _)
  rw [e]
  show some (Cell.setSlot (vp_cell (dA 4) (n, .inr (.inr (.inr (.inr _))))) _ _) = some (vp_cell (dA 4) (n, .inr (.inr (.inr (.inr _)))))
  rw [vp_cell_q, vp_cell_q, arrV_store]
  congr 2
  funext q
  by_cases hq : q = i.toNatClampNeg
  · subst hq
    simp [updV, va_up, va_rf, eAd]
  · simp [updV, va_up, hq]
end Sto
