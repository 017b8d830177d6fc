/-! THE ENGINE: one step of it is one instruction of the machine -/
theorem eEV.same {S : Nat × (Nat → Int32)} {D : va_G} {dA : Nat → ClassId} {base b : Nat} {u U : State} (hE : eEV S D dA base b u) (hv : u.vm = U.vm) (hh : U.heap = u.heap) : eEV S D dA base b U := by
  obtain ⟨h1, h2, h3, h4, h5, h6, h7, h8, h9, h10, h11⟩ := hE
  have hal : u.vm.Alike U.vm := by rw [hv]; exact Vm.Alike.refl _
  refine ⟨fun w hw => va_Nw.same (eNg_good hw.2) hv (h1 w hw), fun own k tx hm => ?_, ?_, ?_, va_AO.moved hal h5, va_K.moved hal h6, fun t ht => ⟨arrOfT_moved hal (h7 t ht).1, va_RA.moved hal (h7 t ht).2⟩, ?_, h9, by rw [hh]; exact h10, fun E n a1 a2 a3 => va_Nc.moved hal (h11 E n a1 a2 a3)⟩
  · obtain ⟨a, ha⟩ := h2 own k tx hm
    exact ⟨a, vk_R.same hv.symm ha⟩
  · rw [hh]; exact vx_Zq.moved hal h3
  · rw [hh]; exact vx_Zq.moved hal h4
  · rw [hh]; exact va_X.moved hal h8
theorem eEV.warm {S : Nat × (Nat → Int32)} {D : va_G} {dA : Nat → ClassId} {base b : Nat} {s U : State} (hE : eEV S D dA base b s) (hW : s.WarmedH U.vm) (hz : s.heap.size ≤ U.heap.size) (hq : ∀ q : Nat, q < s.heap.size → ¬ base ≤ q → U.heap[q]? = s.heap[q]?) : eEV S D dA base b U := by
  obtain ⟨h1, h2, h3, h4, h5, h6, h7, h8, h9, h10, h11⟩ := hE
  have hal : s.vm.Alike U.vm := hW.alike
  refine ⟨fun w hw => eNg_warm hw.2 hW (h1 w hw), fun own k tx hm => ?_, vx_Zq.kept (vx_Zq.moved hal h3) hq, vx_Zq.kept (vx_Zq.moved hal h4) hq, va_AO.moved hal h5, va_K.moved hal h6, fun t ht => ⟨arrOfT_moved hal (h7 t ht).1, va_RA.moved hal (h7 t ht).2⟩, va_X.kept (va_X.moved hal h8) (hq b (Nat.lt_of_lt_of_le h9 h10) (Nat.not_le.mpr h9)), h9, Nat.le_trans h10 hz, fun E n a1 a2 a3 => va_Nc.moved hal (h11 E n a1 a2 a3)⟩
  obtain ⟨a, ha⟩ := h2 own k tx hm
  exact ⟨a, vk_R.warm hW ha⟩
/-- what a call that ends as Q wants promises of the machine -/
def eCon (S : Nat × (Nat → Int32)) (T : Nat → eM) (l : Launch) (D : va_G) (dA : Nat → ClassId) (base b d m' : Nat) (as : List Value) (h : eH) (Q : eQ) : Prop :=
  vx_Met l (mNm (T m')) (mWd (T m') :: lw_tbl.filter goodWord) { frames := d, cells := (mCo (T m')).1, slots := (mCo (T m')).2, locals := 31 * d }
    (va_Pc (as.map (eV base b)) (fun U => eEV S D dA base b U ∧ eRH D dA base b h U.heap))
    (fun _ st o t => ∃ (v : Option Value) (h' : eH), o = .returned (v.map (eV base b)) ∧ Q (.inl v) h' ∧ eRH D dA base b h' t.heap ∧ va_F (fun q => base ≤ q) st t)
    (fun E st t => ∃ (n : Nat) (h' : eH), n ≤ 3 ∧ E = exN n ∧ Q (.inr n) h' ∧ eRH D dA base b h' t.heap ∧ va_F (fun q => base ≤ q) st t)
    (mCo (T m')).1 (mCo (T m')).2 (fun q => base ≤ q)
theorem eCon_blind {S : Nat × (Nat → Int32)} {D : va_G} {dA : Nat → ClassId} {base b : Nat} {av : List Value} {h : eH} : FrameBlind (va_Pc av (fun U => eEV S D dA base b U ∧ eRH D dA base b h U.heap)) := by
  intro a U g mk q
  obtain ⟨q1, q2, q3⟩ := q
  exact ⟨q1, eEV.same (u := U) (U := U.calling g mk a) q2 rfl rfl, q3⟩
def eSim (p : Program) (l : Launch) (e : Env) (R : Room) (s : State) (m : MethodId) (args : Array Value) (below : List Frame) (meth : Method) (c : Code) (D : va_G) (dA : Nat → ClassId) (base b nL : Nat) (Fin : State → Prop) : eK := fun pc ls st h kc ks =>
  ∀ (H : Heap) (locs : List Loc) (lsA : Array Slot), eRH D dA base b h H → va_S (fun q => base ≤ q) s.heap H locs → lv_has lsA nL (eLs base b ls) → W p l e R s m args below meth c H locs kc ks Fin (F0 m pc lsA (st.map (eV base b)))
def eRtI (M : eM) (i : Instr) (v : Option Value) : Prop :=
  (i = .ireturn ∧ ∃ x, v = some (.int x) ∧ eNar (mRt M) x) ∨ (i = .lreturn ∧ (∃ x, v = some (.long x)) ∧ mRt M = some .long) ∨ (i = .freturn ∧ (∃ x, v = some (.float x)) ∧ mRt M = some .float) ∨ (i = .dreturn ∧ (∃ x, v = some (.double x)) ∧ mRt M = some .double) ∨ (i = .areturn ∧ (∃ x, v = some (.ref x)) ∧ ∃ C9, mRt M = some (.object C9)) ∨ (i = .return_ ∧ v = none ∧ mRt M = none)
theorem eHnd_s {own : String} {args : Array Value} {s : State} {pc E : Nat} (hN : ∀ E n, E ≤ 3 → n ≤ 3 → E ≠ n → va_Nc (exN E) (exN n) s) (hE : E ≤ 3) : ∀ {hh : List (Nat × Nat × Nat × Nat)} {hp : Nat} (_ : ∀ x ∈ hh, x.2.2.2 ≠ 0 ∧ eHc x.2.2.2 ≤ 3 ∧ (Cond.classLink own x.2.2.2 (exN (eHc x.2.2.2))).before args s = true), eHnd hh pc E = some hp →
    ∃ (pre : List ExceptionTableEntry) (x : ExceptionTableEntry) (suf : List ExceptionTableEntry), tableOf hh = pre ++ x :: suf ∧ (∀ z ∈ pre, covers z pc = false ∨ (z.catchType ≠ 0 ∧ ∃ nm : String, (Cond.classLink own z.catchType nm).before args s = true ∧ va_Nc (exN E) nm s)) ∧ covers x pc = true ∧ x.catchType ≠ 0 ∧ (Cond.classLink own x.catchType (exN E)).before args s = true ∧ x.handlerPc = hp
  | [], _, _, h => by cases h
  | q :: r, hp, hA, h => by
    unfold eHnd at h
    have hq := hA q List.mem_cons_self
    cases hc : (Nat.ble q.1 pc && Nat.blt pc q.2.1 && eHc q.2.2.2 == E) with
    | true =>
      rw [hc] at h
      have h1 : q.2.2.1 = hp := Option.some.inj h
      simp only [Bool.and_eq_true, beq_iff_eq] at hc
      obtain ⟨⟨c1, c2⟩, c3⟩ := hc
      refine ⟨[], ⟨q.1, q.2.1, q.2.2.1, q.2.2.2⟩, tableOf r, rfl, fun z hz => (nomatch hz), ?_, hq.1, ?_, h1⟩
      · show (decide (q.1 ≤ pc) && decide (pc < q.2.1)) = true
        rw [decide_eq_true (Nat.le_of_ble_eq_true c1), decide_eq_true (show pc < q.2.1 from Nat.le_of_ble_eq_true c2)]; rfl
      · rw [← c3]; exact hq.2.2
    | false =>
      rw [hc] at h
      obtain ⟨pre, x, suf, e1, e2, e3, e4, e5, e6⟩ := eHnd_s hN hE (hh := r) (fun y hy => hA y (List.mem_cons_of_mem _ hy)) h
      refine ⟨⟨q.1, q.2.1, q.2.2.1, q.2.2.2⟩ :: pre, x, suf, congrArg (List.cons _) e1, fun z hz => ?_, e3, e4, e5, e6⟩
      rcases List.mem_cons.mp hz with rfl | hz
      · by_cases hcov : (decide (q.1 ≤ pc) && decide (pc < q.2.1)) = true
        · refine Or.inr ⟨hq.1, exN (eHc q.2.2.2), hq.2.2, hN _ _ hE hq.2.1 fun hEq => ?_⟩
          simp only [Bool.and_eq_true, decide_eq_true_eq] at hcov
          rw [Nat.ble_eq_true_of_le hcov.1, show Nat.blt pc q.2.1 = true from Nat.ble_eq_true_of_le hcov.2, ← hEq] at hc
          simp at hc
        · exact Or.inl (by simpa using hcov)
      · exact e2 z hz
theorem eNew_ok : ∀ (ci : Nat) (C : String) (TT : u_T) (N : Nat), vwCl[ci]? = some (C, TT, N) → (eNew ci).length = N ∧ (∀ j, j < N → defaultValue (eFty ci j) = vp_V (eNew ci) j) ∧ (∀ k, k < N → parseFieldDescriptor (TT k).2.2.1 = some (eFty ci k)) ∧ ∀ base b, (eNew ci).map (eV base b) = eNew ci := by
  intro ci C TT N h
  match ci, h with
  | 0, h => cases h; exact ⟨rfl, by decide +kernel, tyX0_ok, fun _ _ => rfl⟩
  | 1, h => cases h; exact ⟨rfl, by decide +kernel, tyX1_ok, fun _ _ => rfl⟩
  | 2, h => cases h; exact ⟨rfl, by decide +kernel, tyX2_ok, fun _ _ => rfl⟩
  | 3, h => cases h; exact ⟨rfl, by decide +kernel, tyX4_ok, fun _ _ => rfl⟩
  | 4, h => cases h; exact ⟨rfl, by decide +kernel, tyX6_ok, fun _ _ => rfl⟩
  | 5, h => cases h; exact ⟨rfl, by decide +kernel, tyX7_ok, fun _ _ => rfl⟩
  | k + 6, h => simp [vwCl] at h
section Sim
variable {p : Program} {l : Launch} {e : Env} {R : Room} {s : State} {m : MethodId} {args : Array Value} {below : List Frame} {meth : Method} {c0 : Code} {Fin : State → Prop}
variable {S : Nat × (Nat → Int32)} {T : Nat → eM} {C : eC} {M : eM} {d : Nat} {Q : eQ} {D : va_G} {dA : Nat → ClassId} {base b0 : Nat}
/-- the call rows' common end -/
theorem e_back {a : Nat} {r : List Value} {H : Heap} {locs : List Loc} {lsA : Array Slot} {kc ks pc : Nat} {stA : List Value} {kr : Option Value → eH → Nat → Nat → Prop} {kt : Nat → eH → Nat → Nat → Prop}
    (hr : vx_Run p l e R s m args below meth c0 H locs kc ks (mCo (T a)).1 (mCo (T a)).2 (F0 m pc lsA stA) (r.map (eV base b0)) (fun st o t => ∃ (v : Option Value) (h' : eH), o = .returned (v.map (eV base b0)) ∧ kr v h' (kc + (mCo (T a)).1) (ks + (mCo (T a)).2) ∧ eRH D dA base b0 h' t.heap ∧ va_F (fun q => base ≤ q) st t)
      (fun E st t => ∃ (n : Nat) (h' : eH), n ≤ 3 ∧ E = exN n ∧ kt n h' (kc + (mCo (T a)).1) (ks + (mCo (T a)).2) ∧ eRH D dA base b0 h' t.heap ∧ va_F (fun q => base ≤ q) st t) (fun q => base ≤ q))
    (hSS : va_S (fun q => base ≤ q) s.heap H locs)
    (k1 : ∀ (v : Option Value) (h' : eH) (H1 : Heap) (locs1 : List Loc), kr v h' (kc + (mCo (T a)).1) (ks + (mCo (T a)).2) → eRH D dA base b0 h' H1 → va_S (fun q => base ≤ q) s.heap H1 locs1 → W p l e R s m args below meth c0 H1 locs1 (kc + (mCo (T a)).1) (ks + (mCo (T a)).2) Fin (F0 m (pc + 3) lsA ((v.map (eV base b0)).toList ++ r.map (eV base b0))))
    (k2 : ∀ (n : Nat) (h' : eH) (H1 : Heap) (locs1 : List Loc) (q : Nat) (ce : Cell), kt n h' (kc + (mCo (T a)).1) (ks + (mCo (T a)).2) → n ≤ 3 → eRH D dA base b0 h' H1 → va_S (fun q => base ≤ q) s.heap H1 locs1 → H1[q]? = some ce → ce.vm = .none → s.vm.findClass (exN n) = some ce.cls → vx_W p l e R s m args below meth c0 H1 locs1 (kc + (mCo (T a)).1) (ks + (mCo (T a)).2) Fin (F0 m pc lsA (r.map (eV base b0))) q) :
    W p l e R s m args below meth c0 H locs kc ks Fin (F0 m pc lsA stA) := by
  intro T9 hT X
  rcases hr T9 hT X with ⟨v, st₀, t, T', L, h0, X', hL, e1, e2, ⟨v', h', hv, hq, hRH, hF⟩, st⟩ | ⟨q, st₀, t, T', L, E, ce, h0, X', hL, e1, e2, ⟨n, h', hn, rfl, hq, hRH, hF⟩, hce, hcv, hcl, st⟩
  · have hv' : v = v'.map (eV base b0) := Outcome.returned.inj hv
    subst hv'
    obtain ⟨-, -, k3⟩ := vx_keep h0 e1 hSS (fun _ _ h => h) (fun _ h => h) hL hF
    obtain ⟨t2, a1, b1⟩ := k1 v' h' T'.heap (locs ++ L) hq (by rw [e1]; exact hRH) k3 T' rfl X'
    exact ⟨t2, st t2 a1, b1⟩
  · obtain ⟨-, -, k3⟩ := vx_keep h0 e1 hSS (fun _ _ h => h) (fun _ h => h) hL hF
    obtain ⟨t2, a1, b1⟩ := k2 n h' T'.heap (locs ++ L) q ce hq hn (by rw [e1]; exact hRH) k3 (by rw [e1]; exact hce) hcv hcl T' rfl X'
    exact ⟨t2, st.trans a1, b1⟩
theorem e_backM {a : Nat} {r : List Value} {H : Heap} {locs : List Loc} {lsA : Array Slot} {kc ks pc : Nat} {stA : List Value} {kr : Option Value → eH → Nat → Nat → Prop}
    (hr : va_Run p l e R s m args below meth c0 H locs kc ks (mCo (T a)).1 (mCo (T a)).2 (F0 m pc lsA stA) (r.map (eV base b0)) (fun st o t => ∃ (v : Option Value) (h' : eH), o = .returned (v.map (eV base b0)) ∧ kr v h' (kc + (mCo (T a)).1) (ks + (mCo (T a)).2) ∧ eRH D dA base b0 h' t.heap ∧ va_F (fun q => base ≤ q) st t) (fun q => base ≤ q))
    (hSS : va_S (fun q => base ≤ q) s.heap H locs)
    (k1 : ∀ (v : Option Value) (h' : eH) (H1 : Heap) (locs1 : List Loc), kr v h' (kc + (mCo (T a)).1) (ks + (mCo (T a)).2) → eRH D dA base b0 h' H1 → va_S (fun q => base ≤ q) s.heap H1 locs1 → W p l e R s m args below meth c0 H1 locs1 (kc + (mCo (T a)).1) (ks + (mCo (T a)).2) Fin (F0 m (pc + 3) lsA ((v.map (eV base b0)).toList ++ r.map (eV base b0)))) :
    W p l e R s m args below meth c0 H locs kc ks Fin (F0 m pc lsA stA) := by
  intro T9 hT X
  obtain ⟨v, st₀, t, T', L, h0, X', hL, e1, e2, ⟨v', h', hv, hq, hRH, hF⟩, st⟩ := hr T9 hT X
  have hv' : v = v'.map (eV base b0) := Outcome.returned.inj hv
  subst hv'
  obtain ⟨-, -, k3⟩ := vx_keep h0 e1 hSS (fun _ _ h => h) (fun _ h => h) hL hF
  obtain ⟨t2, a1, b1⟩ := k1 v' h' T'.heap (locs ++ L) hq (by rw [e1]; exact hRH) k3 T' rfl X'
  exact ⟨t2, st t2 a1, b1⟩
theorem eCon_met {d m' : Nat} {as : List Value} {h : eH} {Q' : eQ} (hc : eCon S T l D dA base b0 d m' as h Q') (hno : ∀ n h', Q' (.inr n) h' → False) :
    Met l (mNm (T m')) (mWd (T m') :: lw_tbl.filter goodWord) { frames := d, cells := (mCo (T m')).1, slots := (mCo (T m')).2, locals := 31 * d }
    (va_Pc (as.map (eV base b0)) (fun U => eEV S D dA base b0 U ∧ eRH D dA base b0 h U.heap))
    (fun _ st o t => ∃ (v : Option Value) (h' : eH), o = .returned (v.map (eV base b0)) ∧ Q' (.inl v) h' ∧ eRH D dA base b0 h' t.heap ∧ va_F (fun q => base ≤ q) st t)
    (mCo (T m')).1 (mCo (T m')).2 (fun q => base ≤ q) := by
  refine MetFree.mono hc (fun _ _ h => h) (fun _ _ _ _ _ h => h) (fun a s o s' _ hq => ?_)
  rcases hq with hq | ⟨q, rfl, E, ce, L, ⟨n, h', -, -, hq, -⟩, -⟩
  · exact hq
  · exact (hno n h' hq).elim
theorem eEV.call {h : eH} {H : Heap} {locs : List Loc} {as : List Value} (hE : eEV S D dA base b0 s) (hR : eRH D dA base b0 h H) (hSS : va_S (fun q => base ≤ q) s.heap H locs) (U : State) (hU : U.heap = H) (hW : s.WarmedH U.vm) : va_Pc (as.map (eV base b0)) (fun U => eEV S D dA base b0 U ∧ eRH D dA base b0 h U.heap) (as.map (eV base b0)).toArray U :=
  ⟨rfl, eEV.warm hE hW (by rw [hU]; exact hSS.1) (fun q h1 h2 => by rw [hU]; exact hSS.2.1 q h1 h2), by rw [hU]; exact hR⟩
theorem mWd_nil {M : eM} (h : mHh M = []) : mWd M = .code (mNm M) (mBy M) (mLo M) (mRt M) := by unfold mWd; rw [h]
theorem mWd_ne {M : eM} (h : mHh M ≠ []) : mWd M = .codeWith (mNm M) (mBy M) (mLo M) (mRt M) (mHh M) := by
  unfold mWd
  split
  · rename_i h1; exact absurd h1 h
  · rfl
theorem eWs_ok (hG : ∀ w, eW w → w.before args s = true) {Y : eM} (hY : eMeth Y) : ∀ w ∈ (mWd Y :: lw_tbl.filter goodWord), ∀ (a' : Array Value) (U : State), s.WarmedH U.vm → w.before a' U = true := by
  intro w hw a' U hW
  have h1 : eW w := by
    rcases List.mem_cons.mp hw with rfl | hw
    · exact hY.1
    · exact ⟨(List.mem_filter.mp hw).1, (List.mem_filter.mp hw).2⟩
  exact word_at hW (good_of_word h1.2) (hG w h1)
end Sim
/-- all that a step of the method M rests on -/
def eCx (p : Program) (l : Launch) (e : Env) (R : Room) (s : State) (m : MethodId) (args : Array Value) (below : List Frame) (meth : Method) (c0 : Code) (D : va_G) (dA : Nat → ClassId) (base b0 : Nat) (S : Nat × (Nat → Int32)) (T : Nat → eM) (C : eC) (M : eM) (d : Nat) (Q : eQ) (Fin : State → Prop) (K0 : eK) : Prop :=
  (∀ (pc : Nat) (ls : eL) (st : List Value) (h : eH) (kc ks : Nat), K0 pc ls st h kc ks → eSim p l e R s m args below meth c0 D dA base b0 (mLo M) Fin pc ls st h kc ks) ∧
  (p.tables.exec = Jvm.exec) ∧
  (c0.code = mBy M) ∧
  (c0.maxLocals = mLo M) ∧
  (s.vm.findClass (mNm M).cls = some m.cls) ∧
  (∀ w, eW w → w.before args s = true) ∧
  (eEV S D dA base b0 s) ∧
  (eMok T M) ∧
  (∀ q ∈ vwCl, eCls q) ∧
  (∀ E, E ≤ 3 → eX (.castable (exN E) (exN E))) ∧
  ((mNm M).name = "<init>" → meth.name = (mNm M).name) ∧
  (d ≤ R.frames) ∧
  (31 * d ≤ R.locals) ∧
  (1 ≤ d) ∧
  ((mCo M).1 ≤ R.cells) ∧
  ((mCo M).2 ≤ R.slots) ∧
  (mHh M ≠ [] → c0.exceptionTable.toList = tableOf (mHh M)) ∧
  (∀ (m' : Nat) (as : List Value) (h : eH) (Q' : eQ), C m' as h Q' → eMeth (T m') → eCon S T l D dA base b0 (d - 1) m' as h Q') ∧
  (∀ (m' : Nat) (as : List Value) (h : eH) (Q' : eQ), C m' as h Q' → 2 ≤ d) ∧
  (∀ (i : Instr) (v : Option Value) (pc : Nat) (H : Heap) (locs : List Loc) (lsA : Array Slot) (h : eH) (kc ks : Nat), eRtI M i v → decode (mBy M) pc = .ok (i, 1) → eEnd M Q v h kc ks → eRH D dA base b0 h H → va_S (fun q => base ≤ q) s.heap H locs → W p l e R s m args below meth c0 H locs kc ks Fin (F0 m pc lsA (v.map (eV base b0)).toList)) ∧
  (∀ (pc : Nat) (H : Heap) (locs : List Loc) (lsA : Array Slot) (h : eH) (kc ks E q : Nat) (ce : Cell) (rest : List Value), mHh M = [] → E ≤ 3 → Q (.inr E) h → eRH D dA base b0 h H → va_S (fun q => base ≤ q) s.heap H locs → H[q]? = some ce → ce.vm = .none → s.vm.findClass (exN E) = some ce.cls → kc ≤ (mCo M).1 → ks ≤ (mCo M).2 → vx_W p l e R s m args below meth c0 H locs kc ks Fin (F0 m pc lsA rest) q) ∧
  (∀ (pc x n a b : Nat) (H : Heap) (locs : List Loc) (lsA : Array Slot) (st : List Value) (h : eH) (kc ks : Nat), eLink T M (pc, .new x, n, a, b, 1) → a ≤ 3 → eRH D dA base b0 h H → va_S (fun q => base ≤ q) s.heap H locs → lsA.size = c0.maxLocals → 6 ≤ d → eCat st ≤ 8 → kc + 1 ≤ (mCo M).1 → ks + 6 ≤ (mCo M).2 → mHh M = [] → Q (.inr a) (false, h.2) → decode (mBy M) pc = .ok (.new x, 3) → W p l e R s m args below meth c0 H locs kc ks Fin (F0 m pc lsA (st.map (eV base b0))))
section Cat
variable {p : Program} {l : Launch} {e : Env} {R : Room} {s : State} {m : MethodId} {args : Array Value} {below : List Frame} {meth : Method} {c0 : Code} {Fin : State → Prop}
variable {S : Nat × (Nat → Int32)} {T : Nat → eM} {C : eC} {M : eM} {d : Nat} {Q : eQ} {D : va_G} {dA : Nat → ClassId} {base b0 : Nat} {K0 : eK}
set_option maxHeartbeats 4000000 in
theorem e_catch (cx : eCx p l e R s m args below meth c0 D dA base b0 S T C M d Q Fin K0) {pc : Nat} {ls : eL} {lsA : Array Slot} (hl : lv_has lsA (mLo M) (eLs base b0 ls)) : ∀ (E : Nat) (h' : eH) (H1 : Heap) (locs1 : List Loc) (q9 : Nat) (ce : Cell) (kc1 ks1 : Nat) {rest : List Value}, eThrK M Q pc ls K0 E h' kc1 ks1 → E ≤ 3 → eRH D dA base b0 h' H1 → va_S (fun q => base ≤ q) s.heap H1 locs1 → H1[q9]? = some ce → ce.vm = .none → s.vm.findClass (exN E) = some ce.cls → kc1 ≤ (mCo M).1 → ks1 ≤ (mCo M).2 → vx_W p l e R s m args below meth c0 H1 locs1 kc1 ks1 Fin (F0 m pc lsA rest) q9 := by
  have cx0 := cx
  obtain ⟨hK0, hx, hb, hml, hown, hG, hE, hOK, hCl, hCa, hinit, hRf, hRl, hd1, hRc, hRs, htab, hC, hdC, hfin, hout, hthr⟩ := cx0
  have hOK0 := hOK
  obtain ⟨hOKc, hOKl, hOKh⟩ := hOK0
  have hE0 := hE
  obtain ⟨hNG, hStr, hZ1, hZ2, hAO, hK, hAr, hX, hbb, hbs, hNc⟩ := hE0
  intro E h' H1 locs1 q9 ce kc1 ks1 rest hk hE3 hR1 hS1 hce hcv hcl hkc hks
  unfold eThrK at hk
  split at hk
  · rename_i hp hhp
    obtain ⟨pre, x, suf, e1, e2, e3, e4, e5, e6⟩ := eHnd_s (own := (mNm M).cls) (args := args) hNc hE3 (fun x hx => ⟨(hOKh x hx).1, (hOKh x hx).2.1, hG _ (hOKh x hx).2.2⟩) hhp
    have hcas : (Cond.castable (exN E) (exN E)).before args s = true := va_Nw.use rfl (hNG _ (hCa E hE3))
    refine vx_catch hown pre x suf ((htab (fun h9 => by rw [h9] at hhp; cases hhp)).trans e1) e2 e3 e4 e5 hcas hce hcv hcl ?_
    rw [e6]
    have hdrop : ∀ {l9 : Array Slot} {j : Nat} {ls9 : eL}, lv_has l9 (mLo M) ((j, .ref q9) :: (eLs base b0 ls).filter (fun q => !(q.1 == j) && !(q.1 + 1 == j && q.2.category == 2))) → lv_has l9 (mLo M) (eLs base b0 (ls.filter (fun q => !(q.1 == j) && !(q.1 + 1 == j && q.2.category == 2)))) := fun {l9 j ls9} h9 => by
      refine ⟨h9.1, h9.2.1, fun q hq => h9.2.2 q (List.mem_cons_of_mem _ ?_)⟩
      have h8 := eFil1_map base b0 j (.int 0) ls
      have h7 : (eLs base b0 ls).filter (fun q => !(q.1 == j) && !(q.1 + 1 == j && q.2.category == 2)) = eLs base b0 (ls.filter (fun q => !(q.1 == j) && !(q.1 + 1 == j && q.2.category == 2))) := List.tail_eq_of_cons_eq h8
      rw [h7]; exact hq
    split at hk
    · rename_i j n9 a9 b9 c9 heq9
      have hmem9 := eAt_mem heq9
      have hchk9 := hOKc _ hmem9
      simp only [eChk, Bool.and_eq_true, decide_eq_true_eq, beq_iff_eq] at hchk9
      obtain ⟨⟨hd9, hn9⟩, hi9⟩ := hchk9
      have hn9 : n9 = hp + 1 := hn9
      subst hn9
      have hi9 : (j.val == a9 && Nat.blt a9 (mLo M)) = true := hi9
      simp only [Bool.and_eq_true, beq_iff_eq] at hi9
      exact lv_astore_n hx hb hd9 hi9.1 hl (Nat.le_of_ble_eq_true hi9.2) rfl (fun ls' hl' => hK0 _ _ _ _ _ _ (eFil1_spec hk) H1 locs1 ls' hR1 hS1 (hdrop (ls9 := ls) hl'))
    · rename_i j n9 a9 b9 c9 heq9
      have hmem9 := eAt_mem heq9
      have hchk9 := hOKc _ hmem9
      simp only [eChk, Bool.and_eq_true, decide_eq_true_eq, beq_iff_eq] at hchk9
      obtain ⟨⟨hd9, hn9⟩, hi9⟩ := hchk9
      have hn9 : n9 = hp + 2 := hn9
      subst hn9
      have hi9 : (j == a9 && Nat.blt a9 (mLo M)) = true := hi9
      simp only [Bool.and_eq_true, beq_iff_eq] at hi9
      obtain ⟨rfl, hi92⟩ := hi9
      exact lv_astore hx hb hd9 hl (Nat.le_of_ble_eq_true hi92) rfl (fun ls' hl' => hK0 _ _ _ _ _ _ (eFil1_spec hk) H1 locs1 ls' hR1 hS1 (hdrop (ls9 := ls) hl'))
    · exact hk.elim
  · exact hout pc H1 locs1 lsA h' kc1 ks1 E q9 ce rest hk.1 hE3 hk.2 hR1 hS1 hce hcv hcl hkc hks
end Cat
