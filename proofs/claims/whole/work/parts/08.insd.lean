theorem eRA_find {U : State} {cA : ClassId} : ∀ {t : Nat}, t ≤ 3 → va_RA U cA (eTyA t) → U.vm.findClass ("[" ++ (eTyA t).toString) = some cA
  | 0, _, h => h
  | 1, _, h => h
  | 2, _, h => h
  | 3, _, h => h
  | _ + 4, h, _ => absurd h (by omega)
theorem eArr_cell (dA : Nat → ClassId) (base b N : Nat) : ∀ {t : Nat}, t ≤ 3 → ∃ x : vp_A, eZ dA base b (eArr t N) = .inl (dA t, x) ∧ vp_cell (dA t) x = arrV (dA t) N (fun _ => defaultValue (eTyA t))
  | 0, _ => ⟨_, rfl, rfl⟩
  | 1, _ => ⟨_, rfl, rfl⟩
  | 2, _ => ⟨_, rfl, rfl⟩
  | 3, _ => ⟨_, rfl, rfl⟩
  | _ + 4, h => absurd h (by omega)
theorem eArr_small : ∀ {t : Nat}, t ≤ 3 → componentBytes (eTyA t) ≤ 8
  | 0, _ => by decide
  | 1, _ => by decide
  | 2, _ => by decide
  | 3, _ => by decide
  | _ + 4, h => absurd h (by omega)
section InsD
variable {p : Program} {l : Launch} {e : Env} {R : Room} {s : State} {m : MethodId} {args : Array Value} {below : List Frame} {meth : Method} {c0 : Code} {Fin : State → Prop}
variable {S : Nat × (Nat → Int32)} {T : Nat → eM} {C : eC} {M : eM} {d : Nat} {Q : eQ} {D : va_G} {dA : Nat → ClassId} {base b0 : Nat} {K0 : eK}
set_option maxHeartbeats 4000000 in
set_option maxRecDepth 100000 in
theorem ei_dastore (cx : eCx p l e R s m args below meth c0 D dA base b0 S T C M d Q Fin K0)  {n a b c pc : Nat} {ls : eL} {st : List Value} {h : eH} {kc ks : Nat} {H : Heap} {locs : List Loc} {lsA : Array Slot} (hd : decode (mBy M) pc = .ok (.dastore, eLen pc .dastore n)) (hn : n = pc + eLen pc .dastore n) (hi : eIns M pc .dastore a b c = true) (hlk : eLink T M (pc, .dastore, n, a, b, c)) (hR : eRH D dA base b0 h H) (hSS : va_S (fun q => base ≤ q) s.heap H locs) (hl : lv_has lsA (mLo M) (eLs base b0 ls)) (hstep : okI S T C M d Q .dastore n a b c pc ls st h kc ks K0) : W p l e R s m args below meth c0 H locs kc ks Fin (F0 m pc lsA (st.map (eV base b0))) := by
  have cx0 := cx
  obtain ⟨hK0, hx, hb, hml, hown, hG, hE, hOK, hCl, hCa, hinit, hRf, hRl, hd1, hRc, hRs, htab, hC, hdC, hfin, hout, hthr⟩ := cx0
  have hOK0 := hOK
  obtain ⟨hOKc, hOKl, hOKh⟩ := hOK0
  have hE0 := hE
  obtain ⟨hNG, hStr, hZ1, hZ2, hAO, hK, hAr, hX, hbb, hbs, hNc⟩ := hE0
  have hA : ∀ q : Nat, s.heap.size ≤ q → base ≤ q := va_SA hbs
  have hts : ∀ w ∈ lw_tbl.filter goodWord, w.before args s = true := fun w hw => hG w ⟨(List.mem_filter.mp hw).1, (List.mem_filter.mp hw).2⟩
  have hKy : ∀ t, t ≤ 4 → va_K D vwCl [(dA t, eTyA t)] s := fun t ht => ⟨hK.1, fun k q hq => by
    match k, hq with
    | 0, hq => cases hq; exact hAr t ht
    | k + 1, hq => simp at hq⟩
  have hP1 : ∀ {k : Nat} {o : va_E}, h.2[k]? = some o → va_P D vwCl [(base + k, eZ dA base b0 o)] H := fun {k o} hk j q hq => by
    match j, hq with
    | 0, hq => cases hq; exact hR.1 k o hk
    | j + 1, hq => simp at hq
  have hstep : mD st (fun x r => mI r (fun j r => mR r (fun q r => mO q (fun q => ∃ (N : Nat) (f : Nat → UInt64), h.2[q]? = some (.inl (3, N, .inr (.inr (.inr (.inl f))))) ∧ vp_in j N ∧ K0 n ls r (h.1, h.2.set q (.inl (3, N, .inr (.inr (.inr (.inl (vf_upd f j.toNatClampNeg x))))))) kc ks)))) := hstep
  have hd : decode (mBy M) pc = .ok (.dastore, 1) := hd
  have hn : n = pc + 1 := hn
  subst hn
  obtain ⟨x, r, rfl, hs⟩ := mD_s hstep
  obtain ⟨j, r, rfl, hs⟩ := mI_s hs
  obtain ⟨q, r, rfl, hs⟩ := mR_s hs
  obtain ⟨q, rfl, hs⟩ := mO_s hs
  obtain ⟨N, f, hq, hv, hk⟩ := hs
  exact e_dast hx hb (hAr 3 (by decide)).1 hR hSS hq hv hd (fun H1 locs1 hR1 hS1 => hK0 _ _ _ _ _ _ hk H1 locs1 lsA hR1 hS1 hl)
set_option maxHeartbeats 4000000 in
set_option maxRecDepth 100000 in
theorem ei_aastore (cx : eCx p l e R s m args below meth c0 D dA base b0 S T C M d Q Fin K0)  {n a b c pc : Nat} {ls : eL} {st : List Value} {h : eH} {kc ks : Nat} {H : Heap} {locs : List Loc} {lsA : Array Slot} (hd : decode (mBy M) pc = .ok (.aastore, eLen pc .aastore n)) (hn : n = pc + eLen pc .aastore n) (hi : eIns M pc .aastore a b c = true) (hlk : eLink T M (pc, .aastore, n, a, b, c)) (hR : eRH D dA base b0 h H) (hSS : va_S (fun q => base ≤ q) s.heap H locs) (hl : lv_has lsA (mLo M) (eLs base b0 ls)) (hstep : okI S T C M d Q .aastore n a b c pc ls st h kc ks K0) : W p l e R s m args below meth c0 H locs kc ks Fin (F0 m pc lsA (st.map (eV base b0))) := by
  have cx0 := cx
  obtain ⟨hK0, hx, hb, hml, hown, hG, hE, hOK, hCl, hCa, hinit, hRf, hRl, hd1, hRc, hRs, htab, hC, hdC, hfin, hout, hthr⟩ := cx0
  have hOK0 := hOK
  obtain ⟨hOKc, hOKl, hOKh⟩ := hOK0
  have hE0 := hE
  obtain ⟨hNG, hStr, hZ1, hZ2, hAO, hK, hAr, hX, hbb, hbs, hNc⟩ := hE0
  have hA : ∀ q : Nat, s.heap.size ≤ q → base ≤ q := va_SA hbs
  have hts : ∀ w ∈ lw_tbl.filter goodWord, w.before args s = true := fun w hw => hG w ⟨(List.mem_filter.mp hw).1, (List.mem_filter.mp hw).2⟩
  have hKy : ∀ t, t ≤ 4 → va_K D vwCl [(dA t, eTyA t)] s := fun t ht => ⟨hK.1, fun k q hq => by
    match k, hq with
    | 0, hq => cases hq; exact hAr t ht
    | k + 1, hq => simp at hq⟩
  have hP1 : ∀ {k : Nat} {o : va_E}, h.2[k]? = some o → va_P D vwCl [(base + k, eZ dA base b0 o)] H := fun {k o} hk j q hq => by
    match j, hq with
    | 0, hq => cases hq; exact hR.1 k o hk
    | j + 1, hq => simp at hq
  have hstep : mR st (fun z r => mO z (fun z => mI r (fun j r => mR r (fun q r => mO q (fun q => ∃ (N : Nat) (f : Nat → Option Nat) (fs : List Value), h.2[q]? = some (.inl (4, N, .inr (.inr (.inr (.inr f))))) ∧ vp_in j N ∧ h.2[z]? = some (.inr (1, fs)) ∧ K0 n ls r (h.1, h.2.set q (.inl (4, N, .inr (.inr (.inr (.inr (va_up f j.toNatClampNeg (some (z + 1))))))))) kc ks))))) := hstep
  have hd : decode (mBy M) pc = .ok (.aastore, 1) := hd
  have hn : n = pc + 1 := hn
  subst hn
  obtain ⟨z, r1, rfl, hs1⟩ := mR_s hstep
  obtain ⟨z, rfl, hs2⟩ := mO_s hs1
  obtain ⟨j, r2, rfl, hs3⟩ := mI_s hs2
  obtain ⟨q, r, rfl, hs4⟩ := mR_s hs3
  obtain ⟨q, rfl, hs5⟩ := mO_s hs4
  obtain ⟨N, f, fs, hq, hv, hz, hk⟩ := hs5
  exact e_astq hx hb hK (hAr 4 (by decide)).2 hR hSS hq hz hv hd (fun H1 locs1 hR1 hS1 => hK0 _ _ _ _ _ _ hk H1 locs1 lsA hR1 hS1 hl)
set_option maxHeartbeats 4000000 in
set_option maxRecDepth 100000 in
theorem ei_newarray (cx : eCx p l e R s m args below meth c0 D dA base b0 S T C M d Q Fin K0) (at9 : ArrayType) {n a b c pc : Nat} {ls : eL} {st : List Value} {h : eH} {kc ks : Nat} {H : Heap} {locs : List Loc} {lsA : Array Slot} (hd : decode (mBy M) pc = .ok ((.newarray at9), eLen pc (.newarray at9) n)) (hn : n = pc + eLen pc (.newarray at9) n) (hi : eIns M pc (.newarray at9) a b c = true) (hlk : eLink T M (pc, (.newarray at9), n, a, b, c)) (hR : eRH D dA base b0 h H) (hSS : va_S (fun q => base ≤ q) s.heap H locs) (hl : lv_has lsA (mLo M) (eLs base b0 ls)) (hstep : okI S T C M d Q (.newarray at9) n a b c pc ls st h kc ks K0) : W p l e R s m args below meth c0 H locs kc ks Fin (F0 m pc lsA (st.map (eV base b0))) := by
  have cx0 := cx
  obtain ⟨hK0, hx, hb, hml, hown, hG, hE, hOK, hCl, hCa, hinit, hRf, hRl, hd1, hRc, hRs, htab, hC, hdC, hfin, hout, hthr⟩ := cx0
  have hOK0 := hOK
  obtain ⟨hOKc, hOKl, hOKh⟩ := hOK0
  have hE0 := hE
  obtain ⟨hNG, hStr, hZ1, hZ2, hAO, hK, hAr, hX, hbb, hbs, hNc⟩ := hE0
  have hA : ∀ q : Nat, s.heap.size ≤ q → base ≤ q := va_SA hbs
  have hts : ∀ w ∈ lw_tbl.filter goodWord, w.before args s = true := fun w hw => hG w ⟨(List.mem_filter.mp hw).1, (List.mem_filter.mp hw).2⟩
  have hKy : ∀ t, t ≤ 4 → va_K D vwCl [(dA t, eTyA t)] s := fun t ht => ⟨hK.1, fun k q hq => by
    match k, hq with
    | 0, hq => cases hq; exact hAr t ht
    | k + 1, hq => simp at hq⟩
  have hP1 : ∀ {k : Nat} {o : va_E}, h.2[k]? = some o → va_P D vwCl [(base + k, eZ dA base b0 o)] H := fun {k o} hk j q hq => by
    match j, hq with
    | 0, hq => cases hq; exact hR.1 k o hk
    | j + 1, hq => simp at hq
  have hstep : mI st (fun j r => (h.1 = true ∧ ¬ j < 0 ∧ j.toNatClampNeg ≤ 1000 ∧ kc + 1 ≤ (mCo M).1 ∧ ks + j.toNatClampNeg ≤ (mCo M).2) ∧ K0 n ls (.ref (h.2.length + 1) :: r) (h.1, h.2 ++ [eArr a j.toNatClampNeg]) (kc + 1) (ks + j.toNatClampNeg)) := hstep
  have hd : decode (mBy M) pc = .ok (.newarray at9, 2) := hd
  have hn : n = pc + 2 := hn
  subst hn
  obtain ⟨j, r, rfl, ⟨ho, hj, hjs, hkc, hks⟩, hk⟩ := mI_s hstep
  obtain ⟨hw, hty, ha3⟩ := hlk
  have hsz := hR.2.1 ho
  refine va_newaK hx hb (hG _ hw) rfl hd rfl hj rfl (Nat.le_trans (Nat.mul_le_mul hjs (by rw [hty]; exact eArr_small ha3)) (by decide)) (Nat.le_trans hkc hRc) (Nat.le_trans hks hRs) rfl fun H1 cA e1 z1 o1 hAr9 hNm => ?_
  have hcA : cA = dA a := by
    rw [hty] at hNm
    exact Option.some.inj (hNm.symm.trans (eRA_find ha3 (hAr a (by omega)).2))
  subst hcA
  have hRH : eRH D dA base b0 (h.1, h.2 ++ [eArr a j.toNatClampNeg]) H1 := by
    obtain ⟨x9, hx1, hx2⟩ := eArr_cell dA base b0 j.toNatClampNeg ha3
    refine hR.push ho ?_ z1 o1
    rw [hx1]
    show H1[H.size]? = some (vp_cell (dA a) x9)
    rw [hx2, e1, hty]
  have hk9 := hK0 _ _ _ _ _ _ hk H1 locs lsA hRH ⟨Nat.le_trans hSS.1 (by omega), fun x h1 h2 => (o1 x (Nat.lt_of_lt_of_le h1 hSS.1)).trans (hSS.2.1 x h1 h2), hSS.2.2⟩ hl
  rw [hsz]
  exact hk9
set_option maxHeartbeats 4000000 in
set_option maxRecDepth 100000 in
theorem ei_anewarray (cx : eCx p l e R s m args below meth c0 D dA base b0 S T C M d Q Fin K0) (x9 : Nat) {n a b c pc : Nat} {ls : eL} {st : List Value} {h : eH} {kc ks : Nat} {H : Heap} {locs : List Loc} {lsA : Array Slot} (hd : decode (mBy M) pc = .ok ((.anewarray x9), eLen pc (.anewarray x9) n)) (hn : n = pc + eLen pc (.anewarray x9) n) (hi : eIns M pc (.anewarray x9) a b c = true) (hlk : eLink T M (pc, (.anewarray x9), n, a, b, c)) (hR : eRH D dA base b0 h H) (hSS : va_S (fun q => base ≤ q) s.heap H locs) (hl : lv_has lsA (mLo M) (eLs base b0 ls)) (hstep : okI S T C M d Q (.anewarray x9) n a b c pc ls st h kc ks K0) : W p l e R s m args below meth c0 H locs kc ks Fin (F0 m pc lsA (st.map (eV base b0))) := by
  have cx0 := cx
  obtain ⟨hK0, hx, hb, hml, hown, hG, hE, hOK, hCl, hCa, hinit, hRf, hRl, hd1, hRc, hRs, htab, hC, hdC, hfin, hout, hthr⟩ := cx0
  have hOK0 := hOK
  obtain ⟨hOKc, hOKl, hOKh⟩ := hOK0
  have hE0 := hE
  obtain ⟨hNG, hStr, hZ1, hZ2, hAO, hK, hAr, hX, hbb, hbs, hNc⟩ := hE0
  have hA : ∀ q : Nat, s.heap.size ≤ q → base ≤ q := va_SA hbs
  have hts : ∀ w ∈ lw_tbl.filter goodWord, w.before args s = true := fun w hw => hG w ⟨(List.mem_filter.mp hw).1, (List.mem_filter.mp hw).2⟩
  have hKy : ∀ t, t ≤ 4 → va_K D vwCl [(dA t, eTyA t)] s := fun t ht => ⟨hK.1, fun k q hq => by
    match k, hq with
    | 0, hq => cases hq; exact hAr t ht
    | k + 1, hq => simp at hq⟩
  have hP1 : ∀ {k : Nat} {o : va_E}, h.2[k]? = some o → va_P D vwCl [(base + k, eZ dA base b0 o)] H := fun {k o} hk j q hq => by
    match j, hq with
    | 0, hq => cases hq; exact hR.1 k o hk
    | j + 1, hq => simp at hq
  have hstep : mI st (fun j r => (h.1 = true ∧ ¬ j < 0 ∧ j.toNatClampNeg ≤ 1000 ∧ kc + 1 ≤ (mCo M).1 ∧ ks + j.toNatClampNeg ≤ (mCo M).2) ∧ K0 n ls (.ref (h.2.length + 1) :: r) (h.1, h.2 ++ [eArr 4 j.toNatClampNeg]) (kc + 1) (ks + j.toNatClampNeg)) := hstep
  have hd : decode (mBy M) pc = .ok (.anewarray x9, 3) := hd
  have hn : n = pc + 3 := hn
  subst hn
  obtain ⟨j, r, rfl, ⟨ho, hj, hjs, hkc, hks⟩, hk⟩ := mI_s hstep
  have hsz := hR.2.1 ho
  refine W.anew hx hb hown (hG _ hlk) (va_AO.use hAO) rfl hd rfl hj (Nat.le_trans (Nat.mul_le_mul_right 4 hjs) (by decide)) (Nat.le_trans hkc hRc) (Nat.le_trans hks hRs) fun cA kA comp f1 f2 f3 f4 => ?_
  generalize hH1 : H.push ({ cls := cA, slots := Array.replicate j.toNatClampNeg .null, vm := .none } : Cell) = H1
  have z1 : H1.size = H.size + 1 := by rw [← hH1, Array.size_push]
  have e1 : H1[H.size]? = some (arrV cA j.toNatClampNeg (fun _ => .null)) := by rw [← hH1, Array.getElem?_push_size, ← arrV_new]
  have o1 : ∀ q : Nat, q < H.size → H1[q]? = H[q]? := fun q hq => by rw [← hH1, Array.getElem?_push, if_neg (Nat.ne_of_lt hq)]
  have hcA : cA = dA 4 := by
    obtain ⟨kA9, comp9, g1, g2, g3, g4⟩ := (hAr 4 (by decide)).2
    exact Option.some.inj (f1.symm.trans g4)
  subst hcA
  have hRH : eRH D dA base b0 (h.1, h.2 ++ [eArr 4 j.toNatClampNeg]) H1 := hR.push ho e1 z1 o1
  have hk9 := hK0 _ _ _ _ _ _ hk H1 locs lsA hRH ⟨Nat.le_trans hSS.1 (by omega), fun x h1 h2 => (o1 x (Nat.lt_of_lt_of_le h1 hSS.1)).trans (hSS.2.1 x h1 h2), hSS.2.2⟩ hl
  rw [hsz]
  exact hk9
set_option maxHeartbeats 4000000 in
set_option maxRecDepth 100000 in
theorem ei_new (cx : eCx p l e R s m args below meth c0 D dA base b0 S T C M d Q Fin K0) (x9 : Nat) {n a b c pc : Nat} {ls : eL} {st : List Value} {h : eH} {kc ks : Nat} {H : Heap} {locs : List Loc} {lsA : Array Slot} (hd : decode (mBy M) pc = .ok ((.new x9), eLen pc (.new x9) n)) (hn : n = pc + eLen pc (.new x9) n) (hi : eIns M pc (.new x9) a b c = true) (hlk : eLink T M (pc, (.new x9), n, a, b, c)) (hR : eRH D dA base b0 h H) (hSS : va_S (fun q => base ≤ q) s.heap H locs) (hl : lv_has lsA (mLo M) (eLs base b0 ls)) (hstep : okI S T C M d Q (.new x9) n a b c pc ls st h kc ks K0) : W p l e R s m args below meth c0 H locs kc ks Fin (F0 m pc lsA (st.map (eV base b0))) := by
  have cx0 := cx
  obtain ⟨hK0, hx, hb, hml, hown, hG, hE, hOK, hCl, hCa, hinit, hRf, hRl, hd1, hRc, hRs, htab, hC, hdC, hfin, hout, hthr⟩ := cx0
  have hOK0 := hOK
  obtain ⟨hOKc, hOKl, hOKh⟩ := hOK0
  have hE0 := hE
  obtain ⟨hNG, hStr, hZ1, hZ2, hAO, hK, hAr, hX, hbb, hbs, hNc⟩ := hE0
  have hA : ∀ q : Nat, s.heap.size ≤ q → base ≤ q := va_SA hbs
  have hts : ∀ w ∈ lw_tbl.filter goodWord, w.before args s = true := fun w hw => hG w ⟨(List.mem_filter.mp hw).1, (List.mem_filter.mp hw).2⟩
  have hKy : ∀ t, t ≤ 4 → va_K D vwCl [(dA t, eTyA t)] s := fun t ht => ⟨hK.1, fun k q hq => by
    match k, hq with
    | 0, hq => cases hq; exact hAr t ht
    | k + 1, hq => simp at hq⟩
  have hP1 : ∀ {k : Nat} {o : va_E}, h.2[k]? = some o → va_P D vwCl [(base + k, eZ dA base b0 o)] H := fun {k o} hk j q hq => by
    match j, hq with
    | 0, hq => cases hq; exact hR.1 k o hk
    | j + 1, hq => simp at hq
  have hstep : bif c == 1 then ((6 ≤ d ∧ Nat.ble (eCat st) 8 = true ∧ mHh M = []) ∧ (kc + 1 ≤ (mCo M).1 ∧ ks + 6 ≤ (mCo M).2) ∧ Q (.inr a) (false, h.2))
  else ((h.1 = true ∧ kc + 1 ≤ (mCo M).1 ∧ ks + (eNew a).length ≤ (mCo M).2) ∧ K0 n ls (.ref (h.2.length + 1) :: st) (h.1, h.2 ++ [.inr (a, eNew a)]) (kc + 1) (ks + (eNew a).length)) := hstep
  have hd : decode (mBy M) pc = .ok (.new x9, 3) := hd
  have hn : n = pc + 3 := hn
  subst hn
  cases hc : (c == 1) with
  | true =>
    have hc1 : c = 1 := eq_of_beq hc
    subst hc1
    obtain ⟨⟨h6, hcat, hh0⟩, ⟨hkc, hks⟩, hQ⟩ := hstep
    have ha : a ≤ 3 := Nat.le_of_ble_eq_true hi
    exact hthr pc x9 _ a b H locs lsA st h kc ks hlk ha hR hSS (hl.1.trans hml.symm) h6 (Nat.le_of_ble_eq_true hcat) hkc hks hh0 hQ hd
  | false =>
    have hc1 : ¬ c = 1 := fun h9 => by simp [h9] at hc
    have hstep : (bif c == 1 then ((6 ≤ d ∧ Nat.ble (eCat st) 8 = true ∧ mHh M = []) ∧ (kc + 1 ≤ (mCo M).1 ∧ ks + 6 ≤ (mCo M).2) ∧ Q (.inr a) (false, h.2)) else ((h.1 = true ∧ kc + 1 ≤ (mCo M).1 ∧ ks + (eNew a).length ≤ (mCo M).2) ∧ K0 (pc + 3) ls (.ref (h.2.length + 1) :: st) (h.1, h.2 ++ [.inr (a, eNew a)]) (kc + 1) (ks + (eNew a).length))) := hstep
    rw [hc] at hstep
    obtain ⟨⟨ho, hkc, hks⟩, hk⟩ := hstep
    have hlk : if c = 1 then _ else ∃ (C : String) (TT : u_T) (N : Nat), vwCl[a]? = some (C, TT, N) ∧ eW (.classLink (mNm M).cls x9 C) ∧ eW (.instantiable C N) ∧ eW (.initialized C) := hlk
    rw [if_neg hc1] at hlk
    obtain ⟨CN, TT, NN, hvc, w1, w2, w3⟩ := hlk
    have hcls := hCl _ (List.mem_of_getElem? hvc)
    obtain ⟨hlen, hdef, hpf, hmap⟩ := eNew_ok _ _ _ _ hvc
    have hsz := hR.2.1 ho
    have hKn := hK.1 a _ hvc
    refine W.newcK hx hb hown (hG _ w1) (hG _ w2) (hG _ w3) rfl hd (Nat.le_trans hkc hRc) (Nat.le_trans (by rw [hlen]; exact Nat.le_refl _) (Nat.le_trans hks hRs)) hKn.2.1 rfl fun H1 kC hkC e1 z1 o1 => ?_
    have hRH : eRH D dA base b0 (h.1, h.2 ++ [.inr (a, eNew a)]) H1 := by
      refine hR.push ho ?_ z1 o1
      show va_at D vwCl (H.size, .inr (a, (eNew a).map (eV base b0))) H1
      rw [hmap]
      exact ⟨_, hvc, (u_born (eFty a) hts (fun w hw9 => List.mem_filter.mpr ⟨(hcls.1 w hw9).1, (hcls.1 w hw9).2⟩) hKn hkC e1 hpf).to hdef⟩
    have hk9 := hK0 _ _ _ _ _ _ hk H1 locs lsA hRH ⟨Nat.le_trans hSS.1 (by omega), fun x h1 h2 => (o1 x (Nat.lt_of_lt_of_le h1 hSS.1)).trans (hSS.2.1 x h1 h2), hSS.2.2⟩ hl
    rw [hlen] at hk9
    rw [hsz]
    exact hk9
set_option maxHeartbeats 4000000 in
set_option maxRecDepth 100000 in
theorem ei_invokevirtual (cx : eCx p l e R s m args below meth c0 D dA base b0 S T C M d Q Fin K0) (x9 : Nat) {n a b c pc : Nat} {ls : eL} {st : List Value} {h : eH} {kc ks : Nat} {H : Heap} {locs : List Loc} {lsA : Array Slot} (hd : decode (mBy M) pc = .ok ((.invokevirtual x9), eLen pc (.invokevirtual x9) n)) (hn : n = pc + eLen pc (.invokevirtual x9) n) (hi : eIns M pc (.invokevirtual x9) a b c = true) (hlk : eLink T M (pc, (.invokevirtual x9), n, a, b, c)) (hR : eRH D dA base b0 h H) (hSS : va_S (fun q => base ≤ q) s.heap H locs) (hl : lv_has lsA (mLo M) (eLs base b0 ls)) (hstep : okI S T C M d Q (.invokevirtual x9) n a b c pc ls st h kc ks K0) : W p l e R s m args below meth c0 H locs kc ks Fin (F0 m pc lsA (st.map (eV base b0))) := by
  have cx0 := cx
  obtain ⟨hK0, hx, hb, hml, hown, hG, hE, hOK, hCl, hCa, hinit, hRf, hRl, hd1, hRc, hRs, htab, hC, hdC, hfin, hout, hthr⟩ := cx0
  have hOK0 := hOK
  obtain ⟨hOKc, hOKl, hOKh⟩ := hOK0
  have hE0 := hE
  obtain ⟨hNG, hStr, hZ1, hZ2, hAO, hK, hAr, hX, hbb, hbs, hNc⟩ := hE0
  have hA : ∀ q : Nat, s.heap.size ≤ q → base ≤ q := va_SA hbs
  have hts : ∀ w ∈ lw_tbl.filter goodWord, w.before args s = true := fun w hw => hG w ⟨(List.mem_filter.mp hw).1, (List.mem_filter.mp hw).2⟩
  have hKy : ∀ t, t ≤ 4 → va_K D vwCl [(dA t, eTyA t)] s := fun t ht => ⟨hK.1, fun k q hq => by
    match k, hq with
    | 0, hq => cases hq; exact hAr t ht
    | k + 1, hq => simp at hq⟩
  have hP1 : ∀ {k : Nat} {o : va_E}, h.2[k]? = some o → va_P D vwCl [(base + k, eZ dA base b0 o)] H := fun {k o} hk j q hq => by
    match j, hq with
    | 0, hq => cases hq; exact hR.1 k o hk
    | j + 1, hq => simp at hq
  have hstep : eArg b st [] (fun as r => mR as (fun q _ => mO q (fun q => ∃ fs : List Value, h.2[q]? = some (.inr (mCi (T a), fs)) ∧ eCall T C M a as r h kc ks (eRetK n ls r K0) (eThrK M Q pc ls K0)))) := hstep
  have hd : decode (mBy M) pc = .ok (.invokevirtual x9, 3) := hd
  have hn : n = pc + 3 := hn
  subst hn
  obtain ⟨as, r, rfl, hlen, hs⟩ := eArg_s hstep
  rw [List.append_nil] at hs
  obtain ⟨q, as1, rfl, hs⟩ := mR_s hs
  obtain ⟨q, rfl, hs⟩ := mO_s hs
  obtain ⟨fs, hq, ⟨hcat, hkc, hks⟩, hCC⟩ := hs
  obtain ⟨hY, hYh, ⟨n9, hb9, har⟩, ⟨qc, hqc, hqn⟩, w1, w2, w3⟩ := hlk
  have h2d := hdC _ _ _ _ hCC
  have hcon := hC _ _ _ _ hCC hY
  have hr := vx_runV (p := p) (e := e) (R := R) (s := s) (m := m) (args := args) (below := below) (meth := meth) (c := c0) (H := H) (locs := locs) (cells := kc) (slots := ks) (own := (mNm M).cls) (C := (mNm (T a)).cls) (index := x9) (y := mNm (T a)) (bytes := mBy (T a)) (maxL := mLo (T a)) (nL := mLo M) (ret := mRt (T a)) (n := n9) (b := base + q) (As := as1.map (eV base b0)) (rest := r.map (eV base b0)) (g := F0 m pc lsA (((Value.ref (q + 1) :: as1).reverse ++ r).map (eV base b0))) (cc := mBy M) (Ts := lw_tbl.filter goodWord) ⟨hx, hb, hml, hown, hts⟩ hcon
    ⟨⟨rfl, rfl, by show d - 1 + 1 ≤ R.frames; omega, by show 8 + (mLo (T a) + 11) + 31 * (d - 1) ≤ R.locals; have := hY.2.2.2.2; omega, eWs_ok hG hY, by rw [← mWd_nil hYh]; exact List.mem_cons_self, by rw [← mWd_nil hYh]; exact hG _ hY.1, hG _ hY.2.1, hY.2.2.1, fun sig h9 => by have := har; unfold eAri at this; rw [h9] at this; exact (Option.some.inj this).symm, hG _ w1⟩, hG _ w2, hG _ w3⟩
    ⟨eCon_blind, ?_, fun U hU hW => eEV.call hE hR hSS U hU hW⟩ rfl (by simp at hlen ⊢; omega) hl.1 (by simp [eV, eAd]) (by show 2 * 0 + _ ≤ 8; rw [eCat_sum]; have := Nat.le_of_ble_eq_true hcat; omega) hd ⟨Nat.le_trans hkc hRc, Nat.le_trans hks hRs⟩
  rotate_left
  · have h9 := va_recv (s := s) (ws := [(base + q, eZ dA base b0 (.inr (mCi (T a), fs)))]) hK (hP1 hq) hqc (q0 := 0) rfl
    rw [hqn] at h9
    exact h9
  exact e_back (kr := eRetK (pc + 3) ls r K0) (kt := eThrK M Q pc ls K0) hr hSS (fun v h' H1 locs1 hkr hR1 hS1 => by
    cases v with
    | none => exact hK0 _ _ _ _ _ _ hkr H1 locs1 lsA hR1 hS1 hl
    | some v => exact hK0 _ _ _ _ _ _ hkr H1 locs1 lsA hR1 hS1 hl) (fun E h' H1 locs1 q9 ce hkt hE3 hR1 hS1 hce hcv hcl => by
    exact e_catch cx hl E h' H1 locs1 q9 ce _ _ hkt hE3 hR1 hS1 hce hcv hcl hkc hks)
set_option maxHeartbeats 4000000 in
set_option maxRecDepth 100000 in
theorem ei_invokestatic (cx : eCx p l e R s m args below meth c0 D dA base b0 S T C M d Q Fin K0) (x9 : Nat) {n a b c pc : Nat} {ls : eL} {st : List Value} {h : eH} {kc ks : Nat} {H : Heap} {locs : List Loc} {lsA : Array Slot} (hd : decode (mBy M) pc = .ok ((.invokestatic x9), eLen pc (.invokestatic x9) n)) (hn : n = pc + eLen pc (.invokestatic x9) n) (hi : eIns M pc (.invokestatic x9) a b c = true) (hlk : eLink T M (pc, (.invokestatic x9), n, a, b, c)) (hR : eRH D dA base b0 h H) (hSS : va_S (fun q => base ≤ q) s.heap H locs) (hl : lv_has lsA (mLo M) (eLs base b0 ls)) (hstep : okI S T C M d Q (.invokestatic x9) n a b c pc ls st h kc ks K0) : W p l e R s m args below meth c0 H locs kc ks Fin (F0 m pc lsA (st.map (eV base b0))) := by
  have cx0 := cx
  obtain ⟨hK0, hx, hb, hml, hown, hG, hE, hOK, hCl, hCa, hinit, hRf, hRl, hd1, hRc, hRs, htab, hC, hdC, hfin, hout, hthr⟩ := cx0
  have hOK0 := hOK
  obtain ⟨hOKc, hOKl, hOKh⟩ := hOK0
  have hE0 := hE
  obtain ⟨hNG, hStr, hZ1, hZ2, hAO, hK, hAr, hX, hbb, hbs, hNc⟩ := hE0
  have hA : ∀ q : Nat, s.heap.size ≤ q → base ≤ q := va_SA hbs
  have hts : ∀ w ∈ lw_tbl.filter goodWord, w.before args s = true := fun w hw => hG w ⟨(List.mem_filter.mp hw).1, (List.mem_filter.mp hw).2⟩
  have hKy : ∀ t, t ≤ 4 → va_K D vwCl [(dA t, eTyA t)] s := fun t ht => ⟨hK.1, fun k q hq => by
    match k, hq with
    | 0, hq => cases hq; exact hAr t ht
    | k + 1, hq => simp at hq⟩
  have hP1 : ∀ {k : Nat} {o : va_E}, h.2[k]? = some o → va_P D vwCl [(base + k, eZ dA base b0 o)] H := fun {k o} hk j q hq => by
    match j, hq with
    | 0, hq => cases hq; exact hR.1 k o hk
    | j + 1, hq => simp at hq
  have hstep : eArg b st [] (fun as r => bif c == 0 then eCall T C M a as r h kc ks (eRetK n ls r K0) (eThrK M Q pc ls K0) else eCall T C M a as r h kc ks (eRetK n ls r K0) (fun _ _ _ _ => False)) := hstep
  have hd : decode (mBy M) pc = .ok (.invokestatic x9, 3) := hd
  have hn : n = pc + 3 := hn
  subst hn
  obtain ⟨as, r, rfl, hlen, hs⟩ := eArg_s hstep
  rw [List.append_nil] at hs
  obtain ⟨hY, har, w2, hlk⟩ := hlk
  have hnth : ∀ (h' : eH) (E k1 k2 : Nat), (fun (_ : Nat) (_ : eH) (_ _ : Nat) => False) E h' k1 k2 → False := fun _ _ _ _ h => h
  have hari : ∀ sig, parseMethodDescriptor (mNm (T a)).desc = some sig → b = sig.parameters.length := fun sig h9 => by have := har; unfold eAri at this; rw [h9] at this; exact (Option.some.inj this).symm
  have hcat9 : ∀ {k : List Value}, Nat.ble (eCat r) 8 = true → 2 * (F0 m pc lsA k).monitorRoom + ((r.map (eV base b0)).map fun v => v.category).sum ≤ 8 := fun h9 => by show 2 * 0 + _ ≤ 8; rw [eCat_sum]; have := Nat.le_of_ble_eq_true h9; omega
  cases hc : (c == 0) with
  | true =>
    rw [hc] at hs
    obtain ⟨⟨hcat, hkc, hks⟩, hCC⟩ := hs
    rw [if_pos (eq_of_beq hc)] at hlk
    obtain ⟨hYh, w1⟩ := hlk
    have h2d := hdC _ _ _ _ hCC
    have hcon := hC _ _ _ _ hCC hY
    have hr := vx_runS (p := p) (e := e) (R := R) (s := s) (m := m) (args := args) (below := below) (meth := meth) (c := c0) (H := H) (locs := locs) (cells := kc) (slots := ks) (own := (mNm M).cls) (index := x9) (y := mNm (T a)) (bytes := mBy (T a)) (maxL := mLo (T a)) (nL := mLo M) (ret := mRt (T a)) (n := b) (As := as.map (eV base b0)) (rest := r.map (eV base b0)) (g := F0 m pc lsA ((as.reverse ++ r).map (eV base b0))) (cc := mBy M) (Ts := lw_tbl.filter goodWord) ⟨hx, hb, hml, hown, hts⟩ hcon
      ⟨⟨rfl, rfl, by show d - 1 + 1 ≤ R.frames; omega, by show 8 + (mLo (T a) + 11) + 31 * (d - 1) ≤ R.locals; have := hY.2.2.2.2; omega, eWs_ok hG hY, by rw [← mWd_nil hYh]; exact List.mem_cons_self, by rw [← mWd_nil hYh]; exact hG _ hY.1, hG _ hY.2.1, hY.2.2.1, hari, hG _ w1⟩, hG _ w2⟩
      ⟨eCon_blind, fun U hU hW => eEV.call hE hR hSS U hU hW⟩ rfl (by simp [hlen]) hl.1 (by simp) (hcat9 hcat) hd ⟨Nat.le_trans hkc hRc, Nat.le_trans hks hRs⟩
    exact e_back (kr := eRetK (pc + 3) ls r K0) (kt := eThrK M Q pc ls K0) hr hSS (fun v h' H1 locs1 hkr hR1 hS1 => by
      cases v with
      | none => exact hK0 _ _ _ _ _ _ hkr H1 locs1 lsA hR1 hS1 hl
      | some v => exact hK0 _ _ _ _ _ _ hkr H1 locs1 lsA hR1 hS1 hl) (fun E h' H1 locs1 q9 ce hkt hE3 hR1 hS1 hce hcv hcl => by
      exact e_catch cx hl E h' H1 locs1 q9 ce _ _ hkt hE3 hR1 hS1 hce hcv hcl hkc hks)
  | false =>
    rw [hc] at hs
    obtain ⟨⟨hcat, hkc, hks⟩, hCC⟩ := hs
    rw [if_neg (fun h9 => by simp [h9] at hc)] at hlk
    have h2d := hdC _ _ _ _ hCC
    have hcon := eCon_met (hC _ _ _ _ hCC hY) (fun n h' h9 => h9)
    by_cases hc1 : c = 1
    · rw [if_pos hc1] at hlk
      obtain ⟨hYh, w1⟩ := hlk
      have hr := va_runSN (p := p) (e := e) (R := R) (s := s) (m := m) (args := args) (below := below) (meth := meth) (c := c0) (H := H) (locs := locs) (cells := kc) (slots := ks) (own := (mNm M).cls) (host := RX6) (index := x9) (y := mNm (T a)) (bytes := mBy (T a)) (maxL := mLo (T a)) (nL := mLo M) (ret := mRt (T a)) (n := b) (As := as.map (eV base b0)) (rest := r.map (eV base b0)) (g := F0 m pc lsA ((as.reverse ++ r).map (eV base b0))) (cc := mBy M) (Ts := lw_tbl.filter goodWord) ⟨hx, hb, hml, hown, hts⟩ hcon
        ⟨⟨⟨rfl, rfl, by show d - 1 + 1 ≤ R.frames; omega, by show 8 + (mLo (T a) + 11) + 31 * (d - 1) ≤ R.locals; have := hY.2.2.2.2; omega, eWs_ok hG hY, by rw [← mWd_nil hYh]; exact List.mem_cons_self⟩, by rw [← mWd_nil hYh]; exact hG _ hY.1, hG _ hY.2.1, hY.2.2.1, hari, va_Nw.use rfl (hNG _ w1)⟩, hG _ w2, trivial⟩
        ⟨eCon_blind, fun U hU hW => eEV.call hE hR hSS U hU hW⟩ rfl (by simp [hlen]) hl.1 (by simp) (hcat9 hcat) hd ⟨Nat.le_trans hkc hRc, Nat.le_trans hks hRs⟩
      exact e_backM (kr := eRetK (pc + 3) ls r K0) hr hSS (fun v h' H1 locs1 hkr hR1 hS1 => by
        cases v with
        | none => exact hK0 _ _ _ _ _ _ hkr H1 locs1 lsA hR1 hS1 hl
        | some v => exact hK0 _ _ _ _ _ _ hkr H1 locs1 lsA hR1 hS1 hl)
    · rw [if_neg hc1] at hlk
      obtain ⟨hYh, w1⟩ := hlk
      have hr := vx_runSW (p := p) (e := e) (R := R) (s := s) (m := m) (args := args) (below := below) (meth := meth) (c := c0) (H := H) (locs := locs) (cells := kc) (slots := ks) (own := (mNm M).cls) (index := x9) (y := mNm (T a)) (bytes := mBy (T a)) (maxL := mLo (T a)) (nL := mLo M) (ret := mRt (T a)) (hh := mHh (T a)) (n := b) (As := as.map (eV base b0)) (rest := r.map (eV base b0)) (g := F0 m pc lsA ((as.reverse ++ r).map (eV base b0))) (cc := mBy M) (Ts := lw_tbl.filter goodWord) ⟨hx, hb, hml, hown, hts⟩ hcon
        ⟨⟨rfl, rfl, by show d - 1 + 1 ≤ R.frames; omega, by show 8 + (mLo (T a) + 11) + 31 * (d - 1) ≤ R.locals; have := hY.2.2.2.2; omega, eWs_ok hG hY, by rw [← mWd_ne hYh]; exact List.mem_cons_self⟩, by rw [← mWd_ne hYh]; exact hG _ hY.1, hG _ hY.2.1, hY.2.2.1, hari, hG _ w1, hG _ w2⟩
        ⟨eCon_blind, fun U hU hW => eEV.call hE hR hSS U hU hW⟩ rfl (by simp [hlen]) hl.1 (by simp) (hcat9 hcat) hd ⟨Nat.le_trans hkc hRc, Nat.le_trans hks hRs⟩
      exact e_backM (kr := eRetK (pc + 3) ls r K0) hr hSS (fun v h' H1 locs1 hkr hR1 hS1 => by
        cases v with
        | none => exact hK0 _ _ _ _ _ _ hkr H1 locs1 lsA hR1 hS1 hl
        | some v => exact hK0 _ _ _ _ _ _ hkr H1 locs1 lsA hR1 hS1 hl)
set_option maxHeartbeats 4000000 in
set_option maxRecDepth 100000 in
theorem ei_invokespecial (cx : eCx p l e R s m args below meth c0 D dA base b0 S T C M d Q Fin K0) (x9 : Nat) {n a b c pc : Nat} {ls : eL} {st : List Value} {h : eH} {kc ks : Nat} {H : Heap} {locs : List Loc} {lsA : Array Slot} (hd : decode (mBy M) pc = .ok ((.invokespecial x9), eLen pc (.invokespecial x9) n)) (hn : n = pc + eLen pc (.invokespecial x9) n) (hi : eIns M pc (.invokespecial x9) a b c = true) (hlk : eLink T M (pc, (.invokespecial x9), n, a, b, c)) (hR : eRH D dA base b0 h H) (hSS : va_S (fun q => base ≤ q) s.heap H locs) (hl : lv_has lsA (mLo M) (eLs base b0 ls)) (hstep : okI S T C M d Q (.invokespecial x9) n a b c pc ls st h kc ks K0) : W p l e R s m args below meth c0 H locs kc ks Fin (F0 m pc lsA (st.map (eV base b0))) := by
  have cx0 := cx
  obtain ⟨hK0, hx, hb, hml, hown, hG, hE, hOK, hCl, hCa, hinit, hRf, hRl, hd1, hRc, hRs, htab, hC, hdC, hfin, hout, hthr⟩ := cx0
  have hOK0 := hOK
  obtain ⟨hOKc, hOKl, hOKh⟩ := hOK0
  have hE0 := hE
  obtain ⟨hNG, hStr, hZ1, hZ2, hAO, hK, hAr, hX, hbb, hbs, hNc⟩ := hE0
  have hA : ∀ q : Nat, s.heap.size ≤ q → base ≤ q := va_SA hbs
  have hts : ∀ w ∈ lw_tbl.filter goodWord, w.before args s = true := fun w hw => hG w ⟨(List.mem_filter.mp hw).1, (List.mem_filter.mp hw).2⟩
  have hKy : ∀ t, t ≤ 4 → va_K D vwCl [(dA t, eTyA t)] s := fun t ht => ⟨hK.1, fun k q hq => by
    match k, hq with
    | 0, hq => cases hq; exact hAr t ht
    | k + 1, hq => simp at hq⟩
  have hP1 : ∀ {k : Nat} {o : va_E}, h.2[k]? = some o → va_P D vwCl [(base + k, eZ dA base b0 o)] H := fun {k o} hk j q hq => by
    match j, hq with
    | 0, hq => cases hq; exact hR.1 k o hk
    | j + 1, hq => simp at hq
  have hd : decode (mBy M) pc = .ok (.invokespecial x9, 3) := hd
  have hn : n = pc + 3 := hn
  subst hn
  have hstep : (bif c == 2 then mR st (fun _ r => Nat.ble (eCat r) 8 = true ∧ 1 ≤ d ∧ K0 (pc + 3) ls r h kc ks) else eArg b st [] (fun as r => mR as (fun _ _ => eCall T C M a as r h kc ks (eRetK (pc + 3) ls r K0) (fun _ _ _ _ => False)))) := hstep
  cases hc : (c == 2) with
  | true =>
    rw [hc] at hstep
    have hlk : if c = 2 then eW (.methodLink (mNm M).cls x9 objectInit) ∧ eW (.instanceMethod objectInit) ∧ eW (.code objectInit ⟨#[0xb1]⟩ 1 none) else _ := hlk
    rw [if_pos (eq_of_beq hc)] at hlk
    obtain ⟨q, r, rfl, hcat, hd9, hk⟩ := mR_s hstep
    have hcat := Nat.le_of_ble_eq_true hcat
    refine W.objInit hx hb hown (hG _ hlk.1) (hG _ hlk.2.1) (hG _ hlk.2.2) rfl (hl.1.trans hml.symm) (a := eAd base b0 q) (rest := r.map (eV base b0)) rfl hd (by omega) (by show 2 * 0 + _ + 12 ≤ R.locals; rw [eCat_sum]; omega) ?_
    exact hK0 _ _ _ _ _ _ hk H locs lsA hR hSS hl
  | false =>
    rw [hc] at hstep
    have hlk : if c = 2 then _ else eMeth (T a) ∧ mHh (T a) = [] ∧ mRt (T a) = none ∧ (mNm (T a)).name = "<init>" ∧ (∃ n, b = n + 1 ∧ eAri (T a) n) ∧ eW (.instanceMethod (mNm (T a))) ∧ (if c = 0 then eW (.methodLink (mNm M).cls x9 (mNm (T a))) else eX (.methodLinkNest (mNm M).cls x9 (mNm (T a)) RX6)) := hlk
    rw [if_neg (fun h9 => by simp [h9] at hc)] at hlk
    obtain ⟨as, r, rfl, hlen, hs⟩ := eArg_s hstep
    rw [List.append_nil] at hs
    obtain ⟨q, as1, rfl, ⟨hcat, hkc, hks⟩, hCC⟩ := mR_s hs
    obtain ⟨hY, hYh, hYr, hYn, ⟨n9, hb9, har⟩, w2, hlk⟩ := hlk
    have h2d := hdC _ _ _ _ hCC
    have hari : ∀ sig, parseMethodDescriptor (mNm (T a)).desc = some sig → n9 = sig.parameters.length := fun sig h9 => by have := har; unfold eAri at this; rw [h9] at this; exact (Option.some.inj this).symm
    have hcat9 : ∀ {k : List Value}, Nat.ble (eCat r) 8 = true → 2 * (F0 m pc lsA k).monitorRoom + ((r.map (eV base b0)).map fun v => v.category).sum ≤ 8 := fun h9 => by show 2 * 0 + _ ≤ 8; rw [eCat_sum]; have := Nat.le_of_ble_eq_true h9; omega
    have hcon := hC _ _ _ _ hCC hY
    have hcd : Cond.code (mNm (T a)) (mBy (T a)) (mLo (T a)) none ∈ mWd (T a) :: lw_tbl.filter goodWord := by rw [mWd_nil hYh, hYr]; exact List.mem_cons_self
    have hcd2 : (Cond.code (mNm (T a)) (mBy (T a)) (mLo (T a)) none).before args s = true := by have h9 := hG _ hY.1; rw [mWd_nil hYh, hYr] at h9; exact h9
    by_cases hc0 : c = 0
    · rw [if_pos hc0] at hlk
      have hr := vx_runI (p := p) (e := e) (R := R) (s := s) (m := m) (args := args) (below := below) (meth := meth) (c := c0) (H := H) (locs := locs) (cells := kc) (slots := ks) (own := (mNm M).cls) (index := x9) (y := mNm (T a)) (bytes := mBy (T a)) (maxL := mLo (T a)) (nL := mLo M) (n := n9) (b := eAd base b0 q) (As := as1.map (eV base b0)) (rest := r.map (eV base b0)) (g := F0 m pc lsA (((Value.ref q :: as1).reverse ++ r).map (eV base b0))) (cc := mBy M) (Ts := lw_tbl.filter goodWord) ⟨hx, hb, hml, hown, hts⟩ hcon
        ⟨⟨rfl, rfl, by show d - 1 + 1 ≤ R.frames; omega, by show 8 + (mLo (T a) + 11) + 31 * (d - 1) ≤ R.locals; have := hY.2.2.2.2; omega, eWs_ok hG hY, hcd, hcd2, hG _ hY.2.1, hY.2.2.1, hari, hG _ hlk⟩, hYn, hG _ w2⟩
        ⟨eCon_blind, fun U hU hW => eEV.call hE hR hSS U hU hW⟩ rfl (by simp at hlen ⊢; omega) hl.1 (by simp [eV]) (hcat9 hcat) hd ⟨Nat.le_trans hkc hRc, Nat.le_trans hks hRs⟩
      exact e_back (kr := eRetK (pc + 3) ls r K0) (kt := fun _ _ _ _ => False) hr hSS (fun v h' H1 locs1 hkr hR1 hS1 => by
        cases v with
        | none => exact hK0 _ _ _ _ _ _ hkr H1 locs1 lsA hR1 hS1 hl
        | some v => exact hK0 _ _ _ _ _ _ hkr H1 locs1 lsA hR1 hS1 hl) (fun E h' H1 locs1 q9 ce hkt hE3 hR1 hS1 hce hcv hcl => hkt.elim)
    · rw [if_neg hc0] at hlk
      have hr := vx_runIN (p := p) (e := e) (R := R) (s := s) (m := m) (args := args) (below := below) (meth := meth) (c := c0) (H := H) (locs := locs) (cells := kc) (slots := ks) (own := (mNm M).cls) (host := RX6) (index := x9) (y := mNm (T a)) (bytes := mBy (T a)) (maxL := mLo (T a)) (nL := mLo M) (n := n9) (b := eAd base b0 q) (As := as1.map (eV base b0)) (rest := r.map (eV base b0)) (g := F0 m pc lsA (((Value.ref q :: as1).reverse ++ r).map (eV base b0))) (cc := mBy M) (Ts := lw_tbl.filter goodWord) ⟨hx, hb, hml, hown, hts⟩ hcon
        ⟨⟨⟨rfl, rfl, by show d - 1 + 1 ≤ R.frames; omega, by show 8 + (mLo (T a) + 11) + 31 * (d - 1) ≤ R.locals; have := hY.2.2.2.2; omega, eWs_ok hG hY, hcd⟩, hcd2, hG _ hY.2.1, hY.2.2.1, hari, va_Nw.use rfl (hNG _ hlk)⟩, hYn, hG _ w2⟩
        ⟨eCon_blind, fun U hU hW => eEV.call hE hR hSS U hU hW⟩ rfl (by simp at hlen ⊢; omega) hl.1 (by simp [eV]) (hcat9 hcat) hd ⟨Nat.le_trans hkc hRc, Nat.le_trans hks hRs⟩
      exact e_back (kr := eRetK (pc + 3) ls r K0) (kt := fun _ _ _ _ => False) hr hSS (fun v h' H1 locs1 hkr hR1 hS1 => by
        cases v with
        | none => exact hK0 _ _ _ _ _ _ hkr H1 locs1 lsA hR1 hS1 hl
        | some v => exact hK0 _ _ _ _ _ _ hkr H1 locs1 lsA hR1 hS1 hl) (fun E h' H1 locs1 q9 ce hkt hE3 hR1 hS1 hce hcv hcl => hkt.elim)
set_option maxHeartbeats 4000000 in
set_option maxRecDepth 100000 in
theorem ei_lreturn (cx : eCx p l e R s m args below meth c0 D dA base b0 S T C M d Q Fin K0)  {n a b c pc : Nat} {ls : eL} {st : List Value} {h : eH} {kc ks : Nat} {H : Heap} {locs : List Loc} {lsA : Array Slot} (hd : decode (mBy M) pc = .ok (.lreturn, eLen pc .lreturn n)) (hn : n = pc + eLen pc .lreturn n) (hi : eIns M pc .lreturn a b c = true) (hlk : eLink T M (pc, .lreturn, n, a, b, c)) (hR : eRH D dA base b0 h H) (hSS : va_S (fun q => base ≤ q) s.heap H locs) (hl : lv_has lsA (mLo M) (eLs base b0 ls)) (hstep : okI S T C M d Q .lreturn n a b c pc ls st h kc ks K0) : W p l e R s m args below meth c0 H locs kc ks Fin (F0 m pc lsA (st.map (eV base b0))) := by
  have cx0 := cx
  obtain ⟨hK0, hx, hb, hml, hown, hG, hE, hOK, hCl, hCa, hinit, hRf, hRl, hd1, hRc, hRs, htab, hC, hdC, hfin, hout, hthr⟩ := cx0
  have hOK0 := hOK
  obtain ⟨hOKc, hOKl, hOKh⟩ := hOK0
  have hE0 := hE
  obtain ⟨hNG, hStr, hZ1, hZ2, hAO, hK, hAr, hX, hbb, hbs, hNc⟩ := hE0
  have hA : ∀ q : Nat, s.heap.size ≤ q → base ≤ q := va_SA hbs
  have hts : ∀ w ∈ lw_tbl.filter goodWord, w.before args s = true := fun w hw => hG w ⟨(List.mem_filter.mp hw).1, (List.mem_filter.mp hw).2⟩
  have hKy : ∀ t, t ≤ 4 → va_K D vwCl [(dA t, eTyA t)] s := fun t ht => ⟨hK.1, fun k q hq => by
    match k, hq with
    | 0, hq => cases hq; exact hAr t ht
    | k + 1, hq => simp at hq⟩
  have hP1 : ∀ {k : Nat} {o : va_E}, h.2[k]? = some o → va_P D vwCl [(base + k, eZ dA base b0 o)] H := fun {k o} hk j q hq => by
    match j, hq with
    | 0, hq => cases hq; exact hR.1 k o hk
    | j + 1, hq => simp at hq
  have hstep : mJ st (fun x r => mN r (eEnd M Q (some (.long x)) h kc ks)) := hstep
  have hd : decode (mBy M) pc = .ok (.lreturn, 1) := hd
  obtain ⟨x, r, rfl, hs⟩ := mJ_s hstep
  obtain ⟨rfl, hk⟩ := mN_s hs
  exact hfin .lreturn (some (.long x)) pc H locs lsA h kc ks (Or.inr (Or.inl ⟨rfl, ⟨x, rfl⟩, of_decide_eq_true hi⟩)) hd hk hR hSS
set_option maxHeartbeats 4000000 in
set_option maxRecDepth 100000 in
theorem ei_freturn (cx : eCx p l e R s m args below meth c0 D dA base b0 S T C M d Q Fin K0)  {n a b c pc : Nat} {ls : eL} {st : List Value} {h : eH} {kc ks : Nat} {H : Heap} {locs : List Loc} {lsA : Array Slot} (hd : decode (mBy M) pc = .ok (.freturn, eLen pc .freturn n)) (hn : n = pc + eLen pc .freturn n) (hi : eIns M pc .freturn a b c = true) (hlk : eLink T M (pc, .freturn, n, a, b, c)) (hR : eRH D dA base b0 h H) (hSS : va_S (fun q => base ≤ q) s.heap H locs) (hl : lv_has lsA (mLo M) (eLs base b0 ls)) (hstep : okI S T C M d Q .freturn n a b c pc ls st h kc ks K0) : W p l e R s m args below meth c0 H locs kc ks Fin (F0 m pc lsA (st.map (eV base b0))) := by
  have cx0 := cx
  obtain ⟨hK0, hx, hb, hml, hown, hG, hE, hOK, hCl, hCa, hinit, hRf, hRl, hd1, hRc, hRs, htab, hC, hdC, hfin, hout, hthr⟩ := cx0
  have hOK0 := hOK
  obtain ⟨hOKc, hOKl, hOKh⟩ := hOK0
  have hE0 := hE
  obtain ⟨hNG, hStr, hZ1, hZ2, hAO, hK, hAr, hX, hbb, hbs, hNc⟩ := hE0
  have hA : ∀ q : Nat, s.heap.size ≤ q → base ≤ q := va_SA hbs
  have hts : ∀ w ∈ lw_tbl.filter goodWord, w.before args s = true := fun w hw => hG w ⟨(List.mem_filter.mp hw).1, (List.mem_filter.mp hw).2⟩
  have hKy : ∀ t, t ≤ 4 → va_K D vwCl [(dA t, eTyA t)] s := fun t ht => ⟨hK.1, fun k q hq => by
    match k, hq with
    | 0, hq => cases hq; exact hAr t ht
    | k + 1, hq => simp at hq⟩
  have hP1 : ∀ {k : Nat} {o : va_E}, h.2[k]? = some o → va_P D vwCl [(base + k, eZ dA base b0 o)] H := fun {k o} hk j q hq => by
    match j, hq with
    | 0, hq => cases hq; exact hR.1 k o hk
    | j + 1, hq => simp at hq
  have hstep : mF st (fun x r => mN r (eEnd M Q (some (.float x)) h kc ks)) := hstep
  have hd : decode (mBy M) pc = .ok (.freturn, 1) := hd
  obtain ⟨x, r, rfl, hs⟩ := mF_s hstep
  obtain ⟨rfl, hk⟩ := mN_s hs
  exact hfin .freturn (some (.float x)) pc H locs lsA h kc ks (Or.inr (Or.inr (Or.inl ⟨rfl, ⟨x, rfl⟩, of_decide_eq_true hi⟩))) hd hk hR hSS
set_option maxHeartbeats 4000000 in
set_option maxRecDepth 100000 in
theorem ei_dreturn (cx : eCx p l e R s m args below meth c0 D dA base b0 S T C M d Q Fin K0)  {n a b c pc : Nat} {ls : eL} {st : List Value} {h : eH} {kc ks : Nat} {H : Heap} {locs : List Loc} {lsA : Array Slot} (hd : decode (mBy M) pc = .ok (.dreturn, eLen pc .dreturn n)) (hn : n = pc + eLen pc .dreturn n) (hi : eIns M pc .dreturn a b c = true) (hlk : eLink T M (pc, .dreturn, n, a, b, c)) (hR : eRH D dA base b0 h H) (hSS : va_S (fun q => base ≤ q) s.heap H locs) (hl : lv_has lsA (mLo M) (eLs base b0 ls)) (hstep : okI S T C M d Q .dreturn n a b c pc ls st h kc ks K0) : W p l e R s m args below meth c0 H locs kc ks Fin (F0 m pc lsA (st.map (eV base b0))) := by
  have cx0 := cx
  obtain ⟨hK0, hx, hb, hml, hown, hG, hE, hOK, hCl, hCa, hinit, hRf, hRl, hd1, hRc, hRs, htab, hC, hdC, hfin, hout, hthr⟩ := cx0
  have hOK0 := hOK
  obtain ⟨hOKc, hOKl, hOKh⟩ := hOK0
  have hE0 := hE
  obtain ⟨hNG, hStr, hZ1, hZ2, hAO, hK, hAr, hX, hbb, hbs, hNc⟩ := hE0
  have hA : ∀ q : Nat, s.heap.size ≤ q → base ≤ q := va_SA hbs
  have hts : ∀ w ∈ lw_tbl.filter goodWord, w.before args s = true := fun w hw => hG w ⟨(List.mem_filter.mp hw).1, (List.mem_filter.mp hw).2⟩
  have hKy : ∀ t, t ≤ 4 → va_K D vwCl [(dA t, eTyA t)] s := fun t ht => ⟨hK.1, fun k q hq => by
    match k, hq with
    | 0, hq => cases hq; exact hAr t ht
    | k + 1, hq => simp at hq⟩
  have hP1 : ∀ {k : Nat} {o : va_E}, h.2[k]? = some o → va_P D vwCl [(base + k, eZ dA base b0 o)] H := fun {k o} hk j q hq => by
    match j, hq with
    | 0, hq => cases hq; exact hR.1 k o hk
    | j + 1, hq => simp at hq
  have hstep : mD st (fun x r => mN r (eEnd M Q (some (.double x)) h kc ks)) := hstep
  have hd : decode (mBy M) pc = .ok (.dreturn, 1) := hd
  obtain ⟨x, r, rfl, hs⟩ := mD_s hstep
  obtain ⟨rfl, hk⟩ := mN_s hs
  exact hfin .dreturn (some (.double x)) pc H locs lsA h kc ks (Or.inr (Or.inr (Or.inr (Or.inl ⟨rfl, ⟨x, rfl⟩, of_decide_eq_true hi⟩)))) hd hk hR hSS
set_option maxHeartbeats 4000000 in
set_option maxRecDepth 100000 in
theorem ei_areturn (cx : eCx p l e R s m args below meth c0 D dA base b0 S T C M d Q Fin K0)  {n a b c pc : Nat} {ls : eL} {st : List Value} {h : eH} {kc ks : Nat} {H : Heap} {locs : List Loc} {lsA : Array Slot} (hd : decode (mBy M) pc = .ok (.areturn, eLen pc .areturn n)) (hn : n = pc + eLen pc .areturn n) (hi : eIns M pc .areturn a b c = true) (hlk : eLink T M (pc, .areturn, n, a, b, c)) (hR : eRH D dA base b0 h H) (hSS : va_S (fun q => base ≤ q) s.heap H locs) (hl : lv_has lsA (mLo M) (eLs base b0 ls)) (hstep : okI S T C M d Q .areturn n a b c pc ls st h kc ks K0) : W p l e R s m args below meth c0 H locs kc ks Fin (F0 m pc lsA (st.map (eV base b0))) := by
  have cx0 := cx
  obtain ⟨hK0, hx, hb, hml, hown, hG, hE, hOK, hCl, hCa, hinit, hRf, hRl, hd1, hRc, hRs, htab, hC, hdC, hfin, hout, hthr⟩ := cx0
  have hOK0 := hOK
  obtain ⟨hOKc, hOKl, hOKh⟩ := hOK0
  have hE0 := hE
  obtain ⟨hNG, hStr, hZ1, hZ2, hAO, hK, hAr, hX, hbb, hbs, hNc⟩ := hE0
  have hA : ∀ q : Nat, s.heap.size ≤ q → base ≤ q := va_SA hbs
  have hts : ∀ w ∈ lw_tbl.filter goodWord, w.before args s = true := fun w hw => hG w ⟨(List.mem_filter.mp hw).1, (List.mem_filter.mp hw).2⟩
  have hKy : ∀ t, t ≤ 4 → va_K D vwCl [(dA t, eTyA t)] s := fun t ht => ⟨hK.1, fun k q hq => by
    match k, hq with
    | 0, hq => cases hq; exact hAr t ht
    | k + 1, hq => simp at hq⟩
  have hP1 : ∀ {k : Nat} {o : va_E}, h.2[k]? = some o → va_P D vwCl [(base + k, eZ dA base b0 o)] H := fun {k o} hk j q hq => by
    match j, hq with
    | 0, hq => cases hq; exact hR.1 k o hk
    | j + 1, hq => simp at hq
  have hstep : mR st (fun x r => mN r (eEnd M Q (some (.ref x)) h kc ks)) := hstep
  have hd : decode (mBy M) pc = .ok (.areturn, 1) := hd
  obtain ⟨x, r, rfl, hs⟩ := mR_s hstep
  obtain ⟨rfl, hk⟩ := mN_s hs
  exact hfin .areturn (some (.ref x)) pc H locs lsA h kc ks (Or.inr (Or.inr (Or.inr (Or.inr (Or.inl ⟨rfl, ⟨x, rfl⟩, eObj_s hi⟩))))) hd hk hR hSS
set_option maxHeartbeats 4000000 in
set_option maxRecDepth 100000 in
theorem ei_ireturn (cx : eCx p l e R s m args below meth c0 D dA base b0 S T C M d Q Fin K0)  {n a b c pc : Nat} {ls : eL} {st : List Value} {h : eH} {kc ks : Nat} {H : Heap} {locs : List Loc} {lsA : Array Slot} (hd : decode (mBy M) pc = .ok (.ireturn, eLen pc .ireturn n)) (hn : n = pc + eLen pc .ireturn n) (hi : eIns M pc .ireturn a b c = true) (hlk : eLink T M (pc, .ireturn, n, a, b, c)) (hR : eRH D dA base b0 h H) (hSS : va_S (fun q => base ≤ q) s.heap H locs) (hl : lv_has lsA (mLo M) (eLs base b0 ls)) (hstep : okI S T C M d Q .ireturn n a b c pc ls st h kc ks K0) : W p l e R s m args below meth c0 H locs kc ks Fin (F0 m pc lsA (st.map (eV base b0))) := by
  have cx0 := cx
  obtain ⟨hK0, hx, hb, hml, hown, hG, hE, hOK, hCl, hCa, hinit, hRf, hRl, hd1, hRc, hRs, htab, hC, hdC, hfin, hout, hthr⟩ := cx0
  have hOK0 := hOK
  obtain ⟨hOKc, hOKl, hOKh⟩ := hOK0
  have hE0 := hE
  obtain ⟨hNG, hStr, hZ1, hZ2, hAO, hK, hAr, hX, hbb, hbs, hNc⟩ := hE0
  have hA : ∀ q : Nat, s.heap.size ≤ q → base ≤ q := va_SA hbs
  have hts : ∀ w ∈ lw_tbl.filter goodWord, w.before args s = true := fun w hw => hG w ⟨(List.mem_filter.mp hw).1, (List.mem_filter.mp hw).2⟩
  have hKy : ∀ t, t ≤ 4 → va_K D vwCl [(dA t, eTyA t)] s := fun t ht => ⟨hK.1, fun k q hq => by
    match k, hq with
    | 0, hq => cases hq; exact hAr t ht
    | k + 1, hq => simp at hq⟩
  have hP1 : ∀ {k : Nat} {o : va_E}, h.2[k]? = some o → va_P D vwCl [(base + k, eZ dA base b0 o)] H := fun {k o} hk j q hq => by
    match j, hq with
    | 0, hq => cases hq; exact hR.1 k o hk
    | j + 1, hq => simp at hq
  have hstep : mI st (fun x r => mN r (eNar (mRt M) x ∧ eEnd M Q (some (.int x)) h kc ks)) := hstep
  have hd : decode (mBy M) pc = .ok (.ireturn, 1) := hd
  obtain ⟨x, r, rfl, hs⟩ := mI_s hstep
  obtain ⟨rfl, hnr, hk⟩ := mN_s hs
  exact hfin .ireturn (some (.int x)) pc H locs lsA h kc ks (Or.inl ⟨rfl, x, rfl, hnr⟩) hd hk hR hSS
set_option maxHeartbeats 4000000 in
set_option maxRecDepth 100000 in
theorem ei_return_ (cx : eCx p l e R s m args below meth c0 D dA base b0 S T C M d Q Fin K0)  {n a b c pc : Nat} {ls : eL} {st : List Value} {h : eH} {kc ks : Nat} {H : Heap} {locs : List Loc} {lsA : Array Slot} (hd : decode (mBy M) pc = .ok (.return_, eLen pc .return_ n)) (hn : n = pc + eLen pc .return_ n) (hi : eIns M pc .return_ a b c = true) (hlk : eLink T M (pc, .return_, n, a, b, c)) (hR : eRH D dA base b0 h H) (hSS : va_S (fun q => base ≤ q) s.heap H locs) (hl : lv_has lsA (mLo M) (eLs base b0 ls)) (hstep : okI S T C M d Q .return_ n a b c pc ls st h kc ks K0) : W p l e R s m args below meth c0 H locs kc ks Fin (F0 m pc lsA (st.map (eV base b0))) := by
  have cx0 := cx
  obtain ⟨hK0, hx, hb, hml, hown, hG, hE, hOK, hCl, hCa, hinit, hRf, hRl, hd1, hRc, hRs, htab, hC, hdC, hfin, hout, hthr⟩ := cx0
  have hOK0 := hOK
  obtain ⟨hOKc, hOKl, hOKh⟩ := hOK0
  have hE0 := hE
  obtain ⟨hNG, hStr, hZ1, hZ2, hAO, hK, hAr, hX, hbb, hbs, hNc⟩ := hE0
  have hA : ∀ q : Nat, s.heap.size ≤ q → base ≤ q := va_SA hbs
  have hts : ∀ w ∈ lw_tbl.filter goodWord, w.before args s = true := fun w hw => hG w ⟨(List.mem_filter.mp hw).1, (List.mem_filter.mp hw).2⟩
  have hKy : ∀ t, t ≤ 4 → va_K D vwCl [(dA t, eTyA t)] s := fun t ht => ⟨hK.1, fun k q hq => by
    match k, hq with
    | 0, hq => cases hq; exact hAr t ht
    | k + 1, hq => simp at hq⟩
  have hP1 : ∀ {k : Nat} {o : va_E}, h.2[k]? = some o → va_P D vwCl [(base + k, eZ dA base b0 o)] H := fun {k o} hk j q hq => by
    match j, hq with
    | 0, hq => cases hq; exact hR.1 k o hk
    | j + 1, hq => simp at hq
  have hstep : mN st (eEnd M Q none h kc ks) := hstep
  have hd : decode (mBy M) pc = .ok (.return_, 1) := hd
  obtain ⟨rfl, hk⟩ := mN_s hstep
  exact hfin .return_ none pc H locs lsA h kc ks (Or.inr (Or.inr (Or.inr (Or.inr (Or.inr ⟨rfl, rfl, of_decide_eq_true hi⟩))))) hd hk hR hSS
end InsD
