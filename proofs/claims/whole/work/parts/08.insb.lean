section InsB
variable {p : Program} {l : Launch} {e : Env} {R : Room} {s : State} {m : MethodId} {args : Array Value} {below : List Frame} {meth : Method} {c0 : Code} {Fin : State → Prop}
variable {S : Nat × (Nat → Int32)} {T : Nat → eM} {C : eC} {M : eM} {d : Nat} {Q : eQ} {D : va_G} {dA : Nat → ClassId} {base b0 : Nat} {K0 : eK}
set_option maxHeartbeats 4000000 in
set_option maxRecDepth 100000 in
theorem ei_ior (cx : eCx p l e R s m args below meth c0 D dA base b0 S T C M d Q Fin K0)  {n a b c pc : Nat} {ls : eL} {st : List Value} {h : eH} {kc ks : Nat} {H : Heap} {locs : List Loc} {lsA : Array Slot} (hd : decode (mBy M) pc = .ok (.ior, eLen pc .ior n)) (hn : n = pc + eLen pc .ior n) (hi : eIns M pc .ior a b c = true) (hlk : eLink T M (pc, .ior, n, a, b, c)) (hR : eRH D dA base b0 h H) (hSS : va_S (fun q => base ≤ q) s.heap H locs) (hl : lv_has lsA (mLo M) (eLs base b0 ls)) (hstep : okI S T C M d Q .ior n a b c pc ls st h kc ks K0) : W p l e R s m args below meth c0 H locs kc ks Fin (F0 m pc lsA (st.map (eV base b0))) := by
  have cx0 := cx
  obtain ⟨hK0, hx, hb, hml, hown, hG, hE, hOK, hCl, hCa, hinit, hRf, hRl, hd1, hRc, hRs, htab, hC, hdC, hfin, hout, hthr⟩ := cx0
  have hOK0 := hOK
  obtain ⟨hOKc, hOKl, hOKh⟩ := hOK0
  have hE0 := hE
  obtain ⟨hNG, hStr, hZ1, hZ2, hAO, hK, hAr, hX, hbb, hbs, hNc⟩ := hE0
  have hA : ∀ q : Nat, s.heap.size ≤ q → base ≤ q := va_SA hbs
  have hts : ∀ w ∈ lw_tbl.filter goodWord, w.before args s = true := fun w hw => hG w ⟨(List.mem_filter.mp hw).1, (List.mem_filter.mp hw).2⟩
  have hKy : ∀ t, t ≤ 4 → va_K D vwCl [(dA t, eTyA t)] s := fun t ht => ⟨hK.1, fun k q hq => by
    match k, hq with
    | 0, hq => cases hq; exact hAr t ht
    | k + 1, hq => simp at hq⟩
  have hP1 : ∀ {k : Nat} {o : va_E}, h.2[k]? = some o → va_P D vwCl [(base + k, eZ dA base b0 o)] H := fun {k o} hk j q hq => by
    match j, hq with
    | 0, hq => cases hq; exact hR.1 k o hk
    | j + 1, hq => simp at hq
  have hstep : mI st (fun y r => mI r (fun x r => K0 n ls (.int (x ||| y) :: r) h kc ks)) := hstep
  have hd : decode (mBy M) pc = .ok (.ior, 1) := hd
  have hn : n = pc + 1 := hn
  subst hn
  obtain ⟨y, r1, rfl, hs1⟩ := mI_s hstep
  obtain ⟨x, r, rfl, hk⟩ := mI_s hs1
  exact lv_ior hx hb hd (hK0 _ _ _ _ _ _ hk H locs lsA hR hSS hl)
set_option maxHeartbeats 4000000 in
set_option maxRecDepth 100000 in
theorem ei_ixor (cx : eCx p l e R s m args below meth c0 D dA base b0 S T C M d Q Fin K0)  {n a b c pc : Nat} {ls : eL} {st : List Value} {h : eH} {kc ks : Nat} {H : Heap} {locs : List Loc} {lsA : Array Slot} (hd : decode (mBy M) pc = .ok (.ixor, eLen pc .ixor n)) (hn : n = pc + eLen pc .ixor n) (hi : eIns M pc .ixor a b c = true) (hlk : eLink T M (pc, .ixor, n, a, b, c)) (hR : eRH D dA base b0 h H) (hSS : va_S (fun q => base ≤ q) s.heap H locs) (hl : lv_has lsA (mLo M) (eLs base b0 ls)) (hstep : okI S T C M d Q .ixor n a b c pc ls st h kc ks K0) : W p l e R s m args below meth c0 H locs kc ks Fin (F0 m pc lsA (st.map (eV base b0))) := by
  have cx0 := cx
  obtain ⟨hK0, hx, hb, hml, hown, hG, hE, hOK, hCl, hCa, hinit, hRf, hRl, hd1, hRc, hRs, htab, hC, hdC, hfin, hout, hthr⟩ := cx0
  have hOK0 := hOK
  obtain ⟨hOKc, hOKl, hOKh⟩ := hOK0
  have hE0 := hE
  obtain ⟨hNG, hStr, hZ1, hZ2, hAO, hK, hAr, hX, hbb, hbs, hNc⟩ := hE0
  have hA : ∀ q : Nat, s.heap.size ≤ q → base ≤ q := va_SA hbs
  have hts : ∀ w ∈ lw_tbl.filter goodWord, w.before args s = true := fun w hw => hG w ⟨(List.mem_filter.mp hw).1, (List.mem_filter.mp hw).2⟩
  have hKy : ∀ t, t ≤ 4 → va_K D vwCl [(dA t, eTyA t)] s := fun t ht => ⟨hK.1, fun k q hq => by
    match k, hq with
    | 0, hq => cases hq; exact hAr t ht
    | k + 1, hq => simp at hq⟩
  have hP1 : ∀ {k : Nat} {o : va_E}, h.2[k]? = some o → va_P D vwCl [(base + k, eZ dA base b0 o)] H := fun {k o} hk j q hq => by
    match j, hq with
    | 0, hq => cases hq; exact hR.1 k o hk
    | j + 1, hq => simp at hq
  have hstep : mI st (fun y r => mI r (fun x r => K0 n ls (.int (x ^^^ y) :: r) h kc ks)) := hstep
  have hd : decode (mBy M) pc = .ok (.ixor, 1) := hd
  have hn : n = pc + 1 := hn
  subst hn
  obtain ⟨y, r1, rfl, hs1⟩ := mI_s hstep
  obtain ⟨x, r, rfl, hk⟩ := mI_s hs1
  exact lv_ixor hx hb hd (hK0 _ _ _ _ _ _ hk H locs lsA hR hSS hl)
set_option maxHeartbeats 4000000 in
set_option maxRecDepth 100000 in
theorem ei_ishl (cx : eCx p l e R s m args below meth c0 D dA base b0 S T C M d Q Fin K0)  {n a b c pc : Nat} {ls : eL} {st : List Value} {h : eH} {kc ks : Nat} {H : Heap} {locs : List Loc} {lsA : Array Slot} (hd : decode (mBy M) pc = .ok (.ishl, eLen pc .ishl n)) (hn : n = pc + eLen pc .ishl n) (hi : eIns M pc .ishl a b c = true) (hlk : eLink T M (pc, .ishl, n, a, b, c)) (hR : eRH D dA base b0 h H) (hSS : va_S (fun q => base ≤ q) s.heap H locs) (hl : lv_has lsA (mLo M) (eLs base b0 ls)) (hstep : okI S T C M d Q .ishl n a b c pc ls st h kc ks K0) : W p l e R s m args below meth c0 H locs kc ks Fin (F0 m pc lsA (st.map (eV base b0))) := by
  have cx0 := cx
  obtain ⟨hK0, hx, hb, hml, hown, hG, hE, hOK, hCl, hCa, hinit, hRf, hRl, hd1, hRc, hRs, htab, hC, hdC, hfin, hout, hthr⟩ := cx0
  have hOK0 := hOK
  obtain ⟨hOKc, hOKl, hOKh⟩ := hOK0
  have hE0 := hE
  obtain ⟨hNG, hStr, hZ1, hZ2, hAO, hK, hAr, hX, hbb, hbs, hNc⟩ := hE0
  have hA : ∀ q : Nat, s.heap.size ≤ q → base ≤ q := va_SA hbs
  have hts : ∀ w ∈ lw_tbl.filter goodWord, w.before args s = true := fun w hw => hG w ⟨(List.mem_filter.mp hw).1, (List.mem_filter.mp hw).2⟩
  have hKy : ∀ t, t ≤ 4 → va_K D vwCl [(dA t, eTyA t)] s := fun t ht => ⟨hK.1, fun k q hq => by
    match k, hq with
    | 0, hq => cases hq; exact hAr t ht
    | k + 1, hq => simp at hq⟩
  have hP1 : ∀ {k : Nat} {o : va_E}, h.2[k]? = some o → va_P D vwCl [(base + k, eZ dA base b0 o)] H := fun {k o} hk j q hq => by
    match j, hq with
    | 0, hq => cases hq; exact hR.1 k o hk
    | j + 1, hq => simp at hq
  have hstep : mI st (fun y r => mI r (fun x r => K0 n ls (.int (x <<< (y &&& 31)) :: r) h kc ks)) := hstep
  have hd : decode (mBy M) pc = .ok (.ishl, 1) := hd
  have hn : n = pc + 1 := hn
  subst hn
  obtain ⟨y, r1, rfl, hs1⟩ := mI_s hstep
  obtain ⟨x, r, rfl, hk⟩ := mI_s hs1
  exact lv_ishl hx hb hd (hK0 _ _ _ _ _ _ hk H locs lsA hR hSS hl)
set_option maxHeartbeats 4000000 in
set_option maxRecDepth 100000 in
theorem ei_ishr (cx : eCx p l e R s m args below meth c0 D dA base b0 S T C M d Q Fin K0)  {n a b c pc : Nat} {ls : eL} {st : List Value} {h : eH} {kc ks : Nat} {H : Heap} {locs : List Loc} {lsA : Array Slot} (hd : decode (mBy M) pc = .ok (.ishr, eLen pc .ishr n)) (hn : n = pc + eLen pc .ishr n) (hi : eIns M pc .ishr a b c = true) (hlk : eLink T M (pc, .ishr, n, a, b, c)) (hR : eRH D dA base b0 h H) (hSS : va_S (fun q => base ≤ q) s.heap H locs) (hl : lv_has lsA (mLo M) (eLs base b0 ls)) (hstep : okI S T C M d Q .ishr n a b c pc ls st h kc ks K0) : W p l e R s m args below meth c0 H locs kc ks Fin (F0 m pc lsA (st.map (eV base b0))) := by
  have cx0 := cx
  obtain ⟨hK0, hx, hb, hml, hown, hG, hE, hOK, hCl, hCa, hinit, hRf, hRl, hd1, hRc, hRs, htab, hC, hdC, hfin, hout, hthr⟩ := cx0
  have hOK0 := hOK
  obtain ⟨hOKc, hOKl, hOKh⟩ := hOK0
  have hE0 := hE
  obtain ⟨hNG, hStr, hZ1, hZ2, hAO, hK, hAr, hX, hbb, hbs, hNc⟩ := hE0
  have hA : ∀ q : Nat, s.heap.size ≤ q → base ≤ q := va_SA hbs
  have hts : ∀ w ∈ lw_tbl.filter goodWord, w.before args s = true := fun w hw => hG w ⟨(List.mem_filter.mp hw).1, (List.mem_filter.mp hw).2⟩
  have hKy : ∀ t, t ≤ 4 → va_K D vwCl [(dA t, eTyA t)] s := fun t ht => ⟨hK.1, fun k q hq => by
    match k, hq with
    | 0, hq => cases hq; exact hAr t ht
    | k + 1, hq => simp at hq⟩
  have hP1 : ∀ {k : Nat} {o : va_E}, h.2[k]? = some o → va_P D vwCl [(base + k, eZ dA base b0 o)] H := fun {k o} hk j q hq => by
    match j, hq with
    | 0, hq => cases hq; exact hR.1 k o hk
    | j + 1, hq => simp at hq
  have hstep : mI st (fun y r => mI r (fun x r => K0 n ls (.int (x >>> (y &&& 31)) :: r) h kc ks)) := hstep
  have hd : decode (mBy M) pc = .ok (.ishr, 1) := hd
  have hn : n = pc + 1 := hn
  subst hn
  obtain ⟨y, r1, rfl, hs1⟩ := mI_s hstep
  obtain ⟨x, r, rfl, hk⟩ := mI_s hs1
  exact lv_ishr hx hb hd (hK0 _ _ _ _ _ _ hk H locs lsA hR hSS hl)
set_option maxHeartbeats 4000000 in
set_option maxRecDepth 100000 in
theorem ei_iushr (cx : eCx p l e R s m args below meth c0 D dA base b0 S T C M d Q Fin K0)  {n a b c pc : Nat} {ls : eL} {st : List Value} {h : eH} {kc ks : Nat} {H : Heap} {locs : List Loc} {lsA : Array Slot} (hd : decode (mBy M) pc = .ok (.iushr, eLen pc .iushr n)) (hn : n = pc + eLen pc .iushr n) (hi : eIns M pc .iushr a b c = true) (hlk : eLink T M (pc, .iushr, n, a, b, c)) (hR : eRH D dA base b0 h H) (hSS : va_S (fun q => base ≤ q) s.heap H locs) (hl : lv_has lsA (mLo M) (eLs base b0 ls)) (hstep : okI S T C M d Q .iushr n a b c pc ls st h kc ks K0) : W p l e R s m args below meth c0 H locs kc ks Fin (F0 m pc lsA (st.map (eV base b0))) := by
  have cx0 := cx
  obtain ⟨hK0, hx, hb, hml, hown, hG, hE, hOK, hCl, hCa, hinit, hRf, hRl, hd1, hRc, hRs, htab, hC, hdC, hfin, hout, hthr⟩ := cx0
  have hOK0 := hOK
  obtain ⟨hOKc, hOKl, hOKh⟩ := hOK0
  have hE0 := hE
  obtain ⟨hNG, hStr, hZ1, hZ2, hAO, hK, hAr, hX, hbb, hbs, hNc⟩ := hE0
  have hA : ∀ q : Nat, s.heap.size ≤ q → base ≤ q := va_SA hbs
  have hts : ∀ w ∈ lw_tbl.filter goodWord, w.before args s = true := fun w hw => hG w ⟨(List.mem_filter.mp hw).1, (List.mem_filter.mp hw).2⟩
  have hKy : ∀ t, t ≤ 4 → va_K D vwCl [(dA t, eTyA t)] s := fun t ht => ⟨hK.1, fun k q hq => by
    match k, hq with
    | 0, hq => cases hq; exact hAr t ht
    | k + 1, hq => simp at hq⟩
  have hP1 : ∀ {k : Nat} {o : va_E}, h.2[k]? = some o → va_P D vwCl [(base + k, eZ dA base b0 o)] H := fun {k o} hk j q hq => by
    match j, hq with
    | 0, hq => cases hq; exact hR.1 k o hk
    | j + 1, hq => simp at hq
  have hstep : mI st (fun y r => mI r (fun x r => K0 n ls (.int ((x.toUInt32 >>> (y.toUInt32 &&& 31)).toInt32) :: r) h kc ks)) := hstep
  have hd : decode (mBy M) pc = .ok (.iushr, 1) := hd
  have hn : n = pc + 1 := hn
  subst hn
  obtain ⟨y, r1, rfl, hs1⟩ := mI_s hstep
  obtain ⟨x, r, rfl, hk⟩ := mI_s hs1
  exact lv_iushr hx hb hd rfl (hK0 _ _ _ _ _ _ hk H locs lsA hR hSS hl)
set_option maxHeartbeats 4000000 in
set_option maxRecDepth 100000 in
theorem ei_irem (cx : eCx p l e R s m args below meth c0 D dA base b0 S T C M d Q Fin K0)  {n a b c pc : Nat} {ls : eL} {st : List Value} {h : eH} {kc ks : Nat} {H : Heap} {locs : List Loc} {lsA : Array Slot} (hd : decode (mBy M) pc = .ok (.irem, eLen pc .irem n)) (hn : n = pc + eLen pc .irem n) (hi : eIns M pc .irem a b c = true) (hlk : eLink T M (pc, .irem, n, a, b, c)) (hR : eRH D dA base b0 h H) (hSS : va_S (fun q => base ≤ q) s.heap H locs) (hl : lv_has lsA (mLo M) (eLs base b0 ls)) (hstep : okI S T C M d Q .irem n a b c pc ls st h kc ks K0) : W p l e R s m args below meth c0 H locs kc ks Fin (F0 m pc lsA (st.map (eV base b0))) := by
  have cx0 := cx
  obtain ⟨hK0, hx, hb, hml, hown, hG, hE, hOK, hCl, hCa, hinit, hRf, hRl, hd1, hRc, hRs, htab, hC, hdC, hfin, hout, hthr⟩ := cx0
  have hOK0 := hOK
  obtain ⟨hOKc, hOKl, hOKh⟩ := hOK0
  have hE0 := hE
  obtain ⟨hNG, hStr, hZ1, hZ2, hAO, hK, hAr, hX, hbb, hbs, hNc⟩ := hE0
  have hA : ∀ q : Nat, s.heap.size ≤ q → base ≤ q := va_SA hbs
  have hts : ∀ w ∈ lw_tbl.filter goodWord, w.before args s = true := fun w hw => hG w ⟨(List.mem_filter.mp hw).1, (List.mem_filter.mp hw).2⟩
  have hKy : ∀ t, t ≤ 4 → va_K D vwCl [(dA t, eTyA t)] s := fun t ht => ⟨hK.1, fun k q hq => by
    match k, hq with
    | 0, hq => cases hq; exact hAr t ht
    | k + 1, hq => simp at hq⟩
  have hP1 : ∀ {k : Nat} {o : va_E}, h.2[k]? = some o → va_P D vwCl [(base + k, eZ dA base b0 o)] H := fun {k o} hk j q hq => by
    match j, hq with
    | 0, hq => cases hq; exact hR.1 k o hk
    | j + 1, hq => simp at hq
  have hstep : mI st (fun y r => mI r (fun x r => ¬ y = 0 ∧ K0 n ls (.int (x - x / y * y) :: r) h kc ks)) := hstep
  have hd : decode (mBy M) pc = .ok (.irem, 1) := hd
  have hn : n = pc + 1 := hn
  subst hn
  obtain ⟨y, r, rfl, hs⟩ := mI_s hstep
  obtain ⟨x, r, rfl, h0, hk⟩ := mI_s hs
  exact lv_irem hx hb hd h0 (hK0 _ _ _ _ _ _ hk H locs lsA hR hSS hl)
set_option maxHeartbeats 4000000 in
set_option maxRecDepth 100000 in
theorem ei_ineg (cx : eCx p l e R s m args below meth c0 D dA base b0 S T C M d Q Fin K0)  {n a b c pc : Nat} {ls : eL} {st : List Value} {h : eH} {kc ks : Nat} {H : Heap} {locs : List Loc} {lsA : Array Slot} (hd : decode (mBy M) pc = .ok (.ineg, eLen pc .ineg n)) (hn : n = pc + eLen pc .ineg n) (hi : eIns M pc .ineg a b c = true) (hlk : eLink T M (pc, .ineg, n, a, b, c)) (hR : eRH D dA base b0 h H) (hSS : va_S (fun q => base ≤ q) s.heap H locs) (hl : lv_has lsA (mLo M) (eLs base b0 ls)) (hstep : okI S T C M d Q .ineg n a b c pc ls st h kc ks K0) : W p l e R s m args below meth c0 H locs kc ks Fin (F0 m pc lsA (st.map (eV base b0))) := by
  have cx0 := cx
  obtain ⟨hK0, hx, hb, hml, hown, hG, hE, hOK, hCl, hCa, hinit, hRf, hRl, hd1, hRc, hRs, htab, hC, hdC, hfin, hout, hthr⟩ := cx0
  have hOK0 := hOK
  obtain ⟨hOKc, hOKl, hOKh⟩ := hOK0
  have hE0 := hE
  obtain ⟨hNG, hStr, hZ1, hZ2, hAO, hK, hAr, hX, hbb, hbs, hNc⟩ := hE0
  have hA : ∀ q : Nat, s.heap.size ≤ q → base ≤ q := va_SA hbs
  have hts : ∀ w ∈ lw_tbl.filter goodWord, w.before args s = true := fun w hw => hG w ⟨(List.mem_filter.mp hw).1, (List.mem_filter.mp hw).2⟩
  have hKy : ∀ t, t ≤ 4 → va_K D vwCl [(dA t, eTyA t)] s := fun t ht => ⟨hK.1, fun k q hq => by
    match k, hq with
    | 0, hq => cases hq; exact hAr t ht
    | k + 1, hq => simp at hq⟩
  have hP1 : ∀ {k : Nat} {o : va_E}, h.2[k]? = some o → va_P D vwCl [(base + k, eZ dA base b0 o)] H := fun {k o} hk j q hq => by
    match j, hq with
    | 0, hq => cases hq; exact hR.1 k o hk
    | j + 1, hq => simp at hq
  have hstep : mI st (fun x r => K0 n ls (.int (-x) :: r) h kc ks) := hstep
  have hd : decode (mBy M) pc = .ok (.ineg, 1) := hd
  have hn : n = pc + 1 := hn
  subst hn
  obtain ⟨x, r, rfl, hk⟩ := mI_s hstep
  exact lv_ineg hx hb hd (hK0 _ _ _ _ _ _ hk H locs lsA hR hSS hl)
set_option maxHeartbeats 4000000 in
set_option maxRecDepth 100000 in
theorem ei_i2l (cx : eCx p l e R s m args below meth c0 D dA base b0 S T C M d Q Fin K0)  {n a b c pc : Nat} {ls : eL} {st : List Value} {h : eH} {kc ks : Nat} {H : Heap} {locs : List Loc} {lsA : Array Slot} (hd : decode (mBy M) pc = .ok (.i2l, eLen pc .i2l n)) (hn : n = pc + eLen pc .i2l n) (hi : eIns M pc .i2l a b c = true) (hlk : eLink T M (pc, .i2l, n, a, b, c)) (hR : eRH D dA base b0 h H) (hSS : va_S (fun q => base ≤ q) s.heap H locs) (hl : lv_has lsA (mLo M) (eLs base b0 ls)) (hstep : okI S T C M d Q .i2l n a b c pc ls st h kc ks K0) : W p l e R s m args below meth c0 H locs kc ks Fin (F0 m pc lsA (st.map (eV base b0))) := by
  have cx0 := cx
  obtain ⟨hK0, hx, hb, hml, hown, hG, hE, hOK, hCl, hCa, hinit, hRf, hRl, hd1, hRc, hRs, htab, hC, hdC, hfin, hout, hthr⟩ := cx0
  have hOK0 := hOK
  obtain ⟨hOKc, hOKl, hOKh⟩ := hOK0
  have hE0 := hE
  obtain ⟨hNG, hStr, hZ1, hZ2, hAO, hK, hAr, hX, hbb, hbs, hNc⟩ := hE0
  have hA : ∀ q : Nat, s.heap.size ≤ q → base ≤ q := va_SA hbs
  have hts : ∀ w ∈ lw_tbl.filter goodWord, w.before args s = true := fun w hw => hG w ⟨(List.mem_filter.mp hw).1, (List.mem_filter.mp hw).2⟩
  have hKy : ∀ t, t ≤ 4 → va_K D vwCl [(dA t, eTyA t)] s := fun t ht => ⟨hK.1, fun k q hq => by
    match k, hq with
    | 0, hq => cases hq; exact hAr t ht
    | k + 1, hq => simp at hq⟩
  have hP1 : ∀ {k : Nat} {o : va_E}, h.2[k]? = some o → va_P D vwCl [(base + k, eZ dA base b0 o)] H := fun {k o} hk j q hq => by
    match j, hq with
    | 0, hq => cases hq; exact hR.1 k o hk
    | j + 1, hq => simp at hq
  have hstep : mI st (fun x r => K0 n ls (.long x.toInt64 :: r) h kc ks) := hstep
  have hd : decode (mBy M) pc = .ok (.i2l, 1) := hd
  have hn : n = pc + 1 := hn
  subst hn
  obtain ⟨x, r, rfl, hk⟩ := mI_s hstep
  exact lv_i2l hx hb hd rfl (hK0 _ _ _ _ _ _ hk H locs lsA hR hSS hl)
set_option maxHeartbeats 4000000 in
set_option maxRecDepth 100000 in
theorem ei_i2f (cx : eCx p l e R s m args below meth c0 D dA base b0 S T C M d Q Fin K0)  {n a b c pc : Nat} {ls : eL} {st : List Value} {h : eH} {kc ks : Nat} {H : Heap} {locs : List Loc} {lsA : Array Slot} (hd : decode (mBy M) pc = .ok (.i2f, eLen pc .i2f n)) (hn : n = pc + eLen pc .i2f n) (hi : eIns M pc .i2f a b c = true) (hlk : eLink T M (pc, .i2f, n, a, b, c)) (hR : eRH D dA base b0 h H) (hSS : va_S (fun q => base ≤ q) s.heap H locs) (hl : lv_has lsA (mLo M) (eLs base b0 ls)) (hstep : okI S T C M d Q .i2f n a b c pc ls st h kc ks K0) : W p l e R s m args below meth c0 H locs kc ks Fin (F0 m pc lsA (st.map (eV base b0))) := by
  have cx0 := cx
  obtain ⟨hK0, hx, hb, hml, hown, hG, hE, hOK, hCl, hCa, hinit, hRf, hRl, hd1, hRc, hRs, htab, hC, hdC, hfin, hout, hthr⟩ := cx0
  have hOK0 := hOK
  obtain ⟨hOKc, hOKl, hOKh⟩ := hOK0
  have hE0 := hE
  obtain ⟨hNG, hStr, hZ1, hZ2, hAO, hK, hAr, hX, hbb, hbs, hNc⟩ := hE0
  have hA : ∀ q : Nat, s.heap.size ≤ q → base ≤ q := va_SA hbs
  have hts : ∀ w ∈ lw_tbl.filter goodWord, w.before args s = true := fun w hw => hG w ⟨(List.mem_filter.mp hw).1, (List.mem_filter.mp hw).2⟩
  have hKy : ∀ t, t ≤ 4 → va_K D vwCl [(dA t, eTyA t)] s := fun t ht => ⟨hK.1, fun k q hq => by
    match k, hq with
    | 0, hq => cases hq; exact hAr t ht
    | k + 1, hq => simp at hq⟩
  have hP1 : ∀ {k : Nat} {o : va_E}, h.2[k]? = some o → va_P D vwCl [(base + k, eZ dA base b0 o)] H := fun {k o} hk j q hq => by
    match j, hq with
    | 0, hq => cases hq; exact hR.1 k o hk
    | j + 1, hq => simp at hq
  have hstep : mI st (fun x r => K0 n ls (.float (FP.i2f x) :: r) h kc ks) := hstep
  have hd : decode (mBy M) pc = .ok (.i2f, 1) := hd
  have hn : n = pc + 1 := hn
  subst hn
  obtain ⟨x, r, rfl, hk⟩ := mI_s hstep
  exact lv_i2f hx hb hd (hK0 _ _ _ _ _ _ hk H locs lsA hR hSS hl)
set_option maxHeartbeats 4000000 in
set_option maxRecDepth 100000 in
theorem ei_i2d (cx : eCx p l e R s m args below meth c0 D dA base b0 S T C M d Q Fin K0)  {n a b c pc : Nat} {ls : eL} {st : List Value} {h : eH} {kc ks : Nat} {H : Heap} {locs : List Loc} {lsA : Array Slot} (hd : decode (mBy M) pc = .ok (.i2d, eLen pc .i2d n)) (hn : n = pc + eLen pc .i2d n) (hi : eIns M pc .i2d a b c = true) (hlk : eLink T M (pc, .i2d, n, a, b, c)) (hR : eRH D dA base b0 h H) (hSS : va_S (fun q => base ≤ q) s.heap H locs) (hl : lv_has lsA (mLo M) (eLs base b0 ls)) (hstep : okI S T C M d Q .i2d n a b c pc ls st h kc ks K0) : W p l e R s m args below meth c0 H locs kc ks Fin (F0 m pc lsA (st.map (eV base b0))) := by
  have cx0 := cx
  obtain ⟨hK0, hx, hb, hml, hown, hG, hE, hOK, hCl, hCa, hinit, hRf, hRl, hd1, hRc, hRs, htab, hC, hdC, hfin, hout, hthr⟩ := cx0
  have hOK0 := hOK
  obtain ⟨hOKc, hOKl, hOKh⟩ := hOK0
  have hE0 := hE
  obtain ⟨hNG, hStr, hZ1, hZ2, hAO, hK, hAr, hX, hbb, hbs, hNc⟩ := hE0
  have hA : ∀ q : Nat, s.heap.size ≤ q → base ≤ q := va_SA hbs
  have hts : ∀ w ∈ lw_tbl.filter goodWord, w.before args s = true := fun w hw => hG w ⟨(List.mem_filter.mp hw).1, (List.mem_filter.mp hw).2⟩
  have hKy : ∀ t, t ≤ 4 → va_K D vwCl [(dA t, eTyA t)] s := fun t ht => ⟨hK.1, fun k q hq => by
    match k, hq with
    | 0, hq => cases hq; exact hAr t ht
    | k + 1, hq => simp at hq⟩
  have hP1 : ∀ {k : Nat} {o : va_E}, h.2[k]? = some o → va_P D vwCl [(base + k, eZ dA base b0 o)] H := fun {k o} hk j q hq => by
    match j, hq with
    | 0, hq => cases hq; exact hR.1 k o hk
    | j + 1, hq => simp at hq
  have hstep : mI st (fun x r => K0 n ls (.double (FP.i2d x) :: r) h kc ks) := hstep
  have hd : decode (mBy M) pc = .ok (.i2d, 1) := hd
  have hn : n = pc + 1 := hn
  subst hn
  obtain ⟨x, r, rfl, hk⟩ := mI_s hstep
  exact lv_i2d hx hb hd (hK0 _ _ _ _ _ _ hk H locs lsA hR hSS hl)
set_option maxHeartbeats 4000000 in
set_option maxRecDepth 100000 in
theorem ei_l2i (cx : eCx p l e R s m args below meth c0 D dA base b0 S T C M d Q Fin K0)  {n a b c pc : Nat} {ls : eL} {st : List Value} {h : eH} {kc ks : Nat} {H : Heap} {locs : List Loc} {lsA : Array Slot} (hd : decode (mBy M) pc = .ok (.l2i, eLen pc .l2i n)) (hn : n = pc + eLen pc .l2i n) (hi : eIns M pc .l2i a b c = true) (hlk : eLink T M (pc, .l2i, n, a, b, c)) (hR : eRH D dA base b0 h H) (hSS : va_S (fun q => base ≤ q) s.heap H locs) (hl : lv_has lsA (mLo M) (eLs base b0 ls)) (hstep : okI S T C M d Q .l2i n a b c pc ls st h kc ks K0) : W p l e R s m args below meth c0 H locs kc ks Fin (F0 m pc lsA (st.map (eV base b0))) := by
  have cx0 := cx
  obtain ⟨hK0, hx, hb, hml, hown, hG, hE, hOK, hCl, hCa, hinit, hRf, hRl, hd1, hRc, hRs, htab, hC, hdC, hfin, hout, hthr⟩ := cx0
  have hOK0 := hOK
  obtain ⟨hOKc, hOKl, hOKh⟩ := hOK0
  have hE0 := hE
  obtain ⟨hNG, hStr, hZ1, hZ2, hAO, hK, hAr, hX, hbb, hbs, hNc⟩ := hE0
  have hA : ∀ q : Nat, s.heap.size ≤ q → base ≤ q := va_SA hbs
  have hts : ∀ w ∈ lw_tbl.filter goodWord, w.before args s = true := fun w hw => hG w ⟨(List.mem_filter.mp hw).1, (List.mem_filter.mp hw).2⟩
  have hKy : ∀ t, t ≤ 4 → va_K D vwCl [(dA t, eTyA t)] s := fun t ht => ⟨hK.1, fun k q hq => by
    match k, hq with
    | 0, hq => cases hq; exact hAr t ht
    | k + 1, hq => simp at hq⟩
  have hP1 : ∀ {k : Nat} {o : va_E}, h.2[k]? = some o → va_P D vwCl [(base + k, eZ dA base b0 o)] H := fun {k o} hk j q hq => by
    match j, hq with
    | 0, hq => cases hq; exact hR.1 k o hk
    | j + 1, hq => simp at hq
  have hstep : mJ st (fun x r => K0 n ls (.int x.toInt32 :: r) h kc ks) := hstep
  have hd : decode (mBy M) pc = .ok (.l2i, 1) := hd
  have hn : n = pc + 1 := hn
  subst hn
  obtain ⟨x, r, rfl, hk⟩ := mJ_s hstep
  exact lv_l2i hx hb hd rfl (hK0 _ _ _ _ _ _ hk H locs lsA hR hSS hl)
set_option maxHeartbeats 4000000 in
set_option maxRecDepth 100000 in
theorem ei_ladd (cx : eCx p l e R s m args below meth c0 D dA base b0 S T C M d Q Fin K0)  {n a b c pc : Nat} {ls : eL} {st : List Value} {h : eH} {kc ks : Nat} {H : Heap} {locs : List Loc} {lsA : Array Slot} (hd : decode (mBy M) pc = .ok (.ladd, eLen pc .ladd n)) (hn : n = pc + eLen pc .ladd n) (hi : eIns M pc .ladd a b c = true) (hlk : eLink T M (pc, .ladd, n, a, b, c)) (hR : eRH D dA base b0 h H) (hSS : va_S (fun q => base ≤ q) s.heap H locs) (hl : lv_has lsA (mLo M) (eLs base b0 ls)) (hstep : okI S T C M d Q .ladd n a b c pc ls st h kc ks K0) : W p l e R s m args below meth c0 H locs kc ks Fin (F0 m pc lsA (st.map (eV base b0))) := by
  have cx0 := cx
  obtain ⟨hK0, hx, hb, hml, hown, hG, hE, hOK, hCl, hCa, hinit, hRf, hRl, hd1, hRc, hRs, htab, hC, hdC, hfin, hout, hthr⟩ := cx0
  have hOK0 := hOK
  obtain ⟨hOKc, hOKl, hOKh⟩ := hOK0
  have hE0 := hE
  obtain ⟨hNG, hStr, hZ1, hZ2, hAO, hK, hAr, hX, hbb, hbs, hNc⟩ := hE0
  have hA : ∀ q : Nat, s.heap.size ≤ q → base ≤ q := va_SA hbs
  have hts : ∀ w ∈ lw_tbl.filter goodWord, w.before args s = true := fun w hw => hG w ⟨(List.mem_filter.mp hw).1, (List.mem_filter.mp hw).2⟩
  have hKy : ∀ t, t ≤ 4 → va_K D vwCl [(dA t, eTyA t)] s := fun t ht => ⟨hK.1, fun k q hq => by
    match k, hq with
    | 0, hq => cases hq; exact hAr t ht
    | k + 1, hq => simp at hq⟩
  have hP1 : ∀ {k : Nat} {o : va_E}, h.2[k]? = some o → va_P D vwCl [(base + k, eZ dA base b0 o)] H := fun {k o} hk j q hq => by
    match j, hq with
    | 0, hq => cases hq; exact hR.1 k o hk
    | j + 1, hq => simp at hq
  have hstep : mJ st (fun y r => mJ r (fun x r => K0 n ls (.long (x + y) :: r) h kc ks)) := hstep
  have hd : decode (mBy M) pc = .ok (.ladd, 1) := hd
  have hn : n = pc + 1 := hn
  subst hn
  obtain ⟨y, r1, rfl, hs1⟩ := mJ_s hstep
  obtain ⟨x, r, rfl, hk⟩ := mJ_s hs1
  exact lv_ladd hx hb hd (hK0 _ _ _ _ _ _ hk H locs lsA hR hSS hl)
set_option maxHeartbeats 4000000 in
set_option maxRecDepth 100000 in
theorem ei_lsub (cx : eCx p l e R s m args below meth c0 D dA base b0 S T C M d Q Fin K0)  {n a b c pc : Nat} {ls : eL} {st : List Value} {h : eH} {kc ks : Nat} {H : Heap} {locs : List Loc} {lsA : Array Slot} (hd : decode (mBy M) pc = .ok (.lsub, eLen pc .lsub n)) (hn : n = pc + eLen pc .lsub n) (hi : eIns M pc .lsub a b c = true) (hlk : eLink T M (pc, .lsub, n, a, b, c)) (hR : eRH D dA base b0 h H) (hSS : va_S (fun q => base ≤ q) s.heap H locs) (hl : lv_has lsA (mLo M) (eLs base b0 ls)) (hstep : okI S T C M d Q .lsub n a b c pc ls st h kc ks K0) : W p l e R s m args below meth c0 H locs kc ks Fin (F0 m pc lsA (st.map (eV base b0))) := by
  have cx0 := cx
  obtain ⟨hK0, hx, hb, hml, hown, hG, hE, hOK, hCl, hCa, hinit, hRf, hRl, hd1, hRc, hRs, htab, hC, hdC, hfin, hout, hthr⟩ := cx0
  have hOK0 := hOK
  obtain ⟨hOKc, hOKl, hOKh⟩ := hOK0
  have hE0 := hE
  obtain ⟨hNG, hStr, hZ1, hZ2, hAO, hK, hAr, hX, hbb, hbs, hNc⟩ := hE0
  have hA : ∀ q : Nat, s.heap.size ≤ q → base ≤ q := va_SA hbs
  have hts : ∀ w ∈ lw_tbl.filter goodWord, w.before args s = true := fun w hw => hG w ⟨(List.mem_filter.mp hw).1, (List.mem_filter.mp hw).2⟩
  have hKy : ∀ t, t ≤ 4 → va_K D vwCl [(dA t, eTyA t)] s := fun t ht => ⟨hK.1, fun k q hq => by
    match k, hq with
    | 0, hq => cases hq; exact hAr t ht
    | k + 1, hq => simp at hq⟩
  have hP1 : ∀ {k : Nat} {o : va_E}, h.2[k]? = some o → va_P D vwCl [(base + k, eZ dA base b0 o)] H := fun {k o} hk j q hq => by
    match j, hq with
    | 0, hq => cases hq; exact hR.1 k o hk
    | j + 1, hq => simp at hq
  have hstep : mJ st (fun y r => mJ r (fun x r => K0 n ls (.long (x - y) :: r) h kc ks)) := hstep
  have hd : decode (mBy M) pc = .ok (.lsub, 1) := hd
  have hn : n = pc + 1 := hn
  subst hn
  obtain ⟨y, r1, rfl, hs1⟩ := mJ_s hstep
  obtain ⟨x, r, rfl, hk⟩ := mJ_s hs1
  exact lv_lsub hx hb hd (hK0 _ _ _ _ _ _ hk H locs lsA hR hSS hl)
set_option maxHeartbeats 4000000 in
set_option maxRecDepth 100000 in
theorem ei_lmul (cx : eCx p l e R s m args below meth c0 D dA base b0 S T C M d Q Fin K0)  {n a b c pc : Nat} {ls : eL} {st : List Value} {h : eH} {kc ks : Nat} {H : Heap} {locs : List Loc} {lsA : Array Slot} (hd : decode (mBy M) pc = .ok (.lmul, eLen pc .lmul n)) (hn : n = pc + eLen pc .lmul n) (hi : eIns M pc .lmul a b c = true) (hlk : eLink T M (pc, .lmul, n, a, b, c)) (hR : eRH D dA base b0 h H) (hSS : va_S (fun q => base ≤ q) s.heap H locs) (hl : lv_has lsA (mLo M) (eLs base b0 ls)) (hstep : okI S T C M d Q .lmul n a b c pc ls st h kc ks K0) : W p l e R s m args below meth c0 H locs kc ks Fin (F0 m pc lsA (st.map (eV base b0))) := by
  have cx0 := cx
  obtain ⟨hK0, hx, hb, hml, hown, hG, hE, hOK, hCl, hCa, hinit, hRf, hRl, hd1, hRc, hRs, htab, hC, hdC, hfin, hout, hthr⟩ := cx0
  have hOK0 := hOK
  obtain ⟨hOKc, hOKl, hOKh⟩ := hOK0
  have hE0 := hE
  obtain ⟨hNG, hStr, hZ1, hZ2, hAO, hK, hAr, hX, hbb, hbs, hNc⟩ := hE0
  have hA : ∀ q : Nat, s.heap.size ≤ q → base ≤ q := va_SA hbs
  have hts : ∀ w ∈ lw_tbl.filter goodWord, w.before args s = true := fun w hw => hG w ⟨(List.mem_filter.mp hw).1, (List.mem_filter.mp hw).2⟩
  have hKy : ∀ t, t ≤ 4 → va_K D vwCl [(dA t, eTyA t)] s := fun t ht => ⟨hK.1, fun k q hq => by
    match k, hq with
    | 0, hq => cases hq; exact hAr t ht
    | k + 1, hq => simp at hq⟩
  have hP1 : ∀ {k : Nat} {o : va_E}, h.2[k]? = some o → va_P D vwCl [(base + k, eZ dA base b0 o)] H := fun {k o} hk j q hq => by
    match j, hq with
    | 0, hq => cases hq; exact hR.1 k o hk
    | j + 1, hq => simp at hq
  have hstep : mJ st (fun y r => mJ r (fun x r => K0 n ls (.long (x * y) :: r) h kc ks)) := hstep
  have hd : decode (mBy M) pc = .ok (.lmul, 1) := hd
  have hn : n = pc + 1 := hn
  subst hn
  obtain ⟨y, r1, rfl, hs1⟩ := mJ_s hstep
  obtain ⟨x, r, rfl, hk⟩ := mJ_s hs1
  exact lv_lmul hx hb hd (hK0 _ _ _ _ _ _ hk H locs lsA hR hSS hl)
set_option maxHeartbeats 4000000 in
set_option maxRecDepth 100000 in
theorem ei_land (cx : eCx p l e R s m args below meth c0 D dA base b0 S T C M d Q Fin K0)  {n a b c pc : Nat} {ls : eL} {st : List Value} {h : eH} {kc ks : Nat} {H : Heap} {locs : List Loc} {lsA : Array Slot} (hd : decode (mBy M) pc = .ok (.land, eLen pc .land n)) (hn : n = pc + eLen pc .land n) (hi : eIns M pc .land a b c = true) (hlk : eLink T M (pc, .land, n, a, b, c)) (hR : eRH D dA base b0 h H) (hSS : va_S (fun q => base ≤ q) s.heap H locs) (hl : lv_has lsA (mLo M) (eLs base b0 ls)) (hstep : okI S T C M d Q .land n a b c pc ls st h kc ks K0) : W p l e R s m args below meth c0 H locs kc ks Fin (F0 m pc lsA (st.map (eV base b0))) := by
  have cx0 := cx
  obtain ⟨hK0, hx, hb, hml, hown, hG, hE, hOK, hCl, hCa, hinit, hRf, hRl, hd1, hRc, hRs, htab, hC, hdC, hfin, hout, hthr⟩ := cx0
  have hOK0 := hOK
  obtain ⟨hOKc, hOKl, hOKh⟩ := hOK0
  have hE0 := hE
  obtain ⟨hNG, hStr, hZ1, hZ2, hAO, hK, hAr, hX, hbb, hbs, hNc⟩ := hE0
  have hA : ∀ q : Nat, s.heap.size ≤ q → base ≤ q := va_SA hbs
  have hts : ∀ w ∈ lw_tbl.filter goodWord, w.before args s = true := fun w hw => hG w ⟨(List.mem_filter.mp hw).1, (List.mem_filter.mp hw).2⟩
  have hKy : ∀ t, t ≤ 4 → va_K D vwCl [(dA t, eTyA t)] s := fun t ht => ⟨hK.1, fun k q hq => by
    match k, hq with
    | 0, hq => cases hq; exact hAr t ht
    | k + 1, hq => simp at hq⟩
  have hP1 : ∀ {k : Nat} {o : va_E}, h.2[k]? = some o → va_P D vwCl [(base + k, eZ dA base b0 o)] H := fun {k o} hk j q hq => by
    match j, hq with
    | 0, hq => cases hq; exact hR.1 k o hk
    | j + 1, hq => simp at hq
  have hstep : mJ st (fun y r => mJ r (fun x r => K0 n ls (.long (x &&& y) :: r) h kc ks)) := hstep
  have hd : decode (mBy M) pc = .ok (.land, 1) := hd
  have hn : n = pc + 1 := hn
  subst hn
  obtain ⟨y, r1, rfl, hs1⟩ := mJ_s hstep
  obtain ⟨x, r, rfl, hk⟩ := mJ_s hs1
  exact lv_land hx hb hd (hK0 _ _ _ _ _ _ hk H locs lsA hR hSS hl)
set_option maxHeartbeats 4000000 in
set_option maxRecDepth 100000 in
theorem ei_lor (cx : eCx p l e R s m args below meth c0 D dA base b0 S T C M d Q Fin K0)  {n a b c pc : Nat} {ls : eL} {st : List Value} {h : eH} {kc ks : Nat} {H : Heap} {locs : List Loc} {lsA : Array Slot} (hd : decode (mBy M) pc = .ok (.lor, eLen pc .lor n)) (hn : n = pc + eLen pc .lor n) (hi : eIns M pc .lor a b c = true) (hlk : eLink T M (pc, .lor, n, a, b, c)) (hR : eRH D dA base b0 h H) (hSS : va_S (fun q => base ≤ q) s.heap H locs) (hl : lv_has lsA (mLo M) (eLs base b0 ls)) (hstep : okI S T C M d Q .lor n a b c pc ls st h kc ks K0) : W p l e R s m args below meth c0 H locs kc ks Fin (F0 m pc lsA (st.map (eV base b0))) := by
  have cx0 := cx
  obtain ⟨hK0, hx, hb, hml, hown, hG, hE, hOK, hCl, hCa, hinit, hRf, hRl, hd1, hRc, hRs, htab, hC, hdC, hfin, hout, hthr⟩ := cx0
  have hOK0 := hOK
  obtain ⟨hOKc, hOKl, hOKh⟩ := hOK0
  have hE0 := hE
  obtain ⟨hNG, hStr, hZ1, hZ2, hAO, hK, hAr, hX, hbb, hbs, hNc⟩ := hE0
  have hA : ∀ q : Nat, s.heap.size ≤ q → base ≤ q := va_SA hbs
  have hts : ∀ w ∈ lw_tbl.filter goodWord, w.before args s = true := fun w hw => hG w ⟨(List.mem_filter.mp hw).1, (List.mem_filter.mp hw).2⟩
  have hKy : ∀ t, t ≤ 4 → va_K D vwCl [(dA t, eTyA t)] s := fun t ht => ⟨hK.1, fun k q hq => by
    match k, hq with
    | 0, hq => cases hq; exact hAr t ht
    | k + 1, hq => simp at hq⟩
  have hP1 : ∀ {k : Nat} {o : va_E}, h.2[k]? = some o → va_P D vwCl [(base + k, eZ dA base b0 o)] H := fun {k o} hk j q hq => by
    match j, hq with
    | 0, hq => cases hq; exact hR.1 k o hk
    | j + 1, hq => simp at hq
  have hstep : mJ st (fun y r => mJ r (fun x r => K0 n ls (.long (x ||| y) :: r) h kc ks)) := hstep
  have hd : decode (mBy M) pc = .ok (.lor, 1) := hd
  have hn : n = pc + 1 := hn
  subst hn
  obtain ⟨y, r1, rfl, hs1⟩ := mJ_s hstep
  obtain ⟨x, r, rfl, hk⟩ := mJ_s hs1
  exact lv_lor hx hb hd (hK0 _ _ _ _ _ _ hk H locs lsA hR hSS hl)
set_option maxHeartbeats 4000000 in
set_option maxRecDepth 100000 in
theorem ei_lxor (cx : eCx p l e R s m args below meth c0 D dA base b0 S T C M d Q Fin K0)  {n a b c pc : Nat} {ls : eL} {st : List Value} {h : eH} {kc ks : Nat} {H : Heap} {locs : List Loc} {lsA : Array Slot} (hd : decode (mBy M) pc = .ok (.lxor, eLen pc .lxor n)) (hn : n = pc + eLen pc .lxor n) (hi : eIns M pc .lxor a b c = true) (hlk : eLink T M (pc, .lxor, n, a, b, c)) (hR : eRH D dA base b0 h H) (hSS : va_S (fun q => base ≤ q) s.heap H locs) (hl : lv_has lsA (mLo M) (eLs base b0 ls)) (hstep : okI S T C M d Q .lxor n a b c pc ls st h kc ks K0) : W p l e R s m args below meth c0 H locs kc ks Fin (F0 m pc lsA (st.map (eV base b0))) := by
  have cx0 := cx
  obtain ⟨hK0, hx, hb, hml, hown, hG, hE, hOK, hCl, hCa, hinit, hRf, hRl, hd1, hRc, hRs, htab, hC, hdC, hfin, hout, hthr⟩ := cx0
  have hOK0 := hOK
  obtain ⟨hOKc, hOKl, hOKh⟩ := hOK0
  have hE0 := hE
  obtain ⟨hNG, hStr, hZ1, hZ2, hAO, hK, hAr, hX, hbb, hbs, hNc⟩ := hE0
  have hA : ∀ q : Nat, s.heap.size ≤ q → base ≤ q := va_SA hbs
  have hts : ∀ w ∈ lw_tbl.filter goodWord, w.before args s = true := fun w hw => hG w ⟨(List.mem_filter.mp hw).1, (List.mem_filter.mp hw).2⟩
  have hKy : ∀ t, t ≤ 4 → va_K D vwCl [(dA t, eTyA t)] s := fun t ht => ⟨hK.1, fun k q hq => by
    match k, hq with
    | 0, hq => cases hq; exact hAr t ht
    | k + 1, hq => simp at hq⟩
  have hP1 : ∀ {k : Nat} {o : va_E}, h.2[k]? = some o → va_P D vwCl [(base + k, eZ dA base b0 o)] H := fun {k o} hk j q hq => by
    match j, hq with
    | 0, hq => cases hq; exact hR.1 k o hk
    | j + 1, hq => simp at hq
  have hstep : mJ st (fun y r => mJ r (fun x r => K0 n ls (.long (x ^^^ y) :: r) h kc ks)) := hstep
  have hd : decode (mBy M) pc = .ok (.lxor, 1) := hd
  have hn : n = pc + 1 := hn
  subst hn
  obtain ⟨y, r1, rfl, hs1⟩ := mJ_s hstep
  obtain ⟨x, r, rfl, hk⟩ := mJ_s hs1
  exact lv_lxor hx hb hd (hK0 _ _ _ _ _ _ hk H locs lsA hR hSS hl)
set_option maxHeartbeats 4000000 in
set_option maxRecDepth 100000 in
theorem ei_lcmp (cx : eCx p l e R s m args below meth c0 D dA base b0 S T C M d Q Fin K0)  {n a b c pc : Nat} {ls : eL} {st : List Value} {h : eH} {kc ks : Nat} {H : Heap} {locs : List Loc} {lsA : Array Slot} (hd : decode (mBy M) pc = .ok (.lcmp, eLen pc .lcmp n)) (hn : n = pc + eLen pc .lcmp n) (hi : eIns M pc .lcmp a b c = true) (hlk : eLink T M (pc, .lcmp, n, a, b, c)) (hR : eRH D dA base b0 h H) (hSS : va_S (fun q => base ≤ q) s.heap H locs) (hl : lv_has lsA (mLo M) (eLs base b0 ls)) (hstep : okI S T C M d Q .lcmp n a b c pc ls st h kc ks K0) : W p l e R s m args below meth c0 H locs kc ks Fin (F0 m pc lsA (st.map (eV base b0))) := by
  have cx0 := cx
  obtain ⟨hK0, hx, hb, hml, hown, hG, hE, hOK, hCl, hCa, hinit, hRf, hRl, hd1, hRc, hRs, htab, hC, hdC, hfin, hout, hthr⟩ := cx0
  have hOK0 := hOK
  obtain ⟨hOKc, hOKl, hOKh⟩ := hOK0
  have hE0 := hE
  obtain ⟨hNG, hStr, hZ1, hZ2, hAO, hK, hAr, hX, hbb, hbs, hNc⟩ := hE0
  have hA : ∀ q : Nat, s.heap.size ≤ q → base ≤ q := va_SA hbs
  have hts : ∀ w ∈ lw_tbl.filter goodWord, w.before args s = true := fun w hw => hG w ⟨(List.mem_filter.mp hw).1, (List.mem_filter.mp hw).2⟩
  have hKy : ∀ t, t ≤ 4 → va_K D vwCl [(dA t, eTyA t)] s := fun t ht => ⟨hK.1, fun k q hq => by
    match k, hq with
    | 0, hq => cases hq; exact hAr t ht
    | k + 1, hq => simp at hq⟩
  have hP1 : ∀ {k : Nat} {o : va_E}, h.2[k]? = some o → va_P D vwCl [(base + k, eZ dA base b0 o)] H := fun {k o} hk j q hq => by
    match j, hq with
    | 0, hq => cases hq; exact hR.1 k o hk
    | j + 1, hq => simp at hq
  have hstep : mJ st (fun y r => mJ r (fun x r => K0 n ls (.int (lg_cmp x y) :: r) h kc ks)) := hstep
  have hd : decode (mBy M) pc = .ok (.lcmp, 1) := hd
  have hn : n = pc + 1 := hn
  subst hn
  obtain ⟨y, r1, rfl, hs1⟩ := mJ_s hstep
  obtain ⟨x, r, rfl, hk⟩ := mJ_s hs1
  exact W.lcmp hx hb hd (hK0 _ _ _ _ _ _ hk H locs lsA hR hSS hl)
set_option maxHeartbeats 4000000 in
set_option maxRecDepth 100000 in
theorem ei_lshl (cx : eCx p l e R s m args below meth c0 D dA base b0 S T C M d Q Fin K0)  {n a b c pc : Nat} {ls : eL} {st : List Value} {h : eH} {kc ks : Nat} {H : Heap} {locs : List Loc} {lsA : Array Slot} (hd : decode (mBy M) pc = .ok (.lshl, eLen pc .lshl n)) (hn : n = pc + eLen pc .lshl n) (hi : eIns M pc .lshl a b c = true) (hlk : eLink T M (pc, .lshl, n, a, b, c)) (hR : eRH D dA base b0 h H) (hSS : va_S (fun q => base ≤ q) s.heap H locs) (hl : lv_has lsA (mLo M) (eLs base b0 ls)) (hstep : okI S T C M d Q .lshl n a b c pc ls st h kc ks K0) : W p l e R s m args below meth c0 H locs kc ks Fin (F0 m pc lsA (st.map (eV base b0))) := by
  have cx0 := cx
  obtain ⟨hK0, hx, hb, hml, hown, hG, hE, hOK, hCl, hCa, hinit, hRf, hRl, hd1, hRc, hRs, htab, hC, hdC, hfin, hout, hthr⟩ := cx0
  have hOK0 := hOK
  obtain ⟨hOKc, hOKl, hOKh⟩ := hOK0
  have hE0 := hE
  obtain ⟨hNG, hStr, hZ1, hZ2, hAO, hK, hAr, hX, hbb, hbs, hNc⟩ := hE0
  have hA : ∀ q : Nat, s.heap.size ≤ q → base ≤ q := va_SA hbs
  have hts : ∀ w ∈ lw_tbl.filter goodWord, w.before args s = true := fun w hw => hG w ⟨(List.mem_filter.mp hw).1, (List.mem_filter.mp hw).2⟩
  have hKy : ∀ t, t ≤ 4 → va_K D vwCl [(dA t, eTyA t)] s := fun t ht => ⟨hK.1, fun k q hq => by
    match k, hq with
    | 0, hq => cases hq; exact hAr t ht
    | k + 1, hq => simp at hq⟩
  have hP1 : ∀ {k : Nat} {o : va_E}, h.2[k]? = some o → va_P D vwCl [(base + k, eZ dA base b0 o)] H := fun {k o} hk j q hq => by
    match j, hq with
    | 0, hq => cases hq; exact hR.1 k o hk
    | j + 1, hq => simp at hq
  have hstep : mI st (fun y r => mJ r (fun x r => K0 n ls (.long (x <<< (y.toInt64 &&& 63)) :: r) h kc ks)) := hstep
  have hd : decode (mBy M) pc = .ok (.lshl, 1) := hd
  have hn : n = pc + 1 := hn
  subst hn
  obtain ⟨y, r1, rfl, hs1⟩ := mI_s hstep
  obtain ⟨x, r, rfl, hk⟩ := mJ_s hs1
  exact lv_lshl hx hb hd rfl (hK0 _ _ _ _ _ _ hk H locs lsA hR hSS hl)
set_option maxHeartbeats 4000000 in
set_option maxRecDepth 100000 in
theorem ei_lushr (cx : eCx p l e R s m args below meth c0 D dA base b0 S T C M d Q Fin K0)  {n a b c pc : Nat} {ls : eL} {st : List Value} {h : eH} {kc ks : Nat} {H : Heap} {locs : List Loc} {lsA : Array Slot} (hd : decode (mBy M) pc = .ok (.lushr, eLen pc .lushr n)) (hn : n = pc + eLen pc .lushr n) (hi : eIns M pc .lushr a b c = true) (hlk : eLink T M (pc, .lushr, n, a, b, c)) (hR : eRH D dA base b0 h H) (hSS : va_S (fun q => base ≤ q) s.heap H locs) (hl : lv_has lsA (mLo M) (eLs base b0 ls)) (hstep : okI S T C M d Q .lushr n a b c pc ls st h kc ks K0) : W p l e R s m args below meth c0 H locs kc ks Fin (F0 m pc lsA (st.map (eV base b0))) := by
  have cx0 := cx
  obtain ⟨hK0, hx, hb, hml, hown, hG, hE, hOK, hCl, hCa, hinit, hRf, hRl, hd1, hRc, hRs, htab, hC, hdC, hfin, hout, hthr⟩ := cx0
  have hOK0 := hOK
  obtain ⟨hOKc, hOKl, hOKh⟩ := hOK0
  have hE0 := hE
  obtain ⟨hNG, hStr, hZ1, hZ2, hAO, hK, hAr, hX, hbb, hbs, hNc⟩ := hE0
  have hA : ∀ q : Nat, s.heap.size ≤ q → base ≤ q := va_SA hbs
  have hts : ∀ w ∈ lw_tbl.filter goodWord, w.before args s = true := fun w hw => hG w ⟨(List.mem_filter.mp hw).1, (List.mem_filter.mp hw).2⟩
  have hKy : ∀ t, t ≤ 4 → va_K D vwCl [(dA t, eTyA t)] s := fun t ht => ⟨hK.1, fun k q hq => by
    match k, hq with
    | 0, hq => cases hq; exact hAr t ht
    | k + 1, hq => simp at hq⟩
  have hP1 : ∀ {k : Nat} {o : va_E}, h.2[k]? = some o → va_P D vwCl [(base + k, eZ dA base b0 o)] H := fun {k o} hk j q hq => by
    match j, hq with
    | 0, hq => cases hq; exact hR.1 k o hk
    | j + 1, hq => simp at hq
  have hstep : mI st (fun y r => mJ r (fun x r => K0 n ls (.long ((x.toUInt64 >>> (y.toInt64.toUInt64 &&& Int64.toUInt64 63)).toInt64) :: r) h kc ks)) := hstep
  have hd : decode (mBy M) pc = .ok (.lushr, 1) := hd
  have hn : n = pc + 1 := hn
  subst hn
  obtain ⟨y, r1, rfl, hs1⟩ := mI_s hstep
  obtain ⟨x, r, rfl, hk⟩ := mJ_s hs1
  exact lv_lushr hx hb hd rfl (hK0 _ _ _ _ _ _ hk H locs lsA hR hSS hl)
set_option maxHeartbeats 4000000 in
set_option maxRecDepth 100000 in
theorem ei_fdiv (cx : eCx p l e R s m args below meth c0 D dA base b0 S T C M d Q Fin K0)  {n a b c pc : Nat} {ls : eL} {st : List Value} {h : eH} {kc ks : Nat} {H : Heap} {locs : List Loc} {lsA : Array Slot} (hd : decode (mBy M) pc = .ok (.fdiv, eLen pc .fdiv n)) (hn : n = pc + eLen pc .fdiv n) (hi : eIns M pc .fdiv a b c = true) (hlk : eLink T M (pc, .fdiv, n, a, b, c)) (hR : eRH D dA base b0 h H) (hSS : va_S (fun q => base ≤ q) s.heap H locs) (hl : lv_has lsA (mLo M) (eLs base b0 ls)) (hstep : okI S T C M d Q .fdiv n a b c pc ls st h kc ks K0) : W p l e R s m args below meth c0 H locs kc ks Fin (F0 m pc lsA (st.map (eV base b0))) := by
  have cx0 := cx
  obtain ⟨hK0, hx, hb, hml, hown, hG, hE, hOK, hCl, hCa, hinit, hRf, hRl, hd1, hRc, hRs, htab, hC, hdC, hfin, hout, hthr⟩ := cx0
  have hOK0 := hOK
  obtain ⟨hOKc, hOKl, hOKh⟩ := hOK0
  have hE0 := hE
  obtain ⟨hNG, hStr, hZ1, hZ2, hAO, hK, hAr, hX, hbb, hbs, hNc⟩ := hE0
  have hA : ∀ q : Nat, s.heap.size ≤ q → base ≤ q := va_SA hbs
  have hts : ∀ w ∈ lw_tbl.filter goodWord, w.before args s = true := fun w hw => hG w ⟨(List.mem_filter.mp hw).1, (List.mem_filter.mp hw).2⟩
  have hKy : ∀ t, t ≤ 4 → va_K D vwCl [(dA t, eTyA t)] s := fun t ht => ⟨hK.1, fun k q hq => by
    match k, hq with
    | 0, hq => cases hq; exact hAr t ht
    | k + 1, hq => simp at hq⟩
  have hP1 : ∀ {k : Nat} {o : va_E}, h.2[k]? = some o → va_P D vwCl [(base + k, eZ dA base b0 o)] H := fun {k o} hk j q hq => by
    match j, hq with
    | 0, hq => cases hq; exact hR.1 k o hk
    | j + 1, hq => simp at hq
  have hstep : mF st (fun y r => mF r (fun x r => vf_n32 (FP.fdiv x y) ∧ K0 n ls (.float (FP.fdiv x y) :: r) h kc ks)) := hstep
  have hd : decode (mBy M) pc = .ok (.fdiv, 1) := hd
  have hn : n = pc + 1 := hn
  subst hn
  obtain ⟨y, r, rfl, hs⟩ := mF_s hstep
  obtain ⟨x, r, rfl, h0, hk⟩ := mF_s hs
  exact lv_fdiv hx hb hd h0 (hK0 _ _ _ _ _ _ hk H locs lsA hR hSS hl)
set_option maxHeartbeats 4000000 in
set_option maxRecDepth 100000 in
theorem ei_ddiv (cx : eCx p l e R s m args below meth c0 D dA base b0 S T C M d Q Fin K0)  {n a b c pc : Nat} {ls : eL} {st : List Value} {h : eH} {kc ks : Nat} {H : Heap} {locs : List Loc} {lsA : Array Slot} (hd : decode (mBy M) pc = .ok (.ddiv, eLen pc .ddiv n)) (hn : n = pc + eLen pc .ddiv n) (hi : eIns M pc .ddiv a b c = true) (hlk : eLink T M (pc, .ddiv, n, a, b, c)) (hR : eRH D dA base b0 h H) (hSS : va_S (fun q => base ≤ q) s.heap H locs) (hl : lv_has lsA (mLo M) (eLs base b0 ls)) (hstep : okI S T C M d Q .ddiv n a b c pc ls st h kc ks K0) : W p l e R s m args below meth c0 H locs kc ks Fin (F0 m pc lsA (st.map (eV base b0))) := by
  have cx0 := cx
  obtain ⟨hK0, hx, hb, hml, hown, hG, hE, hOK, hCl, hCa, hinit, hRf, hRl, hd1, hRc, hRs, htab, hC, hdC, hfin, hout, hthr⟩ := cx0
  have hOK0 := hOK
  obtain ⟨hOKc, hOKl, hOKh⟩ := hOK0
  have hE0 := hE
  obtain ⟨hNG, hStr, hZ1, hZ2, hAO, hK, hAr, hX, hbb, hbs, hNc⟩ := hE0
  have hA : ∀ q : Nat, s.heap.size ≤ q → base ≤ q := va_SA hbs
  have hts : ∀ w ∈ lw_tbl.filter goodWord, w.before args s = true := fun w hw => hG w ⟨(List.mem_filter.mp hw).1, (List.mem_filter.mp hw).2⟩
  have hKy : ∀ t, t ≤ 4 → va_K D vwCl [(dA t, eTyA t)] s := fun t ht => ⟨hK.1, fun k q hq => by
    match k, hq with
    | 0, hq => cases hq; exact hAr t ht
    | k + 1, hq => simp at hq⟩
  have hP1 : ∀ {k : Nat} {o : va_E}, h.2[k]? = some o → va_P D vwCl [(base + k, eZ dA base b0 o)] H := fun {k o} hk j q hq => by
    match j, hq with
    | 0, hq => cases hq; exact hR.1 k o hk
    | j + 1, hq => simp at hq
  have hstep : mD st (fun y r => mD r (fun x r => vf_n64 (FP.ddiv x y) ∧ K0 n ls (.double (FP.ddiv x y) :: r) h kc ks)) := hstep
  have hd : decode (mBy M) pc = .ok (.ddiv, 1) := hd
  have hn : n = pc + 1 := hn
  subst hn
  obtain ⟨y, r, rfl, hs⟩ := mD_s hstep
  obtain ⟨x, r, rfl, h0, hk⟩ := mD_s hs
  exact lv_ddiv hx hb hd h0 (hK0 _ _ _ _ _ _ hk H locs lsA hR hSS hl)
set_option maxHeartbeats 4000000 in
set_option maxRecDepth 100000 in
theorem ei_f2d (cx : eCx p l e R s m args below meth c0 D dA base b0 S T C M d Q Fin K0)  {n a b c pc : Nat} {ls : eL} {st : List Value} {h : eH} {kc ks : Nat} {H : Heap} {locs : List Loc} {lsA : Array Slot} (hd : decode (mBy M) pc = .ok (.f2d, eLen pc .f2d n)) (hn : n = pc + eLen pc .f2d n) (hi : eIns M pc .f2d a b c = true) (hlk : eLink T M (pc, .f2d, n, a, b, c)) (hR : eRH D dA base b0 h H) (hSS : va_S (fun q => base ≤ q) s.heap H locs) (hl : lv_has lsA (mLo M) (eLs base b0 ls)) (hstep : okI S T C M d Q .f2d n a b c pc ls st h kc ks K0) : W p l e R s m args below meth c0 H locs kc ks Fin (F0 m pc lsA (st.map (eV base b0))) := by
  have cx0 := cx
  obtain ⟨hK0, hx, hb, hml, hown, hG, hE, hOK, hCl, hCa, hinit, hRf, hRl, hd1, hRc, hRs, htab, hC, hdC, hfin, hout, hthr⟩ := cx0
  have hOK0 := hOK
  obtain ⟨hOKc, hOKl, hOKh⟩ := hOK0
  have hE0 := hE
  obtain ⟨hNG, hStr, hZ1, hZ2, hAO, hK, hAr, hX, hbb, hbs, hNc⟩ := hE0
  have hA : ∀ q : Nat, s.heap.size ≤ q → base ≤ q := va_SA hbs
  have hts : ∀ w ∈ lw_tbl.filter goodWord, w.before args s = true := fun w hw => hG w ⟨(List.mem_filter.mp hw).1, (List.mem_filter.mp hw).2⟩
  have hKy : ∀ t, t ≤ 4 → va_K D vwCl [(dA t, eTyA t)] s := fun t ht => ⟨hK.1, fun k q hq => by
    match k, hq with
    | 0, hq => cases hq; exact hAr t ht
    | k + 1, hq => simp at hq⟩
  have hP1 : ∀ {k : Nat} {o : va_E}, h.2[k]? = some o → va_P D vwCl [(base + k, eZ dA base b0 o)] H := fun {k o} hk j q hq => by
    match j, hq with
    | 0, hq => cases hq; exact hR.1 k o hk
    | j + 1, hq => simp at hq
  have hstep : mF st (fun x r => vf_n64 (FP.f2d x) ∧ K0 n ls (.double (FP.f2d x) :: r) h kc ks) := hstep
  have hd : decode (mBy M) pc = .ok (.f2d, 1) := hd
  have hn : n = pc + 1 := hn
  subst hn
  obtain ⟨x, r, rfl, h0, hk⟩ := mF_s hstep
  exact lv_f2d hx hb hd h0 (hK0 _ _ _ _ _ _ hk H locs lsA hR hSS hl)
set_option maxHeartbeats 4000000 in
set_option maxRecDepth 100000 in
theorem ei_fcmp (cx : eCx p l e R s m args below meth c0 D dA base b0 S T C M d Q Fin K0) (op : CmpOp) {n a b c pc : Nat} {ls : eL} {st : List Value} {h : eH} {kc ks : Nat} {H : Heap} {locs : List Loc} {lsA : Array Slot} (hd : decode (mBy M) pc = .ok ((.fcmp op), eLen pc (.fcmp op) n)) (hn : n = pc + eLen pc (.fcmp op) n) (hi : eIns M pc (.fcmp op) a b c = true) (hlk : eLink T M (pc, (.fcmp op), n, a, b, c)) (hR : eRH D dA base b0 h H) (hSS : va_S (fun q => base ≤ q) s.heap H locs) (hl : lv_has lsA (mLo M) (eLs base b0 ls)) (hstep : okI S T C M d Q (.fcmp op) n a b c pc ls st h kc ks K0) : W p l e R s m args below meth c0 H locs kc ks Fin (F0 m pc lsA (st.map (eV base b0))) := by
  have cx0 := cx
  obtain ⟨hK0, hx, hb, hml, hown, hG, hE, hOK, hCl, hCa, hinit, hRf, hRl, hd1, hRc, hRs, htab, hC, hdC, hfin, hout, hthr⟩ := cx0
  have hOK0 := hOK
  obtain ⟨hOKc, hOKl, hOKh⟩ := hOK0
  have hE0 := hE
  obtain ⟨hNG, hStr, hZ1, hZ2, hAO, hK, hAr, hX, hbb, hbs, hNc⟩ := hE0
  have hA : ∀ q : Nat, s.heap.size ≤ q → base ≤ q := va_SA hbs
  have hts : ∀ w ∈ lw_tbl.filter goodWord, w.before args s = true := fun w hw => hG w ⟨(List.mem_filter.mp hw).1, (List.mem_filter.mp hw).2⟩
  have hKy : ∀ t, t ≤ 4 → va_K D vwCl [(dA t, eTyA t)] s := fun t ht => ⟨hK.1, fun k q hq => by
    match k, hq with
    | 0, hq => cases hq; exact hAr t ht
    | k + 1, hq => simp at hq⟩
  have hP1 : ∀ {k : Nat} {o : va_E}, h.2[k]? = some o → va_P D vwCl [(base + k, eZ dA base b0 o)] H := fun {k o} hk j q hq => by
    match j, hq with
    | 0, hq => cases hq; exact hR.1 k o hk
    | j + 1, hq => simp at hq
  have hstep : mF st (fun y r => mF r (fun x r => K0 n ls (.int (Op.cmpValue (FP.fcmp x y) op) :: r) h kc ks)) := hstep
  have hd : decode (mBy M) pc = .ok (.fcmp op, 1) := hd
  have hn : n = pc + 1 := hn
  subst hn
  obtain ⟨y, r, rfl, hs⟩ := mF_s hstep
  obtain ⟨x, r, rfl, hk⟩ := mF_s hs
  exact lv_fcmp hx hb hd (hK0 _ _ _ _ _ _ hk H locs lsA hR hSS hl)
set_option maxHeartbeats 4000000 in
set_option maxRecDepth 100000 in
theorem ei_dcmp (cx : eCx p l e R s m args below meth c0 D dA base b0 S T C M d Q Fin K0) (op : CmpOp) {n a b c pc : Nat} {ls : eL} {st : List Value} {h : eH} {kc ks : Nat} {H : Heap} {locs : List Loc} {lsA : Array Slot} (hd : decode (mBy M) pc = .ok ((.dcmp op), eLen pc (.dcmp op) n)) (hn : n = pc + eLen pc (.dcmp op) n) (hi : eIns M pc (.dcmp op) a b c = true) (hlk : eLink T M (pc, (.dcmp op), n, a, b, c)) (hR : eRH D dA base b0 h H) (hSS : va_S (fun q => base ≤ q) s.heap H locs) (hl : lv_has lsA (mLo M) (eLs base b0 ls)) (hstep : okI S T C M d Q (.dcmp op) n a b c pc ls st h kc ks K0) : W p l e R s m args below meth c0 H locs kc ks Fin (F0 m pc lsA (st.map (eV base b0))) := by
  have cx0 := cx
  obtain ⟨hK0, hx, hb, hml, hown, hG, hE, hOK, hCl, hCa, hinit, hRf, hRl, hd1, hRc, hRs, htab, hC, hdC, hfin, hout, hthr⟩ := cx0
  have hOK0 := hOK
  obtain ⟨hOKc, hOKl, hOKh⟩ := hOK0
  have hE0 := hE
  obtain ⟨hNG, hStr, hZ1, hZ2, hAO, hK, hAr, hX, hbb, hbs, hNc⟩ := hE0
  have hA : ∀ q : Nat, s.heap.size ≤ q → base ≤ q := va_SA hbs
  have hts : ∀ w ∈ lw_tbl.filter goodWord, w.before args s = true := fun w hw => hG w ⟨(List.mem_filter.mp hw).1, (List.mem_filter.mp hw).2⟩
  have hKy : ∀ t, t ≤ 4 → va_K D vwCl [(dA t, eTyA t)] s := fun t ht => ⟨hK.1, fun k q hq => by
    match k, hq with
    | 0, hq => cases hq; exact hAr t ht
    | k + 1, hq => simp at hq⟩
  have hP1 : ∀ {k : Nat} {o : va_E}, h.2[k]? = some o → va_P D vwCl [(base + k, eZ dA base b0 o)] H := fun {k o} hk j q hq => by
    match j, hq with
    | 0, hq => cases hq; exact hR.1 k o hk
    | j + 1, hq => simp at hq
  have hstep : mD st (fun y r => mD r (fun x r => K0 n ls (.int (Op.cmpValue (FP.dcmp x y) op) :: r) h kc ks)) := hstep
  have hd : decode (mBy M) pc = .ok (.dcmp op, 1) := hd
  have hn : n = pc + 1 := hn
  subst hn
  obtain ⟨y, r, rfl, hs⟩ := mD_s hstep
  obtain ⟨x, r, rfl, hk⟩ := mD_s hs
  exact lv_dcmp hx hb hd (hK0 _ _ _ _ _ _ hk H locs lsA hR hSS hl)
set_option maxHeartbeats 4000000 in
set_option maxRecDepth 100000 in
theorem ei_dup (cx : eCx p l e R s m args below meth c0 D dA base b0 S T C M d Q Fin K0)  {n a b c pc : Nat} {ls : eL} {st : List Value} {h : eH} {kc ks : Nat} {H : Heap} {locs : List Loc} {lsA : Array Slot} (hd : decode (mBy M) pc = .ok (.dup, eLen pc .dup n)) (hn : n = pc + eLen pc .dup n) (hi : eIns M pc .dup a b c = true) (hlk : eLink T M (pc, .dup, n, a, b, c)) (hR : eRH D dA base b0 h H) (hSS : va_S (fun q => base ≤ q) s.heap H locs) (hl : lv_has lsA (mLo M) (eLs base b0 ls)) (hstep : okI S T C M d Q .dup n a b c pc ls st h kc ks K0) : W p l e R s m args below meth c0 H locs kc ks Fin (F0 m pc lsA (st.map (eV base b0))) := by
  have cx0 := cx
  obtain ⟨hK0, hx, hb, hml, hown, hG, hE, hOK, hCl, hCa, hinit, hRf, hRl, hd1, hRc, hRs, htab, hC, hdC, hfin, hout, hthr⟩ := cx0
  have hOK0 := hOK
  obtain ⟨hOKc, hOKl, hOKh⟩ := hOK0
  have hE0 := hE
  obtain ⟨hNG, hStr, hZ1, hZ2, hAO, hK, hAr, hX, hbb, hbs, hNc⟩ := hE0
  have hA : ∀ q : Nat, s.heap.size ≤ q → base ≤ q := va_SA hbs
  have hts : ∀ w ∈ lw_tbl.filter goodWord, w.before args s = true := fun w hw => hG w ⟨(List.mem_filter.mp hw).1, (List.mem_filter.mp hw).2⟩
  have hKy : ∀ t, t ≤ 4 → va_K D vwCl [(dA t, eTyA t)] s := fun t ht => ⟨hK.1, fun k q hq => by
    match k, hq with
    | 0, hq => cases hq; exact hAr t ht
    | k + 1, hq => simp at hq⟩
  have hP1 : ∀ {k : Nat} {o : va_E}, h.2[k]? = some o → va_P D vwCl [(base + k, eZ dA base b0 o)] H := fun {k o} hk j q hq => by
    match j, hq with
    | 0, hq => cases hq; exact hR.1 k o hk
    | j + 1, hq => simp at hq
  have hstep : mV st (fun v r => bif v.category == 1 then K0 n ls (v :: v :: r) h kc ks else False) := hstep
  have hd : decode (mBy M) pc = .ok (.dup, 1) := hd
  have hn : n = pc + 1 := hn
  subst hn
  obtain ⟨v, r, rfl, hs⟩ := mV_s hstep
  obtain ⟨h1, hk⟩ := bif_s hs
  exact lv_dup hx hb hd ((eV_cat base b0 v).trans (eq_of_beq h1)) (hK0 _ _ _ _ _ _ hk H locs lsA hR hSS hl)
set_option maxHeartbeats 4000000 in
set_option maxRecDepth 100000 in
theorem ei_pop (cx : eCx p l e R s m args below meth c0 D dA base b0 S T C M d Q Fin K0)  {n a b c pc : Nat} {ls : eL} {st : List Value} {h : eH} {kc ks : Nat} {H : Heap} {locs : List Loc} {lsA : Array Slot} (hd : decode (mBy M) pc = .ok (.pop, eLen pc .pop n)) (hn : n = pc + eLen pc .pop n) (hi : eIns M pc .pop a b c = true) (hlk : eLink T M (pc, .pop, n, a, b, c)) (hR : eRH D dA base b0 h H) (hSS : va_S (fun q => base ≤ q) s.heap H locs) (hl : lv_has lsA (mLo M) (eLs base b0 ls)) (hstep : okI S T C M d Q .pop n a b c pc ls st h kc ks K0) : W p l e R s m args below meth c0 H locs kc ks Fin (F0 m pc lsA (st.map (eV base b0))) := by
  have cx0 := cx
  obtain ⟨hK0, hx, hb, hml, hown, hG, hE, hOK, hCl, hCa, hinit, hRf, hRl, hd1, hRc, hRs, htab, hC, hdC, hfin, hout, hthr⟩ := cx0
  have hOK0 := hOK
  obtain ⟨hOKc, hOKl, hOKh⟩ := hOK0
  have hE0 := hE
  obtain ⟨hNG, hStr, hZ1, hZ2, hAO, hK, hAr, hX, hbb, hbs, hNc⟩ := hE0
  have hA : ∀ q : Nat, s.heap.size ≤ q → base ≤ q := va_SA hbs
  have hts : ∀ w ∈ lw_tbl.filter goodWord, w.before args s = true := fun w hw => hG w ⟨(List.mem_filter.mp hw).1, (List.mem_filter.mp hw).2⟩
  have hKy : ∀ t, t ≤ 4 → va_K D vwCl [(dA t, eTyA t)] s := fun t ht => ⟨hK.1, fun k q hq => by
    match k, hq with
    | 0, hq => cases hq; exact hAr t ht
    | k + 1, hq => simp at hq⟩
  have hP1 : ∀ {k : Nat} {o : va_E}, h.2[k]? = some o → va_P D vwCl [(base + k, eZ dA base b0 o)] H := fun {k o} hk j q hq => by
    match j, hq with
    | 0, hq => cases hq; exact hR.1 k o hk
    | j + 1, hq => simp at hq
  have hstep : mV st (fun v r => bif v.category == 1 then K0 n ls r h kc ks else False) := hstep
  have hd : decode (mBy M) pc = .ok (.pop, 1) := hd
  have hn : n = pc + 1 := hn
  subst hn
  obtain ⟨v, r, rfl, hs⟩ := mV_s hstep
  obtain ⟨h1, hk⟩ := bif_s hs
  exact lv_pop hx hb hd ((eV_cat base b0 v).trans (eq_of_beq h1)) (hK0 _ _ _ _ _ _ hk H locs lsA hR hSS hl)
set_option maxHeartbeats 4000000 in
set_option maxRecDepth 100000 in
theorem ei_dup2 (cx : eCx p l e R s m args below meth c0 D dA base b0 S T C M d Q Fin K0)  {n a b c pc : Nat} {ls : eL} {st : List Value} {h : eH} {kc ks : Nat} {H : Heap} {locs : List Loc} {lsA : Array Slot} (hd : decode (mBy M) pc = .ok (.dup2, eLen pc .dup2 n)) (hn : n = pc + eLen pc .dup2 n) (hi : eIns M pc .dup2 a b c = true) (hlk : eLink T M (pc, .dup2, n, a, b, c)) (hR : eRH D dA base b0 h H) (hSS : va_S (fun q => base ≤ q) s.heap H locs) (hl : lv_has lsA (mLo M) (eLs base b0 ls)) (hstep : okI S T C M d Q .dup2 n a b c pc ls st h kc ks K0) : W p l e R s m args below meth c0 H locs kc ks Fin (F0 m pc lsA (st.map (eV base b0))) := by
  have cx0 := cx
  obtain ⟨hK0, hx, hb, hml, hown, hG, hE, hOK, hCl, hCa, hinit, hRf, hRl, hd1, hRc, hRs, htab, hC, hdC, hfin, hout, hthr⟩ := cx0
  have hOK0 := hOK
  obtain ⟨hOKc, hOKl, hOKh⟩ := hOK0
  have hE0 := hE
  obtain ⟨hNG, hStr, hZ1, hZ2, hAO, hK, hAr, hX, hbb, hbs, hNc⟩ := hE0
  have hA : ∀ q : Nat, s.heap.size ≤ q → base ≤ q := va_SA hbs
  have hts : ∀ w ∈ lw_tbl.filter goodWord, w.before args s = true := fun w hw => hG w ⟨(List.mem_filter.mp hw).1, (List.mem_filter.mp hw).2⟩
  have hKy : ∀ t, t ≤ 4 → va_K D vwCl [(dA t, eTyA t)] s := fun t ht => ⟨hK.1, fun k q hq => by
    match k, hq with
    | 0, hq => cases hq; exact hAr t ht
    | k + 1, hq => simp at hq⟩
  have hP1 : ∀ {k : Nat} {o : va_E}, h.2[k]? = some o → va_P D vwCl [(base + k, eZ dA base b0 o)] H := fun {k o} hk j q hq => by
    match j, hq with
    | 0, hq => cases hq; exact hR.1 k o hk
    | j + 1, hq => simp at hq
  have hstep : mV st (fun v r => mV r (fun w r => bif v.category == 1 && w.category == 1 then K0 n ls (v :: w :: v :: w :: r) h kc ks else False)) := hstep
  have hd : decode (mBy M) pc = .ok (.dup2, 1) := hd
  have hn : n = pc + 1 := hn
  subst hn
  obtain ⟨v, r, rfl, hs⟩ := mV_s hstep
  obtain ⟨w, r, rfl, hs⟩ := mV_s hs
  obtain ⟨h1, hk⟩ := bif_s hs
  simp only [Bool.and_eq_true, beq_iff_eq] at h1
  exact lv_dup2_11 hx hb hd ((eV_cat base b0 v).trans h1.1) ((eV_cat base b0 w).trans h1.2) (hK0 _ _ _ _ _ _ hk H locs lsA hR hSS hl)
end InsB
