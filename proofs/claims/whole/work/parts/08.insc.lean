section InsC
variable {p : Program} {l : Launch} {e : Env} {R : Room} {s : State} {m : MethodId} {args : Array Value} {below : List Frame} {meth : Method} {c0 : Code} {Fin : State → Prop}
variable {S : Nat × (Nat → Int32)} {T : Nat → eM} {C : eC} {M : eM} {d : Nat} {Q : eQ} {D : va_G} {dA : Nat → ClassId} {base b0 : Nat} {K0 : eK}
set_option maxHeartbeats 4000000 in
set_option maxRecDepth 100000 in
theorem ei_ifCond (cx : eCx p l e R s m args below meth c0 D dA base b0 S T C M d Q Fin K0) (cd : ClassFile.Cond) (off : Int) {n a b c pc : Nat} {ls : eL} {st : List Value} {h : eH} {kc ks : Nat} {H : Heap} {locs : List Loc} {lsA : Array Slot} (hd : decode (mBy M) pc = .ok ((.ifCond cd off), eLen pc (.ifCond cd off) n)) (hn : n = pc + eLen pc (.ifCond cd off) n) (hi : eIns M pc (.ifCond cd off) a b c = true) (hlk : eLink T M (pc, (.ifCond cd off), n, a, b, c)) (hR : eRH D dA base b0 h H) (hSS : va_S (fun q => base ≤ q) s.heap H locs) (hl : lv_has lsA (mLo M) (eLs base b0 ls)) (hstep : okI S T C M d Q (.ifCond cd off) n a b c pc ls st h kc ks K0) : W p l e R s m args below meth c0 H locs kc ks Fin (F0 m pc lsA (st.map (eV base b0))) := by
  have cx0 := cx
  obtain ⟨hK0, hx, hb, hml, hown, hG, hE, hOK, hCl, hCa, hinit, hRf, hRl, hd1, hRc, hRs, htab, hC, hdC, hfin, hout, hthr⟩ := cx0
  have hOK0 := hOK
  obtain ⟨hOKc, hOKl, hOKh⟩ := hOK0
  have hE0 := hE
  obtain ⟨hNG, hStr, hZ1, hZ2, hAO, hK, hAr, hX, hbb, hbs, hNc⟩ := hE0
  have hA : ∀ q : Nat, s.heap.size ≤ q → base ≤ q := va_SA hbs
  have hts : ∀ w ∈ lw_tbl.filter goodWord, w.before args s = true := fun w hw => hG w ⟨(List.mem_filter.mp hw).1, (List.mem_filter.mp hw).2⟩
  have hKy : ∀ t, t ≤ 4 → va_K D vwCl [(dA t, eTyA t)] s := fun t ht => ⟨hK.1, fun k q hq => by
    match k, hq with
    | 0, hq => cases hq; exact hAr t ht
    | k + 1, hq => simp at hq⟩
  have hP1 : ∀ {k : Nat} {o : va_E}, h.2[k]? = some o → va_P D vwCl [(base + k, eZ dA base b0 o)] H := fun {k o} hk j q hq => by
    match j, hq with
    | 0, hq => cases hq; exact hR.1 k o hk
    | j + 1, hq => simp at hq
  have hd : decode (mBy M) pc = .ok (.ifCond cd off, 3) := hd
  have hn : n = pc + 3 := hn
  subst hn
  have ht : (pc : Int) + off = (a : Int) := of_decide_eq_true hi
  cases cd
  case eq =>
    have hstep : mI st (fun x r => (x = 0 → K0 a ls r h kc ks) ∧ (¬ x = 0 → K0 (pc + 3) ls r h kc ks)) := hstep
    obtain ⟨x, r, rfl, kt, kf⟩ := mI_s hstep
    exact lv_if_eq hx hb hd ht (fun q => hK0 _ _ _ _ _ _ (kt q) H locs lsA hR hSS hl) (fun q => hK0 _ _ _ _ _ _ (kf q) H locs lsA hR hSS hl)
  case ne =>
    have hstep : mI st (fun x r => (x = 0 → K0 (pc + 3) ls r h kc ks) ∧ (¬ x = 0 → K0 a ls r h kc ks)) := hstep
    obtain ⟨x, r, rfl, kt, kf⟩ := mI_s hstep
    exact lv_if_ne hx hb hd ht (fun q => hK0 _ _ _ _ _ _ (kf q) H locs lsA hR hSS hl) (fun q => hK0 _ _ _ _ _ _ (kt q) H locs lsA hR hSS hl)
  case lt =>
    have hstep : mI st (fun x r => (x < 0 → K0 a ls r h kc ks) ∧ (¬ x < 0 → K0 (pc + 3) ls r h kc ks)) := hstep
    obtain ⟨x, r, rfl, kt, kf⟩ := mI_s hstep
    exact lv_if_lt hx hb hd ht (fun q => hK0 _ _ _ _ _ _ (kt q) H locs lsA hR hSS hl) (fun q => hK0 _ _ _ _ _ _ (kf q) H locs lsA hR hSS hl)
  case ge =>
    have hstep : mI st (fun x r => (0 ≤ x → K0 a ls r h kc ks) ∧ (¬ 0 ≤ x → K0 (pc + 3) ls r h kc ks)) := hstep
    obtain ⟨x, r, rfl, kt, kf⟩ := mI_s hstep
    exact lv_if_ge hx hb hd ht (fun q => hK0 _ _ _ _ _ _ (kt q) H locs lsA hR hSS hl) (fun q => hK0 _ _ _ _ _ _ (kf q) H locs lsA hR hSS hl)
  case gt =>
    have hstep : mI st (fun x r => (0 < x → K0 a ls r h kc ks) ∧ (¬ 0 < x → K0 (pc + 3) ls r h kc ks)) := hstep
    obtain ⟨x, r, rfl, kt, kf⟩ := mI_s hstep
    exact lv_if_gt hx hb hd ht (fun q => hK0 _ _ _ _ _ _ (kt q) H locs lsA hR hSS hl) (fun q => hK0 _ _ _ _ _ _ (kf q) H locs lsA hR hSS hl)
  case le =>
    have hstep : mI st (fun x r => (x ≤ 0 → K0 a ls r h kc ks) ∧ (¬ x ≤ 0 → K0 (pc + 3) ls r h kc ks)) := hstep
    obtain ⟨x, r, rfl, kt, kf⟩ := mI_s hstep
    exact lv_if_le hx hb hd ht (fun q => hK0 _ _ _ _ _ _ (kt q) H locs lsA hR hSS hl) (fun q => hK0 _ _ _ _ _ _ (kf q) H locs lsA hR hSS hl)
set_option maxHeartbeats 4000000 in
set_option maxRecDepth 100000 in
theorem ei_if_icmp (cx : eCx p l e R s m args below meth c0 D dA base b0 S T C M d Q Fin K0) (cd : ClassFile.Cond) (off : Int) {n a b c pc : Nat} {ls : eL} {st : List Value} {h : eH} {kc ks : Nat} {H : Heap} {locs : List Loc} {lsA : Array Slot} (hd : decode (mBy M) pc = .ok ((.if_icmp cd off), eLen pc (.if_icmp cd off) n)) (hn : n = pc + eLen pc (.if_icmp cd off) n) (hi : eIns M pc (.if_icmp cd off) a b c = true) (hlk : eLink T M (pc, (.if_icmp cd off), n, a, b, c)) (hR : eRH D dA base b0 h H) (hSS : va_S (fun q => base ≤ q) s.heap H locs) (hl : lv_has lsA (mLo M) (eLs base b0 ls)) (hstep : okI S T C M d Q (.if_icmp cd off) n a b c pc ls st h kc ks K0) : W p l e R s m args below meth c0 H locs kc ks Fin (F0 m pc lsA (st.map (eV base b0))) := by
  have cx0 := cx
  obtain ⟨hK0, hx, hb, hml, hown, hG, hE, hOK, hCl, hCa, hinit, hRf, hRl, hd1, hRc, hRs, htab, hC, hdC, hfin, hout, hthr⟩ := cx0
  have hOK0 := hOK
  obtain ⟨hOKc, hOKl, hOKh⟩ := hOK0
  have hE0 := hE
  obtain ⟨hNG, hStr, hZ1, hZ2, hAO, hK, hAr, hX, hbb, hbs, hNc⟩ := hE0
  have hA : ∀ q : Nat, s.heap.size ≤ q → base ≤ q := va_SA hbs
  have hts : ∀ w ∈ lw_tbl.filter goodWord, w.before args s = true := fun w hw => hG w ⟨(List.mem_filter.mp hw).1, (List.mem_filter.mp hw).2⟩
  have hKy : ∀ t, t ≤ 4 → va_K D vwCl [(dA t, eTyA t)] s := fun t ht => ⟨hK.1, fun k q hq => by
    match k, hq with
    | 0, hq => cases hq; exact hAr t ht
    | k + 1, hq => simp at hq⟩
  have hP1 : ∀ {k : Nat} {o : va_E}, h.2[k]? = some o → va_P D vwCl [(base + k, eZ dA base b0 o)] H := fun {k o} hk j q hq => by
    match j, hq with
    | 0, hq => cases hq; exact hR.1 k o hk
    | j + 1, hq => simp at hq
  have hd : decode (mBy M) pc = .ok (.if_icmp cd off, 3) := hd
  have hn : n = pc + 3 := hn
  subst hn
  have ht : (pc : Int) + off = (a : Int) := of_decide_eq_true hi
  cases cd
  case eq =>
    have hstep : mI st (fun y r => mI r (fun x r => (x = y → K0 a ls r h kc ks) ∧ (¬ x = y → K0 (pc + 3) ls r h kc ks))) := hstep
    obtain ⟨y, r1, rfl, hs1⟩ := mI_s hstep
    obtain ⟨x, r, rfl, kt, kf⟩ := mI_s hs1
    exact lv_icmp_eq hx hb hd ht (fun q => hK0 _ _ _ _ _ _ (kt q) H locs lsA hR hSS hl) (fun q => hK0 _ _ _ _ _ _ (kf q) H locs lsA hR hSS hl)
  case ne =>
    have hstep : mI st (fun y r => mI r (fun x r => (x = y → K0 (pc + 3) ls r h kc ks) ∧ (¬ x = y → K0 a ls r h kc ks))) := hstep
    obtain ⟨y, r1, rfl, hs1⟩ := mI_s hstep
    obtain ⟨x, r, rfl, kt, kf⟩ := mI_s hs1
    exact lv_icmp_ne hx hb hd ht (fun q => hK0 _ _ _ _ _ _ (kf q) H locs lsA hR hSS hl) (fun q => hK0 _ _ _ _ _ _ (kt q) H locs lsA hR hSS hl)
  case lt =>
    have hstep : mI st (fun y r => mI r (fun x r => (x < y → K0 a ls r h kc ks) ∧ (¬ x < y → K0 (pc + 3) ls r h kc ks))) := hstep
    obtain ⟨y, r1, rfl, hs1⟩ := mI_s hstep
    obtain ⟨x, r, rfl, kt, kf⟩ := mI_s hs1
    exact lv_icmp_lt hx hb hd ht (fun q => hK0 _ _ _ _ _ _ (kt q) H locs lsA hR hSS hl) (fun q => hK0 _ _ _ _ _ _ (kf q) H locs lsA hR hSS hl)
  case ge =>
    have hstep : mI st (fun y r => mI r (fun x r => (y ≤ x → K0 a ls r h kc ks) ∧ (¬ y ≤ x → K0 (pc + 3) ls r h kc ks))) := hstep
    obtain ⟨y, r1, rfl, hs1⟩ := mI_s hstep
    obtain ⟨x, r, rfl, kt, kf⟩ := mI_s hs1
    exact lv_icmp_ge hx hb hd ht (fun q => hK0 _ _ _ _ _ _ (kt q) H locs lsA hR hSS hl) (fun q => hK0 _ _ _ _ _ _ (kf q) H locs lsA hR hSS hl)
  case gt =>
    have hstep : mI st (fun y r => mI r (fun x r => (y < x → K0 a ls r h kc ks) ∧ (¬ y < x → K0 (pc + 3) ls r h kc ks))) := hstep
    obtain ⟨y, r1, rfl, hs1⟩ := mI_s hstep
    obtain ⟨x, r, rfl, kt, kf⟩ := mI_s hs1
    exact lv_icmp_gt hx hb hd ht (fun q => hK0 _ _ _ _ _ _ (kt q) H locs lsA hR hSS hl) (fun q => hK0 _ _ _ _ _ _ (kf q) H locs lsA hR hSS hl)
  case le =>
    have hstep : mI st (fun y r => mI r (fun x r => (x ≤ y → K0 a ls r h kc ks) ∧ (¬ x ≤ y → K0 (pc + 3) ls r h kc ks))) := hstep
    obtain ⟨y, r1, rfl, hs1⟩ := mI_s hstep
    obtain ⟨x, r, rfl, kt, kf⟩ := mI_s hs1
    exact lv_icmp_le hx hb hd ht (fun q => hK0 _ _ _ _ _ _ (kt q) H locs lsA hR hSS hl) (fun q => hK0 _ _ _ _ _ _ (kf q) H locs lsA hR hSS hl)
set_option maxHeartbeats 4000000 in
set_option maxRecDepth 100000 in
theorem ei_goto (cx : eCx p l e R s m args below meth c0 D dA base b0 S T C M d Q Fin K0) (off : Int) {n a b c pc : Nat} {ls : eL} {st : List Value} {h : eH} {kc ks : Nat} {H : Heap} {locs : List Loc} {lsA : Array Slot} (hd : decode (mBy M) pc = .ok ((.goto off), eLen pc (.goto off) n)) (hn : n = pc + eLen pc (.goto off) n) (hi : eIns M pc (.goto off) a b c = true) (hlk : eLink T M (pc, (.goto off), n, a, b, c)) (hR : eRH D dA base b0 h H) (hSS : va_S (fun q => base ≤ q) s.heap H locs) (hl : lv_has lsA (mLo M) (eLs base b0 ls)) (hstep : okI S T C M d Q (.goto off) n a b c pc ls st h kc ks K0) : W p l e R s m args below meth c0 H locs kc ks Fin (F0 m pc lsA (st.map (eV base b0))) := by
  have cx0 := cx
  obtain ⟨hK0, hx, hb, hml, hown, hG, hE, hOK, hCl, hCa, hinit, hRf, hRl, hd1, hRc, hRs, htab, hC, hdC, hfin, hout, hthr⟩ := cx0
  have hOK0 := hOK
  obtain ⟨hOKc, hOKl, hOKh⟩ := hOK0
  have hE0 := hE
  obtain ⟨hNG, hStr, hZ1, hZ2, hAO, hK, hAr, hX, hbb, hbs, hNc⟩ := hE0
  have hA : ∀ q : Nat, s.heap.size ≤ q → base ≤ q := va_SA hbs
  have hts : ∀ w ∈ lw_tbl.filter goodWord, w.before args s = true := fun w hw => hG w ⟨(List.mem_filter.mp hw).1, (List.mem_filter.mp hw).2⟩
  have hKy : ∀ t, t ≤ 4 → va_K D vwCl [(dA t, eTyA t)] s := fun t ht => ⟨hK.1, fun k q hq => by
    match k, hq with
    | 0, hq => cases hq; exact hAr t ht
    | k + 1, hq => simp at hq⟩
  have hP1 : ∀ {k : Nat} {o : va_E}, h.2[k]? = some o → va_P D vwCl [(base + k, eZ dA base b0 o)] H := fun {k o} hk j q hq => by
    match j, hq with
    | 0, hq => cases hq; exact hR.1 k o hk
    | j + 1, hq => simp at hq
  have hstep : K0 a ls st h kc ks := hstep
  have hd : decode (mBy M) pc = .ok (.goto off, 3) := hd
  have hn : n = pc + 3 := hn
  subst hn
  have ht : (pc : Int) + off = (a : Int) := of_decide_eq_true hi
  have hstep : K0 a ls st h kc ks := hstep
  exact lv_goto hx hb hd ht (hK0 _ _ _ _ _ _ hstep H locs lsA hR hSS hl)
set_option maxHeartbeats 4000000 in
set_option maxRecDepth 100000 in
theorem ei_tableswitch (cx : eCx p l e R s m args below meth c0 D dA base b0 S T C M d Q Fin K0) (dflt lo hi9 : Int) (offs : Array Int) {n a b c pc : Nat} {ls : eL} {st : List Value} {h : eH} {kc ks : Nat} {H : Heap} {locs : List Loc} {lsA : Array Slot} (hd : decode (mBy M) pc = .ok ((.tableswitch dflt lo hi9 offs), eLen pc (.tableswitch dflt lo hi9 offs) n)) (hn : n = pc + eLen pc (.tableswitch dflt lo hi9 offs) n) (hi : eIns M pc (.tableswitch dflt lo hi9 offs) a b c = true) (hlk : eLink T M (pc, (.tableswitch dflt lo hi9 offs), n, a, b, c)) (hR : eRH D dA base b0 h H) (hSS : va_S (fun q => base ≤ q) s.heap H locs) (hl : lv_has lsA (mLo M) (eLs base b0 ls)) (hstep : okI S T C M d Q (.tableswitch dflt lo hi9 offs) n a b c pc ls st h kc ks K0) : W p l e R s m args below meth c0 H locs kc ks Fin (F0 m pc lsA (st.map (eV base b0))) := by
  have cx0 := cx
  obtain ⟨hK0, hx, hb, hml, hown, hG, hE, hOK, hCl, hCa, hinit, hRf, hRl, hd1, hRc, hRs, htab, hC, hdC, hfin, hout, hthr⟩ := cx0
  have hOK0 := hOK
  obtain ⟨hOKc, hOKl, hOKh⟩ := hOK0
  have hE0 := hE
  obtain ⟨hNG, hStr, hZ1, hZ2, hAO, hK, hAr, hX, hbb, hbs, hNc⟩ := hE0
  have hA : ∀ q : Nat, s.heap.size ≤ q → base ≤ q := va_SA hbs
  have hts : ∀ w ∈ lw_tbl.filter goodWord, w.before args s = true := fun w hw => hG w ⟨(List.mem_filter.mp hw).1, (List.mem_filter.mp hw).2⟩
  have hKy : ∀ t, t ≤ 4 → va_K D vwCl [(dA t, eTyA t)] s := fun t ht => ⟨hK.1, fun k q hq => by
    match k, hq with
    | 0, hq => cases hq; exact hAr t ht
    | k + 1, hq => simp at hq⟩
  have hP1 : ∀ {k : Nat} {o : va_E}, h.2[k]? = some o → va_P D vwCl [(base + k, eZ dA base b0 o)] H := fun {k o} hk j q hq => by
    match j, hq with
    | 0, hq => cases hq; exact hR.1 k o hk
    | j + 1, hq => simp at hq
  have hstep : mI st (fun x r => (x.toInt < lo ∨ hi9 < x.toInt → K0 a ls r h kc ks) ∧ (∀ (j : Nat) (off : Int) (t : Nat), ¬ x.toInt < lo → ¬ hi9 < x.toInt → (x.toInt - lo).toNat = j → offs[j]? = some off → (pc : Int) + off = (t : Int) → K0 t ls r h kc ks)) := hstep
  have ht : (pc : Int) + dflt = (a : Int) := of_decide_eq_true hi
  obtain ⟨x, r, rfl, k1, k2⟩ := mI_s hstep
  by_cases hx1 : x.toInt < lo ∨ hi9 < x.toInt
  · exact lv_tableOut hx hb hd hx1 ht (hK0 _ _ _ _ _ _ (k1 hx1) H locs lsA hR hSS hl)
  · have hx2 : ¬ x.toInt < lo := fun q => hx1 (Or.inl q)
    have hx3 : ¬ hi9 < x.toInt := fun q => hx1 (Or.inr q)
    have hlk9 : offs.size = (hi9 - lo + 1).toNat ∧ ∀ off ∈ offs.toList, 0 ≤ (pc : Int) + off := hlk
    obtain ⟨off, ho⟩ : ∃ off, offs[(x.toInt - lo).toNat]? = some off := ⟨_, Array.getElem?_eq_getElem (by rw [hlk9.1]; omega)⟩
    obtain ⟨t9, ht9⟩ : ∃ t : Nat, (pc : Int) + off = (t : Int) := ⟨((pc : Int) + off).toNat, (Int.toNat_of_nonneg (hlk9.2 off (Array.mem_toList_iff.mpr (Array.mem_of_getElem? ho)))).symm⟩
    exact lv_tableIn hx hb hd hx2 hx3 ho ht9 (hK0 _ _ _ _ _ _ (k2 _ off t9 hx2 hx3 rfl ho ht9) H locs lsA hR hSS hl)
set_option maxHeartbeats 4000000 in
set_option maxRecDepth 100000 in
theorem ei_getfield (cx : eCx p l e R s m args below meth c0 D dA base b0 S T C M d Q Fin K0) (x9 : Nat) {n a b c pc : Nat} {ls : eL} {st : List Value} {h : eH} {kc ks : Nat} {H : Heap} {locs : List Loc} {lsA : Array Slot} (hd : decode (mBy M) pc = .ok ((.getfield x9), eLen pc (.getfield x9) n)) (hn : n = pc + eLen pc (.getfield x9) n) (hi : eIns M pc (.getfield x9) a b c = true) (hlk : eLink T M (pc, (.getfield x9), n, a, b, c)) (hR : eRH D dA base b0 h H) (hSS : va_S (fun q => base ≤ q) s.heap H locs) (hl : lv_has lsA (mLo M) (eLs base b0 ls)) (hstep : okI S T C M d Q (.getfield x9) n a b c pc ls st h kc ks K0) : W p l e R s m args below meth c0 H locs kc ks Fin (F0 m pc lsA (st.map (eV base b0))) := by
  have cx0 := cx
  obtain ⟨hK0, hx, hb, hml, hown, hG, hE, hOK, hCl, hCa, hinit, hRf, hRl, hd1, hRc, hRs, htab, hC, hdC, hfin, hout, hthr⟩ := cx0
  have hOK0 := hOK
  obtain ⟨hOKc, hOKl, hOKh⟩ := hOK0
  have hE0 := hE
  obtain ⟨hNG, hStr, hZ1, hZ2, hAO, hK, hAr, hX, hbb, hbs, hNc⟩ := hE0
  have hA : ∀ q : Nat, s.heap.size ≤ q → base ≤ q := va_SA hbs
  have hts : ∀ w ∈ lw_tbl.filter goodWord, w.before args s = true := fun w hw => hG w ⟨(List.mem_filter.mp hw).1, (List.mem_filter.mp hw).2⟩
  have hKy : ∀ t, t ≤ 4 → va_K D vwCl [(dA t, eTyA t)] s := fun t ht => ⟨hK.1, fun k q hq => by
    match k, hq with
    | 0, hq => cases hq; exact hAr t ht
    | k + 1, hq => simp at hq⟩
  have hP1 : ∀ {k : Nat} {o : va_E}, h.2[k]? = some o → va_P D vwCl [(base + k, eZ dA base b0 o)] H := fun {k o} hk j q hq => by
    match j, hq with
    | 0, hq => cases hq; exact hR.1 k o hk
    | j + 1, hq => simp at hq
  have hstep : mR st (fun q r => mO q (fun q => ∃ (fs : List Value) (v : Value), h.2[q]? = some (.inr (a, fs)) ∧ fs[b]? = some v ∧ K0 n ls (v :: r) h kc ks)) := hstep
  have hd : decode (mBy M) pc = .ok (.getfield x9, 3) := hd
  have hn : n = pc + 3 := hn
  subst hn
  obtain ⟨q, r, rfl, hs⟩ := mR_s hstep
  obtain ⟨q, rfl, hs⟩ := mO_s hs
  obtain ⟨fs, v, hq, hv, hk⟩ := hs
  obtain ⟨CN, TT, NN, hvc, hbN, hw⟩ := hlk
  have hcls := hCl _ (List.mem_of_getElem? hvc)
  exact va_get (D := D) (ws := [(base + q, eZ dA base b0 (.inr (a, fs)))]) hx hb hts (fun w hw9 => List.mem_filter.mpr ⟨(hcls.1 w hw9).1, (hcls.1 w hw9).2⟩) hown hK (hP1 hq) 0 rfl hvc b hbN (hG _ hw) (fun _ h9 => h9) (v := eV base b0 v) (by rw [List.getElem?_map, hv]; rfl) hd (hK0 _ _ _ _ _ _ hk H locs lsA hR hSS hl)
set_option maxHeartbeats 4000000 in
set_option maxRecDepth 100000 in
theorem ei_putfield (cx : eCx p l e R s m args below meth c0 D dA base b0 S T C M d Q Fin K0) (x9 : Nat) {n a b c pc : Nat} {ls : eL} {st : List Value} {h : eH} {kc ks : Nat} {H : Heap} {locs : List Loc} {lsA : Array Slot} (hd : decode (mBy M) pc = .ok ((.putfield x9), eLen pc (.putfield x9) n)) (hn : n = pc + eLen pc (.putfield x9) n) (hi : eIns M pc (.putfield x9) a b c = true) (hlk : eLink T M (pc, (.putfield x9), n, a, b, c)) (hR : eRH D dA base b0 h H) (hSS : va_S (fun q => base ≤ q) s.heap H locs) (hl : lv_has lsA (mLo M) (eLs base b0 ls)) (hstep : okI S T C M d Q (.putfield x9) n a b c pc ls st h kc ks K0) : W p l e R s m args below meth c0 H locs kc ks Fin (F0 m pc lsA (st.map (eV base b0))) := by
  have cx0 := cx
  obtain ⟨hK0, hx, hb, hml, hown, hG, hE, hOK, hCl, hCa, hinit, hRf, hRl, hd1, hRc, hRs, htab, hC, hdC, hfin, hout, hthr⟩ := cx0
  have hOK0 := hOK
  obtain ⟨hOKc, hOKl, hOKh⟩ := hOK0
  have hE0 := hE
  obtain ⟨hNG, hStr, hZ1, hZ2, hAO, hK, hAr, hX, hbb, hbs, hNc⟩ := hE0
  have hA : ∀ q : Nat, s.heap.size ≤ q → base ≤ q := va_SA hbs
  have hts : ∀ w ∈ lw_tbl.filter goodWord, w.before args s = true := fun w hw => hG w ⟨(List.mem_filter.mp hw).1, (List.mem_filter.mp hw).2⟩
  have hKy : ∀ t, t ≤ 4 → va_K D vwCl [(dA t, eTyA t)] s := fun t ht => ⟨hK.1, fun k q hq => by
    match k, hq with
    | 0, hq => cases hq; exact hAr t ht
    | k + 1, hq => simp at hq⟩
  have hP1 : ∀ {k : Nat} {o : va_E}, h.2[k]? = some o → va_P D vwCl [(base + k, eZ dA base b0 o)] H := fun {k o} hk j q hq => by
    match j, hq with
    | 0, hq => cases hq; exact hR.1 k o hk
    | j + 1, hq => simp at hq
  have hstep : mV st (fun v r => mR r (fun q r => mO q (fun q => bif eTy (eFty a b) v then ∃ (fs : List Value), h.2[q]? = some (.inr (a, fs)) ∧ Nat.blt b fs.length = true ∧ K0 n ls r (h.1, h.2.set q (.inr (a, fs.set b v))) kc ks else False))) := hstep
  have hd : decode (mBy M) pc = .ok (.putfield x9, 3) := hd
  have hn : n = pc + 3 := hn
  subst hn
  obtain ⟨v, r, rfl, hs⟩ := mV_s hstep
  obtain ⟨q, r, rfl, hs⟩ := mR_s hs
  obtain ⟨q, rfl, hs⟩ := mO_s hs
  obtain ⟨hty, fs, hq, hlen, hk⟩ := bif_s hs
  obtain ⟨CN, TT, NN, hvc, hbN, hw, hfin9⟩ := hlk
  have hcls := hCl _ (List.mem_of_getElem? hvc)
  obtain ⟨-, -, hpf, -⟩ := eNew_ok _ _ _ _ hvc
  obtain ⟨hnw, hft⟩ := eTy_ok base b0 hty
  exact e_put hx hb hts (fun w hw9 => List.mem_filter.mpr ⟨(hcls.1 w hw9).1, (hcls.1 w hw9).2⟩) (eFty a) hpf hcls.2 hown hK hR hSS hq hvc b hbN (hG _ hw) (fun h9 => ⟨(hinit (hfin9 h9).1).trans (hfin9 h9).1, (hfin9 h9).2⟩) (hpf b hbN) hnw hft (Nat.le_of_ble_eq_true hlen) hd (fun H1 locs1 hR1 hS1 => hK0 _ _ _ _ _ _ hk H1 locs1 lsA hR1 hS1 hl)
set_option maxHeartbeats 4000000 in
set_option maxRecDepth 100000 in
theorem ei_arraylength (cx : eCx p l e R s m args below meth c0 D dA base b0 S T C M d Q Fin K0)  {n a b c pc : Nat} {ls : eL} {st : List Value} {h : eH} {kc ks : Nat} {H : Heap} {locs : List Loc} {lsA : Array Slot} (hd : decode (mBy M) pc = .ok (.arraylength, eLen pc .arraylength n)) (hn : n = pc + eLen pc .arraylength n) (hi : eIns M pc .arraylength a b c = true) (hlk : eLink T M (pc, .arraylength, n, a, b, c)) (hR : eRH D dA base b0 h H) (hSS : va_S (fun q => base ≤ q) s.heap H locs) (hl : lv_has lsA (mLo M) (eLs base b0 ls)) (hstep : okI S T C M d Q .arraylength n a b c pc ls st h kc ks K0) : W p l e R s m args below meth c0 H locs kc ks Fin (F0 m pc lsA (st.map (eV base b0))) := by
  have cx0 := cx
  obtain ⟨hK0, hx, hb, hml, hown, hG, hE, hOK, hCl, hCa, hinit, hRf, hRl, hd1, hRc, hRs, htab, hC, hdC, hfin, hout, hthr⟩ := cx0
  have hOK0 := hOK
  obtain ⟨hOKc, hOKl, hOKh⟩ := hOK0
  have hE0 := hE
  obtain ⟨hNG, hStr, hZ1, hZ2, hAO, hK, hAr, hX, hbb, hbs, hNc⟩ := hE0
  have hA : ∀ q : Nat, s.heap.size ≤ q → base ≤ q := va_SA hbs
  have hts : ∀ w ∈ lw_tbl.filter goodWord, w.before args s = true := fun w hw => hG w ⟨(List.mem_filter.mp hw).1, (List.mem_filter.mp hw).2⟩
  have hKy : ∀ t, t ≤ 4 → va_K D vwCl [(dA t, eTyA t)] s := fun t ht => ⟨hK.1, fun k q hq => by
    match k, hq with
    | 0, hq => cases hq; exact hAr t ht
    | k + 1, hq => simp at hq⟩
  have hP1 : ∀ {k : Nat} {o : va_E}, h.2[k]? = some o → va_P D vwCl [(base + k, eZ dA base b0 o)] H := fun {k o} hk j q hq => by
    match j, hq with
    | 0, hq => cases hq; exact hR.1 k o hk
    | j + 1, hq => simp at hq
  have hstep : mR st (fun q r => match q with
    | 0 => K0 n ls (.int (Int32.ofNat S.1) :: r) h kc ks
    | q + 1 => ∃ (t : Nat) (x : vp_A), h.2[q]? = some (.inl (t, x)) ∧ t ≤ 4 ∧ K0 n ls (.int (Int32.ofNat x.1) :: r) h kc ks) := hstep
  have hd : decode (mBy M) pc = .ok (.arraylength, 1) := hd
  have hn : n = pc + 1 := hn
  subst hn
  obtain ⟨q, r, rfl, hs⟩ := mR_s hstep
  cases q with
  | zero => exact va_slen hx hb hX (Nat.lt_of_lt_of_le hbb hbs) (Nat.not_le.mpr hbb) hSS hd (hK0 _ _ _ _ _ _ hs H locs lsA hR hSS hl)
  | succ q =>
    obtain ⟨t, x, hq, ht, hk⟩ := hs
    obtain ⟨nn, x⟩ := x
    exact va_alen (D := D) (ws := [(base + q, eZ dA base b0 (.inl (t, nn, x)))]) (tys := [(dA t, eTyA t)]) hx hb (hKy t ht) (hP1 hq) 0 0 rfl rfl rfl hd (hK0 _ _ _ _ _ _ hk H locs lsA hR hSS hl)
set_option maxHeartbeats 4000000 in
set_option maxRecDepth 100000 in
theorem ei_iaload (cx : eCx p l e R s m args below meth c0 D dA base b0 S T C M d Q Fin K0)  {n a b c pc : Nat} {ls : eL} {st : List Value} {h : eH} {kc ks : Nat} {H : Heap} {locs : List Loc} {lsA : Array Slot} (hd : decode (mBy M) pc = .ok (.iaload, eLen pc .iaload n)) (hn : n = pc + eLen pc .iaload n) (hi : eIns M pc .iaload a b c = true) (hlk : eLink T M (pc, .iaload, n, a, b, c)) (hR : eRH D dA base b0 h H) (hSS : va_S (fun q => base ≤ q) s.heap H locs) (hl : lv_has lsA (mLo M) (eLs base b0 ls)) (hstep : okI S T C M d Q .iaload n a b c pc ls st h kc ks K0) : W p l e R s m args below meth c0 H locs kc ks Fin (F0 m pc lsA (st.map (eV base b0))) := by
  have cx0 := cx
  obtain ⟨hK0, hx, hb, hml, hown, hG, hE, hOK, hCl, hCa, hinit, hRf, hRl, hd1, hRc, hRs, htab, hC, hdC, hfin, hout, hthr⟩ := cx0
  have hOK0 := hOK
  obtain ⟨hOKc, hOKl, hOKh⟩ := hOK0
  have hE0 := hE
  obtain ⟨hNG, hStr, hZ1, hZ2, hAO, hK, hAr, hX, hbb, hbs, hNc⟩ := hE0
  have hA : ∀ q : Nat, s.heap.size ≤ q → base ≤ q := va_SA hbs
  have hts : ∀ w ∈ lw_tbl.filter goodWord, w.before args s = true := fun w hw => hG w ⟨(List.mem_filter.mp hw).1, (List.mem_filter.mp hw).2⟩
  have hKy : ∀ t, t ≤ 4 → va_K D vwCl [(dA t, eTyA t)] s := fun t ht => ⟨hK.1, fun k q hq => by
    match k, hq with
    | 0, hq => cases hq; exact hAr t ht
    | k + 1, hq => simp at hq⟩
  have hP1 : ∀ {k : Nat} {o : va_E}, h.2[k]? = some o → va_P D vwCl [(base + k, eZ dA base b0 o)] H := fun {k o} hk j q hq => by
    match j, hq with
    | 0, hq => cases hq; exact hR.1 k o hk
    | j + 1, hq => simp at hq
  have hstep : mI st (fun j r => mR r (fun q r => match q with
    | 0 => vp_in j S.1 ∧ K0 n ls (.int (S.2 j.toNatClampNeg) :: r) h kc ks
    | q + 1 => ∃ (N : Nat) (f : Nat → Int32), h.2[q]? = some (.inl (0, N, .inl f)) ∧ vp_in j N ∧ K0 n ls (.int (f j.toNatClampNeg) :: r) h kc ks)) := hstep
  have hd : decode (mBy M) pc = .ok (.iaload, 1) := hd
  have hn : n = pc + 1 := hn
  subst hn
  obtain ⟨j, r, rfl, hs⟩ := mI_s hstep
  obtain ⟨q, r, rfl, hs⟩ := mR_s hs
  cases q with
  | zero =>
    obtain ⟨hv, hk⟩ := hs
    exact va_sld hx hb hX (Nat.lt_of_lt_of_le hbb hbs) (Nat.not_le.mpr hbb) hSS hv hd (hK0 _ _ _ _ _ _ hk H locs lsA hR hSS hl)
  | succ q =>
    obtain ⟨N, f, hq, hv, hk⟩ := hs
    exact va_iald (D := D) (ws := [(base + q, eZ dA base b0 (.inl (0, N, .inl f)))]) (tys := [(dA 0, eTyA 0)]) hx hb (hKy 0 (by decide)) (hP1 hq) 0 0 rfl rfl hv hd (hK0 _ _ _ _ _ _ hk H locs lsA hR hSS hl)
set_option maxHeartbeats 4000000 in
set_option maxRecDepth 100000 in
theorem ei_baload (cx : eCx p l e R s m args below meth c0 D dA base b0 S T C M d Q Fin K0)  {n a b c pc : Nat} {ls : eL} {st : List Value} {h : eH} {kc ks : Nat} {H : Heap} {locs : List Loc} {lsA : Array Slot} (hd : decode (mBy M) pc = .ok (.baload, eLen pc .baload n)) (hn : n = pc + eLen pc .baload n) (hi : eIns M pc .baload a b c = true) (hlk : eLink T M (pc, .baload, n, a, b, c)) (hR : eRH D dA base b0 h H) (hSS : va_S (fun q => base ≤ q) s.heap H locs) (hl : lv_has lsA (mLo M) (eLs base b0 ls)) (hstep : okI S T C M d Q .baload n a b c pc ls st h kc ks K0) : W p l e R s m args below meth c0 H locs kc ks Fin (F0 m pc lsA (st.map (eV base b0))) := by
  have cx0 := cx
  obtain ⟨hK0, hx, hb, hml, hown, hG, hE, hOK, hCl, hCa, hinit, hRf, hRl, hd1, hRc, hRs, htab, hC, hdC, hfin, hout, hthr⟩ := cx0
  have hOK0 := hOK
  obtain ⟨hOKc, hOKl, hOKh⟩ := hOK0
  have hE0 := hE
  obtain ⟨hNG, hStr, hZ1, hZ2, hAO, hK, hAr, hX, hbb, hbs, hNc⟩ := hE0
  have hA : ∀ q : Nat, s.heap.size ≤ q → base ≤ q := va_SA hbs
  have hts : ∀ w ∈ lw_tbl.filter goodWord, w.before args s = true := fun w hw => hG w ⟨(List.mem_filter.mp hw).1, (List.mem_filter.mp hw).2⟩
  have hKy : ∀ t, t ≤ 4 → va_K D vwCl [(dA t, eTyA t)] s := fun t ht => ⟨hK.1, fun k q hq => by
    match k, hq with
    | 0, hq => cases hq; exact hAr t ht
    | k + 1, hq => simp at hq⟩
  have hP1 : ∀ {k : Nat} {o : va_E}, h.2[k]? = some o → va_P D vwCl [(base + k, eZ dA base b0 o)] H := fun {k o} hk j q hq => by
    match j, hq with
    | 0, hq => cases hq; exact hR.1 k o hk
    | j + 1, hq => simp at hq
  have hstep : mI st (fun j r => mR r (fun q r => mO q (fun q => ∃ (N : Nat) (f : Nat → Int32), h.2[q]? = some (.inl (1, N, .inl f)) ∧ vp_in j N ∧ K0 n ls (.int (f j.toNatClampNeg) :: r) h kc ks))) := hstep
  have hd : decode (mBy M) pc = .ok (.baload, 1) := hd
  have hn : n = pc + 1 := hn
  subst hn
  obtain ⟨j, r, rfl, hs⟩ := mI_s hstep
  obtain ⟨q, r, rfl, hs⟩ := mR_s hs
  obtain ⟨q, rfl, hs⟩ := mO_s hs
  obtain ⟨N, f, hq, hv, hk⟩ := hs
  exact va_zald (D := D) (ws := [(base + q, eZ dA base b0 (.inl (1, N, .inl f)))]) (tys := [(dA 1, eTyA 1)]) hx hb (hKy 1 (by decide)) (hP1 hq) 0 0 rfl rfl hv hd (hK0 _ _ _ _ _ _ hk H locs lsA hR hSS hl)
set_option maxHeartbeats 4000000 in
set_option maxRecDepth 100000 in
theorem ei_laload (cx : eCx p l e R s m args below meth c0 D dA base b0 S T C M d Q Fin K0)  {n a b c pc : Nat} {ls : eL} {st : List Value} {h : eH} {kc ks : Nat} {H : Heap} {locs : List Loc} {lsA : Array Slot} (hd : decode (mBy M) pc = .ok (.laload, eLen pc .laload n)) (hn : n = pc + eLen pc .laload n) (hi : eIns M pc .laload a b c = true) (hlk : eLink T M (pc, .laload, n, a, b, c)) (hR : eRH D dA base b0 h H) (hSS : va_S (fun q => base ≤ q) s.heap H locs) (hl : lv_has lsA (mLo M) (eLs base b0 ls)) (hstep : okI S T C M d Q .laload n a b c pc ls st h kc ks K0) : W p l e R s m args below meth c0 H locs kc ks Fin (F0 m pc lsA (st.map (eV base b0))) := by
  have cx0 := cx
  obtain ⟨hK0, hx, hb, hml, hown, hG, hE, hOK, hCl, hCa, hinit, hRf, hRl, hd1, hRc, hRs, htab, hC, hdC, hfin, hout, hthr⟩ := cx0
  have hOK0 := hOK
  obtain ⟨hOKc, hOKl, hOKh⟩ := hOK0
  have hE0 := hE
  obtain ⟨hNG, hStr, hZ1, hZ2, hAO, hK, hAr, hX, hbb, hbs, hNc⟩ := hE0
  have hA : ∀ q : Nat, s.heap.size ≤ q → base ≤ q := va_SA hbs
  have hts : ∀ w ∈ lw_tbl.filter goodWord, w.before args s = true := fun w hw => hG w ⟨(List.mem_filter.mp hw).1, (List.mem_filter.mp hw).2⟩
  have hKy : ∀ t, t ≤ 4 → va_K D vwCl [(dA t, eTyA t)] s := fun t ht => ⟨hK.1, fun k q hq => by
    match k, hq with
    | 0, hq => cases hq; exact hAr t ht
    | k + 1, hq => simp at hq⟩
  have hP1 : ∀ {k : Nat} {o : va_E}, h.2[k]? = some o → va_P D vwCl [(base + k, eZ dA base b0 o)] H := fun {k o} hk j q hq => by
    match j, hq with
    | 0, hq => cases hq; exact hR.1 k o hk
    | j + 1, hq => simp at hq
  have hstep : mI st (fun j r => mR r (fun q r => mO q (fun q => ∃ (N : Nat) (f : Nat → Int64), h.2[q]? = some (.inl (2, N, .inr (.inl f))) ∧ vp_in j N ∧ K0 n ls (.long (f j.toNatClampNeg) :: r) h kc ks))) := hstep
  have hd : decode (mBy M) pc = .ok (.laload, 1) := hd
  have hn : n = pc + 1 := hn
  subst hn
  obtain ⟨j, r, rfl, hs⟩ := mI_s hstep
  obtain ⟨q, r, rfl, hs⟩ := mR_s hs
  obtain ⟨q, rfl, hs⟩ := mO_s hs
  obtain ⟨N, f, hq, hv, hk⟩ := hs
  exact va_lald (D := D) (ws := [(base + q, eZ dA base b0 (.inl (2, N, .inr (.inl f))))]) (tys := [(dA 2, eTyA 2)]) hx hb (hKy 2 (by decide)) (hP1 hq) 0 0 rfl rfl hv hd (hK0 _ _ _ _ _ _ hk H locs lsA hR hSS hl)
set_option maxHeartbeats 4000000 in
set_option maxRecDepth 100000 in
theorem ei_daload (cx : eCx p l e R s m args below meth c0 D dA base b0 S T C M d Q Fin K0)  {n a b c pc : Nat} {ls : eL} {st : List Value} {h : eH} {kc ks : Nat} {H : Heap} {locs : List Loc} {lsA : Array Slot} (hd : decode (mBy M) pc = .ok (.daload, eLen pc .daload n)) (hn : n = pc + eLen pc .daload n) (hi : eIns M pc .daload a b c = true) (hlk : eLink T M (pc, .daload, n, a, b, c)) (hR : eRH D dA base b0 h H) (hSS : va_S (fun q => base ≤ q) s.heap H locs) (hl : lv_has lsA (mLo M) (eLs base b0 ls)) (hstep : okI S T C M d Q .daload n a b c pc ls st h kc ks K0) : W p l e R s m args below meth c0 H locs kc ks Fin (F0 m pc lsA (st.map (eV base b0))) := by
  have cx0 := cx
  obtain ⟨hK0, hx, hb, hml, hown, hG, hE, hOK, hCl, hCa, hinit, hRf, hRl, hd1, hRc, hRs, htab, hC, hdC, hfin, hout, hthr⟩ := cx0
  have hOK0 := hOK
  obtain ⟨hOKc, hOKl, hOKh⟩ := hOK0
  have hE0 := hE
  obtain ⟨hNG, hStr, hZ1, hZ2, hAO, hK, hAr, hX, hbb, hbs, hNc⟩ := hE0
  have hA : ∀ q : Nat, s.heap.size ≤ q → base ≤ q := va_SA hbs
  have hts : ∀ w ∈ lw_tbl.filter goodWord, w.before args s = true := fun w hw => hG w ⟨(List.mem_filter.mp hw).1, (List.mem_filter.mp hw).2⟩
  have hKy : ∀ t, t ≤ 4 → va_K D vwCl [(dA t, eTyA t)] s := fun t ht => ⟨hK.1, fun k q hq => by
    match k, hq with
    | 0, hq => cases hq; exact hAr t ht
    | k + 1, hq => simp at hq⟩
  have hP1 : ∀ {k : Nat} {o : va_E}, h.2[k]? = some o → va_P D vwCl [(base + k, eZ dA base b0 o)] H := fun {k o} hk j q hq => by
    match j, hq with
    | 0, hq => cases hq; exact hR.1 k o hk
    | j + 1, hq => simp at hq
  have hstep : mI st (fun j r => mR r (fun q r => mO q (fun q => ∃ (N : Nat) (f : Nat → UInt64), h.2[q]? = some (.inl (3, N, .inr (.inr (.inr (.inl f))))) ∧ vp_in j N ∧ K0 n ls (.double (f j.toNatClampNeg) :: r) h kc ks))) := hstep
  have hd : decode (mBy M) pc = .ok (.daload, 1) := hd
  have hn : n = pc + 1 := hn
  subst hn
  obtain ⟨j, r, rfl, hs⟩ := mI_s hstep
  obtain ⟨q, r, rfl, hs⟩ := mR_s hs
  obtain ⟨q, rfl, hs⟩ := mO_s hs
  obtain ⟨N, f, hq, hv, hk⟩ := hs
  exact va_dald (D := D) (ws := [(base + q, eZ dA base b0 (.inl (3, N, .inr (.inr (.inr (.inl f))))))]) (tys := [(dA 3, eTyA 3)]) hx hb (hKy 3 (by decide)) (hP1 hq) 0 0 rfl rfl hv hd (hK0 _ _ _ _ _ _ hk H locs lsA hR hSS hl)
set_option maxHeartbeats 4000000 in
set_option maxRecDepth 100000 in
theorem ei_aaload (cx : eCx p l e R s m args below meth c0 D dA base b0 S T C M d Q Fin K0)  {n a b c pc : Nat} {ls : eL} {st : List Value} {h : eH} {kc ks : Nat} {H : Heap} {locs : List Loc} {lsA : Array Slot} (hd : decode (mBy M) pc = .ok (.aaload, eLen pc .aaload n)) (hn : n = pc + eLen pc .aaload n) (hi : eIns M pc .aaload a b c = true) (hlk : eLink T M (pc, .aaload, n, a, b, c)) (hR : eRH D dA base b0 h H) (hSS : va_S (fun q => base ≤ q) s.heap H locs) (hl : lv_has lsA (mLo M) (eLs base b0 ls)) (hstep : okI S T C M d Q .aaload n a b c pc ls st h kc ks K0) : W p l e R s m args below meth c0 H locs kc ks Fin (F0 m pc lsA (st.map (eV base b0))) := by
  have cx0 := cx
  obtain ⟨hK0, hx, hb, hml, hown, hG, hE, hOK, hCl, hCa, hinit, hRf, hRl, hd1, hRc, hRs, htab, hC, hdC, hfin, hout, hthr⟩ := cx0
  have hOK0 := hOK
  obtain ⟨hOKc, hOKl, hOKh⟩ := hOK0
  have hE0 := hE
  obtain ⟨hNG, hStr, hZ1, hZ2, hAO, hK, hAr, hX, hbb, hbs, hNc⟩ := hE0
  have hA : ∀ q : Nat, s.heap.size ≤ q → base ≤ q := va_SA hbs
  have hts : ∀ w ∈ lw_tbl.filter goodWord, w.before args s = true := fun w hw => hG w ⟨(List.mem_filter.mp hw).1, (List.mem_filter.mp hw).2⟩
  have hKy : ∀ t, t ≤ 4 → va_K D vwCl [(dA t, eTyA t)] s := fun t ht => ⟨hK.1, fun k q hq => by
    match k, hq with
    | 0, hq => cases hq; exact hAr t ht
    | k + 1, hq => simp at hq⟩
  have hP1 : ∀ {k : Nat} {o : va_E}, h.2[k]? = some o → va_P D vwCl [(base + k, eZ dA base b0 o)] H := fun {k o} hk j q hq => by
    match j, hq with
    | 0, hq => cases hq; exact hR.1 k o hk
    | j + 1, hq => simp at hq
  have hstep : mI st (fun j r => mR r (fun q r => mO q (fun q => ∃ (N : Nat) (f : Nat → Option Nat) (z : Nat), h.2[q]? = some (.inl (4, N, .inr (.inr (.inr (.inr f))))) ∧ vp_in j N ∧ f j.toNatClampNeg = some z ∧ K0 n ls (.ref z :: r) h kc ks))) := hstep
  have hd : decode (mBy M) pc = .ok (.aaload, 1) := hd
  have hn : n = pc + 1 := hn
  subst hn
  obtain ⟨j, r, rfl, hs⟩ := mI_s hstep
  obtain ⟨q, r, rfl, hs⟩ := mR_s hs
  obtain ⟨q, rfl, hs⟩ := mO_s hs
  obtain ⟨N, f, z, hq, hv, hz, hk⟩ := hs
  refine va_aldq (D := D) (C := RX1) (ws := [(base + q, eZ dA base b0 (.inl (4, N, .inr (.inr (.inr (.inr f))))))]) (tys := [(dA 4, eTyA 4)]) hx hb (hKy 4 (by decide)) (hP1 hq) 0 0 rfl rfl hv hd ?_
  rw [hz]
  exact hK0 _ _ _ _ _ _ hk H locs lsA hR hSS hl
set_option maxHeartbeats 4000000 in
set_option maxRecDepth 100000 in
theorem ei_iastore (cx : eCx p l e R s m args below meth c0 D dA base b0 S T C M d Q Fin K0)  {n a b c pc : Nat} {ls : eL} {st : List Value} {h : eH} {kc ks : Nat} {H : Heap} {locs : List Loc} {lsA : Array Slot} (hd : decode (mBy M) pc = .ok (.iastore, eLen pc .iastore n)) (hn : n = pc + eLen pc .iastore n) (hi : eIns M pc .iastore a b c = true) (hlk : eLink T M (pc, .iastore, n, a, b, c)) (hR : eRH D dA base b0 h H) (hSS : va_S (fun q => base ≤ q) s.heap H locs) (hl : lv_has lsA (mLo M) (eLs base b0 ls)) (hstep : okI S T C M d Q .iastore n a b c pc ls st h kc ks K0) : W p l e R s m args below meth c0 H locs kc ks Fin (F0 m pc lsA (st.map (eV base b0))) := by
  have cx0 := cx
  obtain ⟨hK0, hx, hb, hml, hown, hG, hE, hOK, hCl, hCa, hinit, hRf, hRl, hd1, hRc, hRs, htab, hC, hdC, hfin, hout, hthr⟩ := cx0
  have hOK0 := hOK
  obtain ⟨hOKc, hOKl, hOKh⟩ := hOK0
  have hE0 := hE
  obtain ⟨hNG, hStr, hZ1, hZ2, hAO, hK, hAr, hX, hbb, hbs, hNc⟩ := hE0
  have hA : ∀ q : Nat, s.heap.size ≤ q → base ≤ q := va_SA hbs
  have hts : ∀ w ∈ lw_tbl.filter goodWord, w.before args s = true := fun w hw => hG w ⟨(List.mem_filter.mp hw).1, (List.mem_filter.mp hw).2⟩
  have hKy : ∀ t, t ≤ 4 → va_K D vwCl [(dA t, eTyA t)] s := fun t ht => ⟨hK.1, fun k q hq => by
    match k, hq with
    | 0, hq => cases hq; exact hAr t ht
    | k + 1, hq => simp at hq⟩
  have hP1 : ∀ {k : Nat} {o : va_E}, h.2[k]? = some o → va_P D vwCl [(base + k, eZ dA base b0 o)] H := fun {k o} hk j q hq => by
    match j, hq with
    | 0, hq => cases hq; exact hR.1 k o hk
    | j + 1, hq => simp at hq
  have hstep : mI st (fun x r => mI r (fun j r => mR r (fun q r => mO q (fun q => ∃ (N : Nat) (f : Nat → Int32), h.2[q]? = some (.inl (0, N, .inl f)) ∧ vp_in j N ∧ K0 n ls r (h.1, h.2.set q (.inl (0, N, .inl (upd f j.toNatClampNeg x)))) kc ks)))) := hstep
  have hd : decode (mBy M) pc = .ok (.iastore, 1) := hd
  have hn : n = pc + 1 := hn
  subst hn
  obtain ⟨x, r, rfl, hs⟩ := mI_s hstep
  obtain ⟨j, r, rfl, hs⟩ := mI_s hs
  obtain ⟨q, r, rfl, hs⟩ := mR_s hs
  obtain ⟨q, rfl, hs⟩ := mO_s hs
  obtain ⟨N, f, hq, hv, hk⟩ := hs
  exact e_iast hx hb (hAr 0 (by decide)).1 hR hSS hq hv hd (fun H1 locs1 hR1 hS1 => hK0 _ _ _ _ _ _ hk H1 locs1 lsA hR1 hS1 hl)
set_option maxHeartbeats 4000000 in
set_option maxRecDepth 100000 in
theorem ei_bastore (cx : eCx p l e R s m args below meth c0 D dA base b0 S T C M d Q Fin K0)  {n a b c pc : Nat} {ls : eL} {st : List Value} {h : eH} {kc ks : Nat} {H : Heap} {locs : List Loc} {lsA : Array Slot} (hd : decode (mBy M) pc = .ok (.bastore, eLen pc .bastore n)) (hn : n = pc + eLen pc .bastore n) (hi : eIns M pc .bastore a b c = true) (hlk : eLink T M (pc, .bastore, n, a, b, c)) (hR : eRH D dA base b0 h H) (hSS : va_S (fun q => base ≤ q) s.heap H locs) (hl : lv_has lsA (mLo M) (eLs base b0 ls)) (hstep : okI S T C M d Q .bastore n a b c pc ls st h kc ks K0) : W p l e R s m args below meth c0 H locs kc ks Fin (F0 m pc lsA (st.map (eV base b0))) := by
  have cx0 := cx
  obtain ⟨hK0, hx, hb, hml, hown, hG, hE, hOK, hCl, hCa, hinit, hRf, hRl, hd1, hRc, hRs, htab, hC, hdC, hfin, hout, hthr⟩ := cx0
  have hOK0 := hOK
  obtain ⟨hOKc, hOKl, hOKh⟩ := hOK0
  have hE0 := hE
  obtain ⟨hNG, hStr, hZ1, hZ2, hAO, hK, hAr, hX, hbb, hbs, hNc⟩ := hE0
  have hA : ∀ q : Nat, s.heap.size ≤ q → base ≤ q := va_SA hbs
  have hts : ∀ w ∈ lw_tbl.filter goodWord, w.before args s = true := fun w hw => hG w ⟨(List.mem_filter.mp hw).1, (List.mem_filter.mp hw).2⟩
  have hKy : ∀ t, t ≤ 4 → va_K D vwCl [(dA t, eTyA t)] s := fun t ht => ⟨hK.1, fun k q hq => by
    match k, hq with
    | 0, hq => cases hq; exact hAr t ht
    | k + 1, hq => simp at hq⟩
  have hP1 : ∀ {k : Nat} {o : va_E}, h.2[k]? = some o → va_P D vwCl [(base + k, eZ dA base b0 o)] H := fun {k o} hk j q hq => by
    match j, hq with
    | 0, hq => cases hq; exact hR.1 k o hk
    | j + 1, hq => simp at hq
  have hstep : mI st (fun x r => mI r (fun j r => mR r (fun q r => mO q (fun q => ∃ (N : Nat) (f : Nat → Int32), h.2[q]? = some (.inl (1, N, .inl f)) ∧ vp_in j N ∧ K0 n ls r (h.1, h.2.set q (.inl (1, N, .inl (upd f j.toNatClampNeg (vp_nar .boolean x))))) kc ks)))) := hstep
  have hd : decode (mBy M) pc = .ok (.bastore, 1) := hd
  have hn : n = pc + 1 := hn
  subst hn
  obtain ⟨x, r, rfl, hs⟩ := mI_s hstep
  obtain ⟨j, r, rfl, hs⟩ := mI_s hs
  obtain ⟨q, r, rfl, hs⟩ := mR_s hs
  obtain ⟨q, rfl, hs⟩ := mO_s hs
  obtain ⟨N, f, hq, hv, hk⟩ := hs
  exact e_zast hx hb (hAr 1 (by decide)).1 hR hSS hq hv hd (fun H1 locs1 hR1 hS1 => hK0 _ _ _ _ _ _ hk H1 locs1 lsA hR1 hS1 hl)
set_option maxHeartbeats 4000000 in
set_option maxRecDepth 100000 in
theorem ei_lastore (cx : eCx p l e R s m args below meth c0 D dA base b0 S T C M d Q Fin K0)  {n a b c pc : Nat} {ls : eL} {st : List Value} {h : eH} {kc ks : Nat} {H : Heap} {locs : List Loc} {lsA : Array Slot} (hd : decode (mBy M) pc = .ok (.lastore, eLen pc .lastore n)) (hn : n = pc + eLen pc .lastore n) (hi : eIns M pc .lastore a b c = true) (hlk : eLink T M (pc, .lastore, n, a, b, c)) (hR : eRH D dA base b0 h H) (hSS : va_S (fun q => base ≤ q) s.heap H locs) (hl : lv_has lsA (mLo M) (eLs base b0 ls)) (hstep : okI S T C M d Q .lastore n a b c pc ls st h kc ks K0) : W p l e R s m args below meth c0 H locs kc ks Fin (F0 m pc lsA (st.map (eV base b0))) := by
  have cx0 := cx
  obtain ⟨hK0, hx, hb, hml, hown, hG, hE, hOK, hCl, hCa, hinit, hRf, hRl, hd1, hRc, hRs, htab, hC, hdC, hfin, hout, hthr⟩ := cx0
  have hOK0 := hOK
  obtain ⟨hOKc, hOKl, hOKh⟩ := hOK0
  have hE0 := hE
  obtain ⟨hNG, hStr, hZ1, hZ2, hAO, hK, hAr, hX, hbb, hbs, hNc⟩ := hE0
  have hA : ∀ q : Nat, s.heap.size ≤ q → base ≤ q := va_SA hbs
  have hts : ∀ w ∈ lw_tbl.filter goodWord, w.before args s = true := fun w hw => hG w ⟨(List.mem_filter.mp hw).1, (List.mem_filter.mp hw).2⟩
  have hKy : ∀ t, t ≤ 4 → va_K D vwCl [(dA t, eTyA t)] s := fun t ht => ⟨hK.1, fun k q hq => by
    match k, hq with
    | 0, hq => cases hq; exact hAr t ht
    | k + 1, hq => simp at hq⟩
  have hP1 : ∀ {k : Nat} {o : va_E}, h.2[k]? = some o → va_P D vwCl [(base + k, eZ dA base b0 o)] H := fun {k o} hk j q hq => by
    match j, hq with
    | 0, hq => cases hq; exact hR.1 k o hk
    | j + 1, hq => simp at hq
  have hstep : mJ st (fun x r => mI r (fun j r => mR r (fun q r => mO q (fun q => ∃ (N : Nat) (f : Nat → Int64), h.2[q]? = some (.inl (2, N, .inr (.inl f))) ∧ vp_in j N ∧ K0 n ls r (h.1, h.2.set q (.inl (2, N, .inr (.inl (vp_updL f j.toNatClampNeg x))))) kc ks)))) := hstep
  have hd : decode (mBy M) pc = .ok (.lastore, 1) := hd
  have hn : n = pc + 1 := hn
  subst hn
  obtain ⟨x, r, rfl, hs⟩ := mJ_s hstep
  obtain ⟨j, r, rfl, hs⟩ := mI_s hs
  obtain ⟨q, r, rfl, hs⟩ := mR_s hs
  obtain ⟨q, rfl, hs⟩ := mO_s hs
  obtain ⟨N, f, hq, hv, hk⟩ := hs
  exact e_last hx hb (hAr 2 (by decide)).1 hR hSS hq hv hd (fun H1 locs1 hR1 hS1 => hK0 _ _ _ _ _ _ hk H1 locs1 lsA hR1 hS1 hl)
end InsC
