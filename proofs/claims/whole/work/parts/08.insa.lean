section InsA
variable {p : Program} {l : Launch} {e : Env} {R : Room} {s : State} {m : MethodId} {args : Array Value} {below : List Frame} {meth : Method} {c0 : Code} {Fin : State → Prop}
variable {S : Nat × (Nat → Int32)} {T : Nat → eM} {C : eC} {M : eM} {d : Nat} {Q : eQ} {D : va_G} {dA : Nat → ClassId} {base b0 : Nat} {K0 : eK}
set_option maxHeartbeats 4000000 in
set_option maxRecDepth 100000 in
theorem ei_aload_n (cx : eCx p l e R s m args below meth c0 D dA base b0 S T C M d Q Fin K0) (j : _root_.Fin 4) {n a b c pc : Nat} {ls : eL} {st : List Value} {h : eH} {kc ks : Nat} {H : Heap} {locs : List Loc} {lsA : Array Slot} (hd : decode (mBy M) pc = .ok ((.aload_n j), eLen pc (.aload_n j) n)) (hn : n = pc + eLen pc (.aload_n j) n) (hi : eIns M pc (.aload_n j) a b c = true) (hlk : eLink T M (pc, (.aload_n j), n, a, b, c)) (hR : eRH D dA base b0 h H) (hSS : va_S (fun q => base ≤ q) s.heap H locs) (hl : lv_has lsA (mLo M) (eLs base b0 ls)) (hstep : okI S T C M d Q (.aload_n j) n a b c pc ls st h kc ks K0) : W p l e R s m args below meth c0 H locs kc ks Fin (F0 m pc lsA (st.map (eV base b0))) := by
  have cx0 := cx
  obtain ⟨hK0, hx, hb, hml, hown, hG, hE, hOK, hCl, hCa, hinit, hRf, hRl, hd1, hRc, hRs, htab, hC, hdC, hfin, hout, hthr⟩ := cx0
  have hOK0 := hOK
  obtain ⟨hOKc, hOKl, hOKh⟩ := hOK0
  have hE0 := hE
  obtain ⟨hNG, hStr, hZ1, hZ2, hAO, hK, hAr, hX, hbb, hbs, hNc⟩ := hE0
  have hA : ∀ q : Nat, s.heap.size ≤ q → base ≤ q := va_SA hbs
  have hts : ∀ w ∈ lw_tbl.filter goodWord, w.before args s = true := fun w hw => hG w ⟨(List.mem_filter.mp hw).1, (List.mem_filter.mp hw).2⟩
  have hKy : ∀ t, t ≤ 4 → va_K D vwCl [(dA t, eTyA t)] s := fun t ht => ⟨hK.1, fun k q hq => by
    match k, hq with
    | 0, hq => cases hq; exact hAr t ht
    | k + 1, hq => simp at hq⟩
  have hP1 : ∀ {k : Nat} {o : va_E}, h.2[k]? = some o → va_P D vwCl [(base + k, eZ dA base b0 o)] H := fun {k o} hk j q hq => by
    match j, hq with
    | 0, hq => cases hq; exact hR.1 k o hk
    | j + 1, hq => simp at hq
  have hstep : pLd 0 ls a (fun v => K0 n ls (v :: st) h kc ks) := hstep
  have hd : decode (mBy M) pc = .ok (.aload_n j, 1) := hd
  have hn : n = pc + 1 := hn
  subst hn
  obtain ⟨v, h1, h2, hk⟩ := pLd_s hstep
  obtain ⟨k9, rfl⟩ := eIsA_0 h2
  exact lv_aload_n hx hb hd (eq_of_beq (show (j.val == a) = true from hi)) (lkp_has hl h1) (hK0 _ _ _ _ _ _ hk H locs lsA hR hSS hl)
set_option maxHeartbeats 4000000 in
set_option maxRecDepth 100000 in
theorem ei_iload_n (cx : eCx p l e R s m args below meth c0 D dA base b0 S T C M d Q Fin K0) (j : _root_.Fin 4) {n a b c pc : Nat} {ls : eL} {st : List Value} {h : eH} {kc ks : Nat} {H : Heap} {locs : List Loc} {lsA : Array Slot} (hd : decode (mBy M) pc = .ok ((.iload_n j), eLen pc (.iload_n j) n)) (hn : n = pc + eLen pc (.iload_n j) n) (hi : eIns M pc (.iload_n j) a b c = true) (hlk : eLink T M (pc, (.iload_n j), n, a, b, c)) (hR : eRH D dA base b0 h H) (hSS : va_S (fun q => base ≤ q) s.heap H locs) (hl : lv_has lsA (mLo M) (eLs base b0 ls)) (hstep : okI S T C M d Q (.iload_n j) n a b c pc ls st h kc ks K0) : W p l e R s m args below meth c0 H locs kc ks Fin (F0 m pc lsA (st.map (eV base b0))) := by
  have cx0 := cx
  obtain ⟨hK0, hx, hb, hml, hown, hG, hE, hOK, hCl, hCa, hinit, hRf, hRl, hd1, hRc, hRs, htab, hC, hdC, hfin, hout, hthr⟩ := cx0
  have hOK0 := hOK
  obtain ⟨hOKc, hOKl, hOKh⟩ := hOK0
  have hE0 := hE
  obtain ⟨hNG, hStr, hZ1, hZ2, hAO, hK, hAr, hX, hbb, hbs, hNc⟩ := hE0
  have hA : ∀ q : Nat, s.heap.size ≤ q → base ≤ q := va_SA hbs
  have hts : ∀ w ∈ lw_tbl.filter goodWord, w.before args s = true := fun w hw => hG w ⟨(List.mem_filter.mp hw).1, (List.mem_filter.mp hw).2⟩
  have hKy : ∀ t, t ≤ 4 → va_K D vwCl [(dA t, eTyA t)] s := fun t ht => ⟨hK.1, fun k q hq => by
    match k, hq with
    | 0, hq => cases hq; exact hAr t ht
    | k + 1, hq => simp at hq⟩
  have hP1 : ∀ {k : Nat} {o : va_E}, h.2[k]? = some o → va_P D vwCl [(base + k, eZ dA base b0 o)] H := fun {k o} hk j q hq => by
    match j, hq with
    | 0, hq => cases hq; exact hR.1 k o hk
    | j + 1, hq => simp at hq
  have hstep : pLd 1 ls a (fun v => K0 n ls (v :: st) h kc ks) := hstep
  have hd : decode (mBy M) pc = .ok (.iload_n j, 1) := hd
  have hn : n = pc + 1 := hn
  subst hn
  obtain ⟨v, h1, h2, hk⟩ := pLd_s hstep
  obtain ⟨k9, rfl⟩ := eIsA_1 h2
  exact lv_iload_n hx hb hd (eq_of_beq (show (j.val == a) = true from hi)) (lkp_has hl h1) (hK0 _ _ _ _ _ _ hk H locs lsA hR hSS hl)
set_option maxHeartbeats 4000000 in
set_option maxRecDepth 100000 in
theorem ei_lload_n (cx : eCx p l e R s m args below meth c0 D dA base b0 S T C M d Q Fin K0) (j : _root_.Fin 4) {n a b c pc : Nat} {ls : eL} {st : List Value} {h : eH} {kc ks : Nat} {H : Heap} {locs : List Loc} {lsA : Array Slot} (hd : decode (mBy M) pc = .ok ((.lload_n j), eLen pc (.lload_n j) n)) (hn : n = pc + eLen pc (.lload_n j) n) (hi : eIns M pc (.lload_n j) a b c = true) (hlk : eLink T M (pc, (.lload_n j), n, a, b, c)) (hR : eRH D dA base b0 h H) (hSS : va_S (fun q => base ≤ q) s.heap H locs) (hl : lv_has lsA (mLo M) (eLs base b0 ls)) (hstep : okI S T C M d Q (.lload_n j) n a b c pc ls st h kc ks K0) : W p l e R s m args below meth c0 H locs kc ks Fin (F0 m pc lsA (st.map (eV base b0))) := by
  have cx0 := cx
  obtain ⟨hK0, hx, hb, hml, hown, hG, hE, hOK, hCl, hCa, hinit, hRf, hRl, hd1, hRc, hRs, htab, hC, hdC, hfin, hout, hthr⟩ := cx0
  have hOK0 := hOK
  obtain ⟨hOKc, hOKl, hOKh⟩ := hOK0
  have hE0 := hE
  obtain ⟨hNG, hStr, hZ1, hZ2, hAO, hK, hAr, hX, hbb, hbs, hNc⟩ := hE0
  have hA : ∀ q : Nat, s.heap.size ≤ q → base ≤ q := va_SA hbs
  have hts : ∀ w ∈ lw_tbl.filter goodWord, w.before args s = true := fun w hw => hG w ⟨(List.mem_filter.mp hw).1, (List.mem_filter.mp hw).2⟩
  have hKy : ∀ t, t ≤ 4 → va_K D vwCl [(dA t, eTyA t)] s := fun t ht => ⟨hK.1, fun k q hq => by
    match k, hq with
    | 0, hq => cases hq; exact hAr t ht
    | k + 1, hq => simp at hq⟩
  have hP1 : ∀ {k : Nat} {o : va_E}, h.2[k]? = some o → va_P D vwCl [(base + k, eZ dA base b0 o)] H := fun {k o} hk j q hq => by
    match j, hq with
    | 0, hq => cases hq; exact hR.1 k o hk
    | j + 1, hq => simp at hq
  have hstep : pLd 2 ls a (fun v => K0 n ls (v :: st) h kc ks) := hstep
  have hd : decode (mBy M) pc = .ok (.lload_n j, 1) := hd
  have hn : n = pc + 1 := hn
  subst hn
  obtain ⟨v, h1, h2, hk⟩ := pLd_s hstep
  obtain ⟨k9, rfl⟩ := eIsA_2 h2
  exact lv_lload_n hx hb hd (eq_of_beq (show (j.val == a) = true from hi)) (lkp_has hl h1) (hK0 _ _ _ _ _ _ hk H locs lsA hR hSS hl)
set_option maxHeartbeats 4000000 in
set_option maxRecDepth 100000 in
theorem ei_aload (cx : eCx p l e R s m args below meth c0 D dA base b0 S T C M d Q Fin K0) (j : Nat) {n a b c pc : Nat} {ls : eL} {st : List Value} {h : eH} {kc ks : Nat} {H : Heap} {locs : List Loc} {lsA : Array Slot} (hd : decode (mBy M) pc = .ok ((.aload j), eLen pc (.aload j) n)) (hn : n = pc + eLen pc (.aload j) n) (hi : eIns M pc (.aload j) a b c = true) (hlk : eLink T M (pc, (.aload j), n, a, b, c)) (hR : eRH D dA base b0 h H) (hSS : va_S (fun q => base ≤ q) s.heap H locs) (hl : lv_has lsA (mLo M) (eLs base b0 ls)) (hstep : okI S T C M d Q (.aload j) n a b c pc ls st h kc ks K0) : W p l e R s m args below meth c0 H locs kc ks Fin (F0 m pc lsA (st.map (eV base b0))) := by
  have cx0 := cx
  obtain ⟨hK0, hx, hb, hml, hown, hG, hE, hOK, hCl, hCa, hinit, hRf, hRl, hd1, hRc, hRs, htab, hC, hdC, hfin, hout, hthr⟩ := cx0
  have hOK0 := hOK
  obtain ⟨hOKc, hOKl, hOKh⟩ := hOK0
  have hE0 := hE
  obtain ⟨hNG, hStr, hZ1, hZ2, hAO, hK, hAr, hX, hbb, hbs, hNc⟩ := hE0
  have hA : ∀ q : Nat, s.heap.size ≤ q → base ≤ q := va_SA hbs
  have hts : ∀ w ∈ lw_tbl.filter goodWord, w.before args s = true := fun w hw => hG w ⟨(List.mem_filter.mp hw).1, (List.mem_filter.mp hw).2⟩
  have hKy : ∀ t, t ≤ 4 → va_K D vwCl [(dA t, eTyA t)] s := fun t ht => ⟨hK.1, fun k q hq => by
    match k, hq with
    | 0, hq => cases hq; exact hAr t ht
    | k + 1, hq => simp at hq⟩
  have hP1 : ∀ {k : Nat} {o : va_E}, h.2[k]? = some o → va_P D vwCl [(base + k, eZ dA base b0 o)] H := fun {k o} hk j q hq => by
    match j, hq with
    | 0, hq => cases hq; exact hR.1 k o hk
    | j + 1, hq => simp at hq
  have hstep : pLd 0 ls a (fun v => K0 n ls (v :: st) h kc ks) := hstep
  have hd : decode (mBy M) pc = .ok (.aload j, 2) := hd
  have hn : n = pc + 2 := hn
  subst hn
  obtain ⟨v, h1, h2, hk⟩ := pLd_s hstep
  obtain ⟨k9, rfl⟩ := eIsA_0 h2
  have hj : j = a := eq_of_beq (show (j == a) = true from hi)
  subst hj
  exact lv_aload hx hb hd (lkp_has hl h1) (hK0 _ _ _ _ _ _ hk H locs lsA hR hSS hl)
set_option maxHeartbeats 4000000 in
set_option maxRecDepth 100000 in
theorem ei_iload (cx : eCx p l e R s m args below meth c0 D dA base b0 S T C M d Q Fin K0) (j : Nat) {n a b c pc : Nat} {ls : eL} {st : List Value} {h : eH} {kc ks : Nat} {H : Heap} {locs : List Loc} {lsA : Array Slot} (hd : decode (mBy M) pc = .ok ((.iload j), eLen pc (.iload j) n)) (hn : n = pc + eLen pc (.iload j) n) (hi : eIns M pc (.iload j) a b c = true) (hlk : eLink T M (pc, (.iload j), n, a, b, c)) (hR : eRH D dA base b0 h H) (hSS : va_S (fun q => base ≤ q) s.heap H locs) (hl : lv_has lsA (mLo M) (eLs base b0 ls)) (hstep : okI S T C M d Q (.iload j) n a b c pc ls st h kc ks K0) : W p l e R s m args below meth c0 H locs kc ks Fin (F0 m pc lsA (st.map (eV base b0))) := by
  have cx0 := cx
  obtain ⟨hK0, hx, hb, hml, hown, hG, hE, hOK, hCl, hCa, hinit, hRf, hRl, hd1, hRc, hRs, htab, hC, hdC, hfin, hout, hthr⟩ := cx0
  have hOK0 := hOK
  obtain ⟨hOKc, hOKl, hOKh⟩ := hOK0
  have hE0 := hE
  obtain ⟨hNG, hStr, hZ1, hZ2, hAO, hK, hAr, hX, hbb, hbs, hNc⟩ := hE0
  have hA : ∀ q : Nat, s.heap.size ≤ q → base ≤ q := va_SA hbs
  have hts : ∀ w ∈ lw_tbl.filter goodWord, w.before args s = true := fun w hw => hG w ⟨(List.mem_filter.mp hw).1, (List.mem_filter.mp hw).2⟩
  have hKy : ∀ t, t ≤ 4 → va_K D vwCl [(dA t, eTyA t)] s := fun t ht => ⟨hK.1, fun k q hq => by
    match k, hq with
    | 0, hq => cases hq; exact hAr t ht
    | k + 1, hq => simp at hq⟩
  have hP1 : ∀ {k : Nat} {o : va_E}, h.2[k]? = some o → va_P D vwCl [(base + k, eZ dA base b0 o)] H := fun {k o} hk j q hq => by
    match j, hq with
    | 0, hq => cases hq; exact hR.1 k o hk
    | j + 1, hq => simp at hq
  have hstep : pLd 1 ls a (fun v => K0 n ls (v :: st) h kc ks) := hstep
  have hd : decode (mBy M) pc = .ok (.iload j, 2) := hd
  have hn : n = pc + 2 := hn
  subst hn
  obtain ⟨v, h1, h2, hk⟩ := pLd_s hstep
  obtain ⟨k9, rfl⟩ := eIsA_1 h2
  have hj : j = a := eq_of_beq (show (j == a) = true from hi)
  subst hj
  exact lv_iload hx hb hd (lkp_has hl h1) (hK0 _ _ _ _ _ _ hk H locs lsA hR hSS hl)
set_option maxHeartbeats 4000000 in
set_option maxRecDepth 100000 in
theorem ei_lload (cx : eCx p l e R s m args below meth c0 D dA base b0 S T C M d Q Fin K0) (j : Nat) {n a b c pc : Nat} {ls : eL} {st : List Value} {h : eH} {kc ks : Nat} {H : Heap} {locs : List Loc} {lsA : Array Slot} (hd : decode (mBy M) pc = .ok ((.lload j), eLen pc (.lload j) n)) (hn : n = pc + eLen pc (.lload j) n) (hi : eIns M pc (.lload j) a b c = true) (hlk : eLink T M (pc, (.lload j), n, a, b, c)) (hR : eRH D dA base b0 h H) (hSS : va_S (fun q => base ≤ q) s.heap H locs) (hl : lv_has lsA (mLo M) (eLs base b0 ls)) (hstep : okI S T C M d Q (.lload j) n a b c pc ls st h kc ks K0) : W p l e R s m args below meth c0 H locs kc ks Fin (F0 m pc lsA (st.map (eV base b0))) := by
  have cx0 := cx
  obtain ⟨hK0, hx, hb, hml, hown, hG, hE, hOK, hCl, hCa, hinit, hRf, hRl, hd1, hRc, hRs, htab, hC, hdC, hfin, hout, hthr⟩ := cx0
  have hOK0 := hOK
  obtain ⟨hOKc, hOKl, hOKh⟩ := hOK0
  have hE0 := hE
  obtain ⟨hNG, hStr, hZ1, hZ2, hAO, hK, hAr, hX, hbb, hbs, hNc⟩ := hE0
  have hA : ∀ q : Nat, s.heap.size ≤ q → base ≤ q := va_SA hbs
  have hts : ∀ w ∈ lw_tbl.filter goodWord, w.before args s = true := fun w hw => hG w ⟨(List.mem_filter.mp hw).1, (List.mem_filter.mp hw).2⟩
  have hKy : ∀ t, t ≤ 4 → va_K D vwCl [(dA t, eTyA t)] s := fun t ht => ⟨hK.1, fun k q hq => by
    match k, hq with
    | 0, hq => cases hq; exact hAr t ht
    | k + 1, hq => simp at hq⟩
  have hP1 : ∀ {k : Nat} {o : va_E}, h.2[k]? = some o → va_P D vwCl [(base + k, eZ dA base b0 o)] H := fun {k o} hk j q hq => by
    match j, hq with
    | 0, hq => cases hq; exact hR.1 k o hk
    | j + 1, hq => simp at hq
  have hstep : pLd 2 ls a (fun v => K0 n ls (v :: st) h kc ks) := hstep
  have hd : decode (mBy M) pc = .ok (.lload j, 2) := hd
  have hn : n = pc + 2 := hn
  subst hn
  obtain ⟨v, h1, h2, hk⟩ := pLd_s hstep
  obtain ⟨k9, rfl⟩ := eIsA_2 h2
  have hj : j = a := eq_of_beq (show (j == a) = true from hi)
  subst hj
  exact lv_lload hx hb hd (lkp_has hl h1) (hK0 _ _ _ _ _ _ hk H locs lsA hR hSS hl)
set_option maxHeartbeats 4000000 in
set_option maxRecDepth 100000 in
theorem ei_fload (cx : eCx p l e R s m args below meth c0 D dA base b0 S T C M d Q Fin K0) (j : Nat) {n a b c pc : Nat} {ls : eL} {st : List Value} {h : eH} {kc ks : Nat} {H : Heap} {locs : List Loc} {lsA : Array Slot} (hd : decode (mBy M) pc = .ok ((.fload j), eLen pc (.fload j) n)) (hn : n = pc + eLen pc (.fload j) n) (hi : eIns M pc (.fload j) a b c = true) (hlk : eLink T M (pc, (.fload j), n, a, b, c)) (hR : eRH D dA base b0 h H) (hSS : va_S (fun q => base ≤ q) s.heap H locs) (hl : lv_has lsA (mLo M) (eLs base b0 ls)) (hstep : okI S T C M d Q (.fload j) n a b c pc ls st h kc ks K0) : W p l e R s m args below meth c0 H locs kc ks Fin (F0 m pc lsA (st.map (eV base b0))) := by
  have cx0 := cx
  obtain ⟨hK0, hx, hb, hml, hown, hG, hE, hOK, hCl, hCa, hinit, hRf, hRl, hd1, hRc, hRs, htab, hC, hdC, hfin, hout, hthr⟩ := cx0
  have hOK0 := hOK
  obtain ⟨hOKc, hOKl, hOKh⟩ := hOK0
  have hE0 := hE
  obtain ⟨hNG, hStr, hZ1, hZ2, hAO, hK, hAr, hX, hbb, hbs, hNc⟩ := hE0
  have hA : ∀ q : Nat, s.heap.size ≤ q → base ≤ q := va_SA hbs
  have hts : ∀ w ∈ lw_tbl.filter goodWord, w.before args s = true := fun w hw => hG w ⟨(List.mem_filter.mp hw).1, (List.mem_filter.mp hw).2⟩
  have hKy : ∀ t, t ≤ 4 → va_K D vwCl [(dA t, eTyA t)] s := fun t ht => ⟨hK.1, fun k q hq => by
    match k, hq with
    | 0, hq => cases hq; exact hAr t ht
    | k + 1, hq => simp at hq⟩
  have hP1 : ∀ {k : Nat} {o : va_E}, h.2[k]? = some o → va_P D vwCl [(base + k, eZ dA base b0 o)] H := fun {k o} hk j q hq => by
    match j, hq with
    | 0, hq => cases hq; exact hR.1 k o hk
    | j + 1, hq => simp at hq
  have hstep : pLd 3 ls a (fun v => K0 n ls (v :: st) h kc ks) := hstep
  have hd : decode (mBy M) pc = .ok (.fload j, 2) := hd
  have hn : n = pc + 2 := hn
  subst hn
  obtain ⟨v, h1, h2, hk⟩ := pLd_s hstep
  obtain ⟨k9, rfl⟩ := eIsA_3 h2
  have hj : j = a := eq_of_beq (show (j == a) = true from hi)
  subst hj
  exact lv_fload hx hb hd (lkp_has hl h1) (hK0 _ _ _ _ _ _ hk H locs lsA hR hSS hl)
set_option maxHeartbeats 4000000 in
set_option maxRecDepth 100000 in
theorem ei_dload (cx : eCx p l e R s m args below meth c0 D dA base b0 S T C M d Q Fin K0) (j : Nat) {n a b c pc : Nat} {ls : eL} {st : List Value} {h : eH} {kc ks : Nat} {H : Heap} {locs : List Loc} {lsA : Array Slot} (hd : decode (mBy M) pc = .ok ((.dload j), eLen pc (.dload j) n)) (hn : n = pc + eLen pc (.dload j) n) (hi : eIns M pc (.dload j) a b c = true) (hlk : eLink T M (pc, (.dload j), n, a, b, c)) (hR : eRH D dA base b0 h H) (hSS : va_S (fun q => base ≤ q) s.heap H locs) (hl : lv_has lsA (mLo M) (eLs base b0 ls)) (hstep : okI S T C M d Q (.dload j) n a b c pc ls st h kc ks K0) : W p l e R s m args below meth c0 H locs kc ks Fin (F0 m pc lsA (st.map (eV base b0))) := by
  have cx0 := cx
  obtain ⟨hK0, hx, hb, hml, hown, hG, hE, hOK, hCl, hCa, hinit, hRf, hRl, hd1, hRc, hRs, htab, hC, hdC, hfin, hout, hthr⟩ := cx0
  have hOK0 := hOK
  obtain ⟨hOKc, hOKl, hOKh⟩ := hOK0
  have hE0 := hE
  obtain ⟨hNG, hStr, hZ1, hZ2, hAO, hK, hAr, hX, hbb, hbs, hNc⟩ := hE0
  have hA : ∀ q : Nat, s.heap.size ≤ q → base ≤ q := va_SA hbs
  have hts : ∀ w ∈ lw_tbl.filter goodWord, w.before args s = true := fun w hw => hG w ⟨(List.mem_filter.mp hw).1, (List.mem_filter.mp hw).2⟩
  have hKy : ∀ t, t ≤ 4 → va_K D vwCl [(dA t, eTyA t)] s := fun t ht => ⟨hK.1, fun k q hq => by
    match k, hq with
    | 0, hq => cases hq; exact hAr t ht
    | k + 1, hq => simp at hq⟩
  have hP1 : ∀ {k : Nat} {o : va_E}, h.2[k]? = some o → va_P D vwCl [(base + k, eZ dA base b0 o)] H := fun {k o} hk j q hq => by
    match j, hq with
    | 0, hq => cases hq; exact hR.1 k o hk
    | j + 1, hq => simp at hq
  have hstep : pLd 4 ls a (fun v => K0 n ls (v :: st) h kc ks) := hstep
  have hd : decode (mBy M) pc = .ok (.dload j, 2) := hd
  have hn : n = pc + 2 := hn
  subst hn
  obtain ⟨v, h1, h2, hk⟩ := pLd_s hstep
  obtain ⟨k9, rfl⟩ := eIsA_4 h2
  have hj : j = a := eq_of_beq (show (j == a) = true from hi)
  subst hj
  exact lv_dload hx hb hd (lkp_has hl h1) (hK0 _ _ _ _ _ _ hk H locs lsA hR hSS hl)
set_option maxHeartbeats 4000000 in
set_option maxRecDepth 100000 in
theorem ei_astore_n (cx : eCx p l e R s m args below meth c0 D dA base b0 S T C M d Q Fin K0) (j : _root_.Fin 4) {n a b c pc : Nat} {ls : eL} {st : List Value} {h : eH} {kc ks : Nat} {H : Heap} {locs : List Loc} {lsA : Array Slot} (hd : decode (mBy M) pc = .ok ((.astore_n j), eLen pc (.astore_n j) n)) (hn : n = pc + eLen pc (.astore_n j) n) (hi : eIns M pc (.astore_n j) a b c = true) (hlk : eLink T M (pc, (.astore_n j), n, a, b, c)) (hR : eRH D dA base b0 h H) (hSS : va_S (fun q => base ≤ q) s.heap H locs) (hl : lv_has lsA (mLo M) (eLs base b0 ls)) (hstep : okI S T C M d Q (.astore_n j) n a b c pc ls st h kc ks K0) : W p l e R s m args below meth c0 H locs kc ks Fin (F0 m pc lsA (st.map (eV base b0))) := by
  have cx0 := cx
  obtain ⟨hK0, hx, hb, hml, hown, hG, hE, hOK, hCl, hCa, hinit, hRf, hRl, hd1, hRc, hRs, htab, hC, hdC, hfin, hout, hthr⟩ := cx0
  have hOK0 := hOK
  obtain ⟨hOKc, hOKl, hOKh⟩ := hOK0
  have hE0 := hE
  obtain ⟨hNG, hStr, hZ1, hZ2, hAO, hK, hAr, hX, hbb, hbs, hNc⟩ := hE0
  have hA : ∀ q : Nat, s.heap.size ≤ q → base ≤ q := va_SA hbs
  have hts : ∀ w ∈ lw_tbl.filter goodWord, w.before args s = true := fun w hw => hG w ⟨(List.mem_filter.mp hw).1, (List.mem_filter.mp hw).2⟩
  have hKy : ∀ t, t ≤ 4 → va_K D vwCl [(dA t, eTyA t)] s := fun t ht => ⟨hK.1, fun k q hq => by
    match k, hq with
    | 0, hq => cases hq; exact hAr t ht
    | k + 1, hq => simp at hq⟩
  have hP1 : ∀ {k : Nat} {o : va_E}, h.2[k]? = some o → va_P D vwCl [(base + k, eZ dA base b0 o)] H := fun {k o} hk j q hq => by
    match j, hq with
    | 0, hq => cases hq; exact hR.1 k o hk
    | j + 1, hq => simp at hq
  have hstep : pSt1 0 st a ls (fun l' r => K0 n l' r h kc ks) := hstep
  have hd : decode (mBy M) pc = .ok (.astore_n j, 1) := hd
  have hn : n = pc + 1 := hn
  subst hn
  obtain ⟨v, r, rfl, h2, hk⟩ := pSt1_s hstep
  obtain ⟨k9, rfl⟩ := eIsA_0 h2
  have hi : (j.val == a && Nat.blt a (mLo M)) = true := hi
  simp only [Bool.and_eq_true, beq_iff_eq] at hi
  exact lv_astore_n hx hb hd hi.1 hl (Nat.le_of_ble_eq_true hi.2) (eFil1_map base b0 a (.ref k9) ls) (fun ls' hl' => hK0 _ _ _ _ _ _ hk H locs ls' hR hSS hl')
set_option maxHeartbeats 4000000 in
set_option maxRecDepth 100000 in
theorem ei_istore_n (cx : eCx p l e R s m args below meth c0 D dA base b0 S T C M d Q Fin K0) (j : _root_.Fin 4) {n a b c pc : Nat} {ls : eL} {st : List Value} {h : eH} {kc ks : Nat} {H : Heap} {locs : List Loc} {lsA : Array Slot} (hd : decode (mBy M) pc = .ok ((.istore_n j), eLen pc (.istore_n j) n)) (hn : n = pc + eLen pc (.istore_n j) n) (hi : eIns M pc (.istore_n j) a b c = true) (hlk : eLink T M (pc, (.istore_n j), n, a, b, c)) (hR : eRH D dA base b0 h H) (hSS : va_S (fun q => base ≤ q) s.heap H locs) (hl : lv_has lsA (mLo M) (eLs base b0 ls)) (hstep : okI S T C M d Q (.istore_n j) n a b c pc ls st h kc ks K0) : W p l e R s m args below meth c0 H locs kc ks Fin (F0 m pc lsA (st.map (eV base b0))) := by
  have cx0 := cx
  obtain ⟨hK0, hx, hb, hml, hown, hG, hE, hOK, hCl, hCa, hinit, hRf, hRl, hd1, hRc, hRs, htab, hC, hdC, hfin, hout, hthr⟩ := cx0
  have hOK0 := hOK
  obtain ⟨hOKc, hOKl, hOKh⟩ := hOK0
  have hE0 := hE
  obtain ⟨hNG, hStr, hZ1, hZ2, hAO, hK, hAr, hX, hbb, hbs, hNc⟩ := hE0
  have hA : ∀ q : Nat, s.heap.size ≤ q → base ≤ q := va_SA hbs
  have hts : ∀ w ∈ lw_tbl.filter goodWord, w.before args s = true := fun w hw => hG w ⟨(List.mem_filter.mp hw).1, (List.mem_filter.mp hw).2⟩
  have hKy : ∀ t, t ≤ 4 → va_K D vwCl [(dA t, eTyA t)] s := fun t ht => ⟨hK.1, fun k q hq => by
    match k, hq with
    | 0, hq => cases hq; exact hAr t ht
    | k + 1, hq => simp at hq⟩
  have hP1 : ∀ {k : Nat} {o : va_E}, h.2[k]? = some o → va_P D vwCl [(base + k, eZ dA base b0 o)] H := fun {k o} hk j q hq => by
    match j, hq with
    | 0, hq => cases hq; exact hR.1 k o hk
    | j + 1, hq => simp at hq
  have hstep : pSt1 1 st a ls (fun l' r => K0 n l' r h kc ks) := hstep
  have hd : decode (mBy M) pc = .ok (.istore_n j, 1) := hd
  have hn : n = pc + 1 := hn
  subst hn
  obtain ⟨v, r, rfl, h2, hk⟩ := pSt1_s hstep
  obtain ⟨k9, rfl⟩ := eIsA_1 h2
  have hi : (j.val == a && Nat.blt a (mLo M)) = true := hi
  simp only [Bool.and_eq_true, beq_iff_eq] at hi
  exact lv_istore_n hx hb hd hi.1 hl (Nat.le_of_ble_eq_true hi.2) (eFil1_map base b0 a (.int k9) ls) (fun ls' hl' => hK0 _ _ _ _ _ _ hk H locs ls' hR hSS hl')
set_option maxHeartbeats 4000000 in
set_option maxRecDepth 100000 in
theorem ei_astore (cx : eCx p l e R s m args below meth c0 D dA base b0 S T C M d Q Fin K0) (j : Nat) {n a b c pc : Nat} {ls : eL} {st : List Value} {h : eH} {kc ks : Nat} {H : Heap} {locs : List Loc} {lsA : Array Slot} (hd : decode (mBy M) pc = .ok ((.astore j), eLen pc (.astore j) n)) (hn : n = pc + eLen pc (.astore j) n) (hi : eIns M pc (.astore j) a b c = true) (hlk : eLink T M (pc, (.astore j), n, a, b, c)) (hR : eRH D dA base b0 h H) (hSS : va_S (fun q => base ≤ q) s.heap H locs) (hl : lv_has lsA (mLo M) (eLs base b0 ls)) (hstep : okI S T C M d Q (.astore j) n a b c pc ls st h kc ks K0) : W p l e R s m args below meth c0 H locs kc ks Fin (F0 m pc lsA (st.map (eV base b0))) := by
  have cx0 := cx
  obtain ⟨hK0, hx, hb, hml, hown, hG, hE, hOK, hCl, hCa, hinit, hRf, hRl, hd1, hRc, hRs, htab, hC, hdC, hfin, hout, hthr⟩ := cx0
  have hOK0 := hOK
  obtain ⟨hOKc, hOKl, hOKh⟩ := hOK0
  have hE0 := hE
  obtain ⟨hNG, hStr, hZ1, hZ2, hAO, hK, hAr, hX, hbb, hbs, hNc⟩ := hE0
  have hA : ∀ q : Nat, s.heap.size ≤ q → base ≤ q := va_SA hbs
  have hts : ∀ w ∈ lw_tbl.filter goodWord, w.before args s = true := fun w hw => hG w ⟨(List.mem_filter.mp hw).1, (List.mem_filter.mp hw).2⟩
  have hKy : ∀ t, t ≤ 4 → va_K D vwCl [(dA t, eTyA t)] s := fun t ht => ⟨hK.1, fun k q hq => by
    match k, hq with
    | 0, hq => cases hq; exact hAr t ht
    | k + 1, hq => simp at hq⟩
  have hP1 : ∀ {k : Nat} {o : va_E}, h.2[k]? = some o → va_P D vwCl [(base + k, eZ dA base b0 o)] H := fun {k o} hk j q hq => by
    match j, hq with
    | 0, hq => cases hq; exact hR.1 k o hk
    | j + 1, hq => simp at hq
  have hstep : pSt1 0 st a ls (fun l' r => K0 n l' r h kc ks) := hstep
  have hd : decode (mBy M) pc = .ok (.astore j, 2) := hd
  have hn : n = pc + 2 := hn
  subst hn
  obtain ⟨v, r, rfl, h2, hk⟩ := pSt1_s hstep
  obtain ⟨k9, rfl⟩ := eIsA_0 h2
  have hi : (j == a && Nat.blt a (mLo M)) = true := hi
  simp only [Bool.and_eq_true, beq_iff_eq] at hi
  obtain ⟨rfl, hi2⟩ := hi
  exact lv_astore hx hb hd hl (Nat.le_of_ble_eq_true hi2) (eFil1_map base b0 j (.ref k9) ls) (fun ls' hl' => hK0 _ _ _ _ _ _ hk H locs ls' hR hSS hl')
set_option maxHeartbeats 4000000 in
set_option maxRecDepth 100000 in
theorem ei_istore (cx : eCx p l e R s m args below meth c0 D dA base b0 S T C M d Q Fin K0) (j : Nat) {n a b c pc : Nat} {ls : eL} {st : List Value} {h : eH} {kc ks : Nat} {H : Heap} {locs : List Loc} {lsA : Array Slot} (hd : decode (mBy M) pc = .ok ((.istore j), eLen pc (.istore j) n)) (hn : n = pc + eLen pc (.istore j) n) (hi : eIns M pc (.istore j) a b c = true) (hlk : eLink T M (pc, (.istore j), n, a, b, c)) (hR : eRH D dA base b0 h H) (hSS : va_S (fun q => base ≤ q) s.heap H locs) (hl : lv_has lsA (mLo M) (eLs base b0 ls)) (hstep : okI S T C M d Q (.istore j) n a b c pc ls st h kc ks K0) : W p l e R s m args below meth c0 H locs kc ks Fin (F0 m pc lsA (st.map (eV base b0))) := by
  have cx0 := cx
  obtain ⟨hK0, hx, hb, hml, hown, hG, hE, hOK, hCl, hCa, hinit, hRf, hRl, hd1, hRc, hRs, htab, hC, hdC, hfin, hout, hthr⟩ := cx0
  have hOK0 := hOK
  obtain ⟨hOKc, hOKl, hOKh⟩ := hOK0
  have hE0 := hE
  obtain ⟨hNG, hStr, hZ1, hZ2, hAO, hK, hAr, hX, hbb, hbs, hNc⟩ := hE0
  have hA : ∀ q : Nat, s.heap.size ≤ q → base ≤ q := va_SA hbs
  have hts : ∀ w ∈ lw_tbl.filter goodWord, w.before args s = true := fun w hw => hG w ⟨(List.mem_filter.mp hw).1, (List.mem_filter.mp hw).2⟩
  have hKy : ∀ t, t ≤ 4 → va_K D vwCl [(dA t, eTyA t)] s := fun t ht => ⟨hK.1, fun k q hq => by
    match k, hq with
    | 0, hq => cases hq; exact hAr t ht
    | k + 1, hq => simp at hq⟩
  have hP1 : ∀ {k : Nat} {o : va_E}, h.2[k]? = some o → va_P D vwCl [(base + k, eZ dA base b0 o)] H := fun {k o} hk j q hq => by
    match j, hq with
    | 0, hq => cases hq; exact hR.1 k o hk
    | j + 1, hq => simp at hq
  have hstep : pSt1 1 st a ls (fun l' r => K0 n l' r h kc ks) := hstep
  have hd : decode (mBy M) pc = .ok (.istore j, 2) := hd
  have hn : n = pc + 2 := hn
  subst hn
  obtain ⟨v, r, rfl, h2, hk⟩ := pSt1_s hstep
  obtain ⟨k9, rfl⟩ := eIsA_1 h2
  have hi : (j == a && Nat.blt a (mLo M)) = true := hi
  simp only [Bool.and_eq_true, beq_iff_eq] at hi
  obtain ⟨rfl, hi2⟩ := hi
  exact lv_istore hx hb hd hl (Nat.le_of_ble_eq_true hi2) (eFil1_map base b0 j (.int k9) ls) (fun ls' hl' => hK0 _ _ _ _ _ _ hk H locs ls' hR hSS hl')
set_option maxHeartbeats 4000000 in
set_option maxRecDepth 100000 in
theorem ei_fstore (cx : eCx p l e R s m args below meth c0 D dA base b0 S T C M d Q Fin K0) (j : Nat) {n a b c pc : Nat} {ls : eL} {st : List Value} {h : eH} {kc ks : Nat} {H : Heap} {locs : List Loc} {lsA : Array Slot} (hd : decode (mBy M) pc = .ok ((.fstore j), eLen pc (.fstore j) n)) (hn : n = pc + eLen pc (.fstore j) n) (hi : eIns M pc (.fstore j) a b c = true) (hlk : eLink T M (pc, (.fstore j), n, a, b, c)) (hR : eRH D dA base b0 h H) (hSS : va_S (fun q => base ≤ q) s.heap H locs) (hl : lv_has lsA (mLo M) (eLs base b0 ls)) (hstep : okI S T C M d Q (.fstore j) n a b c pc ls st h kc ks K0) : W p l e R s m args below meth c0 H locs kc ks Fin (F0 m pc lsA (st.map (eV base b0))) := by
  have cx0 := cx
  obtain ⟨hK0, hx, hb, hml, hown, hG, hE, hOK, hCl, hCa, hinit, hRf, hRl, hd1, hRc, hRs, htab, hC, hdC, hfin, hout, hthr⟩ := cx0
  have hOK0 := hOK
  obtain ⟨hOKc, hOKl, hOKh⟩ := hOK0
  have hE0 := hE
  obtain ⟨hNG, hStr, hZ1, hZ2, hAO, hK, hAr, hX, hbb, hbs, hNc⟩ := hE0
  have hA : ∀ q : Nat, s.heap.size ≤ q → base ≤ q := va_SA hbs
  have hts : ∀ w ∈ lw_tbl.filter goodWord, w.before args s = true := fun w hw => hG w ⟨(List.mem_filter.mp hw).1, (List.mem_filter.mp hw).2⟩
  have hKy : ∀ t, t ≤ 4 → va_K D vwCl [(dA t, eTyA t)] s := fun t ht => ⟨hK.1, fun k q hq => by
    match k, hq with
    | 0, hq => cases hq; exact hAr t ht
    | k + 1, hq => simp at hq⟩
  have hP1 : ∀ {k : Nat} {o : va_E}, h.2[k]? = some o → va_P D vwCl [(base + k, eZ dA base b0 o)] H := fun {k o} hk j q hq => by
    match j, hq with
    | 0, hq => cases hq; exact hR.1 k o hk
    | j + 1, hq => simp at hq
  have hstep : pSt1 3 st a ls (fun l' r => K0 n l' r h kc ks) := hstep
  have hd : decode (mBy M) pc = .ok (.fstore j, 2) := hd
  have hn : n = pc + 2 := hn
  subst hn
  obtain ⟨v, r, rfl, h2, hk⟩ := pSt1_s hstep
  obtain ⟨k9, rfl⟩ := eIsA_3 h2
  have hi : (j == a && Nat.blt a (mLo M)) = true := hi
  simp only [Bool.and_eq_true, beq_iff_eq] at hi
  obtain ⟨rfl, hi2⟩ := hi
  exact lv_fstore hx hb hd hl (Nat.le_of_ble_eq_true hi2) (eFil1_map base b0 j (.float k9) ls) (fun ls' hl' => hK0 _ _ _ _ _ _ hk H locs ls' hR hSS hl')
set_option maxHeartbeats 4000000 in
set_option maxRecDepth 100000 in
theorem ei_lstore_n (cx : eCx p l e R s m args below meth c0 D dA base b0 S T C M d Q Fin K0) (j : _root_.Fin 4) {n a b c pc : Nat} {ls : eL} {st : List Value} {h : eH} {kc ks : Nat} {H : Heap} {locs : List Loc} {lsA : Array Slot} (hd : decode (mBy M) pc = .ok ((.lstore_n j), eLen pc (.lstore_n j) n)) (hn : n = pc + eLen pc (.lstore_n j) n) (hi : eIns M pc (.lstore_n j) a b c = true) (hlk : eLink T M (pc, (.lstore_n j), n, a, b, c)) (hR : eRH D dA base b0 h H) (hSS : va_S (fun q => base ≤ q) s.heap H locs) (hl : lv_has lsA (mLo M) (eLs base b0 ls)) (hstep : okI S T C M d Q (.lstore_n j) n a b c pc ls st h kc ks K0) : W p l e R s m args below meth c0 H locs kc ks Fin (F0 m pc lsA (st.map (eV base b0))) := by
  have cx0 := cx
  obtain ⟨hK0, hx, hb, hml, hown, hG, hE, hOK, hCl, hCa, hinit, hRf, hRl, hd1, hRc, hRs, htab, hC, hdC, hfin, hout, hthr⟩ := cx0
  have hOK0 := hOK
  obtain ⟨hOKc, hOKl, hOKh⟩ := hOK0
  have hE0 := hE
  obtain ⟨hNG, hStr, hZ1, hZ2, hAO, hK, hAr, hX, hbb, hbs, hNc⟩ := hE0
  have hA : ∀ q : Nat, s.heap.size ≤ q → base ≤ q := va_SA hbs
  have hts : ∀ w ∈ lw_tbl.filter goodWord, w.before args s = true := fun w hw => hG w ⟨(List.mem_filter.mp hw).1, (List.mem_filter.mp hw).2⟩
  have hKy : ∀ t, t ≤ 4 → va_K D vwCl [(dA t, eTyA t)] s := fun t ht => ⟨hK.1, fun k q hq => by
    match k, hq with
    | 0, hq => cases hq; exact hAr t ht
    | k + 1, hq => simp at hq⟩
  have hP1 : ∀ {k : Nat} {o : va_E}, h.2[k]? = some o → va_P D vwCl [(base + k, eZ dA base b0 o)] H := fun {k o} hk j q hq => by
    match j, hq with
    | 0, hq => cases hq; exact hR.1 k o hk
    | j + 1, hq => simp at hq
  have hstep : pSt2 2 st a ls (fun l' r => K0 n l' r h kc ks) := hstep
  have hd : decode (mBy M) pc = .ok (.lstore_n j, 1) := hd
  have hn : n = pc + 1 := hn
  subst hn
  obtain ⟨v, r, rfl, h2, hk⟩ := pSt2_s hstep
  obtain ⟨k9, rfl⟩ := eIsA_2 h2
  have hi : (j.val == a && Nat.blt (a + 1) (mLo M)) = true := hi
  simp only [Bool.and_eq_true, beq_iff_eq] at hi
  exact lv_lstore_n hx hb hd hi.1 hl (Nat.le_of_ble_eq_true hi.2) (eFil2_map base b0 a (.long k9) ls) (fun ls' hl' => hK0 _ _ _ _ _ _ hk H locs ls' hR hSS hl')
set_option maxHeartbeats 4000000 in
set_option maxRecDepth 100000 in
theorem ei_lstore (cx : eCx p l e R s m args below meth c0 D dA base b0 S T C M d Q Fin K0) (j : Nat) {n a b c pc : Nat} {ls : eL} {st : List Value} {h : eH} {kc ks : Nat} {H : Heap} {locs : List Loc} {lsA : Array Slot} (hd : decode (mBy M) pc = .ok ((.lstore j), eLen pc (.lstore j) n)) (hn : n = pc + eLen pc (.lstore j) n) (hi : eIns M pc (.lstore j) a b c = true) (hlk : eLink T M (pc, (.lstore j), n, a, b, c)) (hR : eRH D dA base b0 h H) (hSS : va_S (fun q => base ≤ q) s.heap H locs) (hl : lv_has lsA (mLo M) (eLs base b0 ls)) (hstep : okI S T C M d Q (.lstore j) n a b c pc ls st h kc ks K0) : W p l e R s m args below meth c0 H locs kc ks Fin (F0 m pc lsA (st.map (eV base b0))) := by
  have cx0 := cx
  obtain ⟨hK0, hx, hb, hml, hown, hG, hE, hOK, hCl, hCa, hinit, hRf, hRl, hd1, hRc, hRs, htab, hC, hdC, hfin, hout, hthr⟩ := cx0
  have hOK0 := hOK
  obtain ⟨hOKc, hOKl, hOKh⟩ := hOK0
  have hE0 := hE
  obtain ⟨hNG, hStr, hZ1, hZ2, hAO, hK, hAr, hX, hbb, hbs, hNc⟩ := hE0
  have hA : ∀ q : Nat, s.heap.size ≤ q → base ≤ q := va_SA hbs
  have hts : ∀ w ∈ lw_tbl.filter goodWord, w.before args s = true := fun w hw => hG w ⟨(List.mem_filter.mp hw).1, (List.mem_filter.mp hw).2⟩
  have hKy : ∀ t, t ≤ 4 → va_K D vwCl [(dA t, eTyA t)] s := fun t ht => ⟨hK.1, fun k q hq => by
    match k, hq with
    | 0, hq => cases hq; exact hAr t ht
    | k + 1, hq => simp at hq⟩
  have hP1 : ∀ {k : Nat} {o : va_E}, h.2[k]? = some o → va_P D vwCl [(base + k, eZ dA base b0 o)] H := fun {k o} hk j q hq => by
    match j, hq with
    | 0, hq => cases hq; exact hR.1 k o hk
    | j + 1, hq => simp at hq
  have hstep : pSt2 2 st a ls (fun l' r => K0 n l' r h kc ks) := hstep
  have hd : decode (mBy M) pc = .ok (.lstore j, 2) := hd
  have hn : n = pc + 2 := hn
  subst hn
  obtain ⟨v, r, rfl, h2, hk⟩ := pSt2_s hstep
  obtain ⟨k9, rfl⟩ := eIsA_2 h2
  have hi : (j == a && Nat.blt (a + 1) (mLo M)) = true := hi
  simp only [Bool.and_eq_true, beq_iff_eq] at hi
  obtain ⟨rfl, hi2⟩ := hi
  exact lv_lstore hx hb hd hl (Nat.le_of_ble_eq_true hi2) (eFil2_map base b0 j (.long k9) ls) (fun ls' hl' => hK0 _ _ _ _ _ _ hk H locs ls' hR hSS hl')
set_option maxHeartbeats 4000000 in
set_option maxRecDepth 100000 in
theorem ei_dstore (cx : eCx p l e R s m args below meth c0 D dA base b0 S T C M d Q Fin K0) (j : Nat) {n a b c pc : Nat} {ls : eL} {st : List Value} {h : eH} {kc ks : Nat} {H : Heap} {locs : List Loc} {lsA : Array Slot} (hd : decode (mBy M) pc = .ok ((.dstore j), eLen pc (.dstore j) n)) (hn : n = pc + eLen pc (.dstore j) n) (hi : eIns M pc (.dstore j) a b c = true) (hlk : eLink T M (pc, (.dstore j), n, a, b, c)) (hR : eRH D dA base b0 h H) (hSS : va_S (fun q => base ≤ q) s.heap H locs) (hl : lv_has lsA (mLo M) (eLs base b0 ls)) (hstep : okI S T C M d Q (.dstore j) n a b c pc ls st h kc ks K0) : W p l e R s m args below meth c0 H locs kc ks Fin (F0 m pc lsA (st.map (eV base b0))) := by
  have cx0 := cx
  obtain ⟨hK0, hx, hb, hml, hown, hG, hE, hOK, hCl, hCa, hinit, hRf, hRl, hd1, hRc, hRs, htab, hC, hdC, hfin, hout, hthr⟩ := cx0
  have hOK0 := hOK
  obtain ⟨hOKc, hOKl, hOKh⟩ := hOK0
  have hE0 := hE
  obtain ⟨hNG, hStr, hZ1, hZ2, hAO, hK, hAr, hX, hbb, hbs, hNc⟩ := hE0
  have hA : ∀ q : Nat, s.heap.size ≤ q → base ≤ q := va_SA hbs
  have hts : ∀ w ∈ lw_tbl.filter goodWord, w.before args s = true := fun w hw => hG w ⟨(List.mem_filter.mp hw).1, (List.mem_filter.mp hw).2⟩
  have hKy : ∀ t, t ≤ 4 → va_K D vwCl [(dA t, eTyA t)] s := fun t ht => ⟨hK.1, fun k q hq => by
    match k, hq with
    | 0, hq => cases hq; exact hAr t ht
    | k + 1, hq => simp at hq⟩
  have hP1 : ∀ {k : Nat} {o : va_E}, h.2[k]? = some o → va_P D vwCl [(base + k, eZ dA base b0 o)] H := fun {k o} hk j q hq => by
    match j, hq with
    | 0, hq => cases hq; exact hR.1 k o hk
    | j + 1, hq => simp at hq
  have hstep : pSt2 4 st a ls (fun l' r => K0 n l' r h kc ks) := hstep
  have hd : decode (mBy M) pc = .ok (.dstore j, 2) := hd
  have hn : n = pc + 2 := hn
  subst hn
  obtain ⟨v, r, rfl, h2, hk⟩ := pSt2_s hstep
  obtain ⟨k9, rfl⟩ := eIsA_4 h2
  have hi : (j == a && Nat.blt (a + 1) (mLo M)) = true := hi
  simp only [Bool.and_eq_true, beq_iff_eq] at hi
  obtain ⟨rfl, hi2⟩ := hi
  exact lv_dstore hx hb hd hl (Nat.le_of_ble_eq_true hi2) (eFil2_map base b0 j (.double k9) ls) (fun ls' hl' => hK0 _ _ _ _ _ _ hk H locs ls' hR hSS hl')
set_option maxHeartbeats 4000000 in
set_option maxRecDepth 100000 in
theorem ei_iinc (cx : eCx p l e R s m args below meth c0 D dA base b0 S T C M d Q Fin K0) (j : Nat) (v9 : Int) {n a b c pc : Nat} {ls : eL} {st : List Value} {h : eH} {kc ks : Nat} {H : Heap} {locs : List Loc} {lsA : Array Slot} (hd : decode (mBy M) pc = .ok ((.iinc j v9), eLen pc (.iinc j v9) n)) (hn : n = pc + eLen pc (.iinc j v9) n) (hi : eIns M pc (.iinc j v9) a b c = true) (hlk : eLink T M (pc, (.iinc j v9), n, a, b, c)) (hR : eRH D dA base b0 h H) (hSS : va_S (fun q => base ≤ q) s.heap H locs) (hl : lv_has lsA (mLo M) (eLs base b0 ls)) (hstep : okI S T C M d Q (.iinc j v9) n a b c pc ls st h kc ks K0) : W p l e R s m args below meth c0 H locs kc ks Fin (F0 m pc lsA (st.map (eV base b0))) := by
  have cx0 := cx
  obtain ⟨hK0, hx, hb, hml, hown, hG, hE, hOK, hCl, hCa, hinit, hRf, hRl, hd1, hRc, hRs, htab, hC, hdC, hfin, hout, hthr⟩ := cx0
  have hOK0 := hOK
  obtain ⟨hOKc, hOKl, hOKh⟩ := hOK0
  have hE0 := hE
  obtain ⟨hNG, hStr, hZ1, hZ2, hAO, hK, hAr, hX, hbb, hbs, hNc⟩ := hE0
  have hA : ∀ q : Nat, s.heap.size ≤ q → base ≤ q := va_SA hbs
  have hts : ∀ w ∈ lw_tbl.filter goodWord, w.before args s = true := fun w hw => hG w ⟨(List.mem_filter.mp hw).1, (List.mem_filter.mp hw).2⟩
  have hKy : ∀ t, t ≤ 4 → va_K D vwCl [(dA t, eTyA t)] s := fun t ht => ⟨hK.1, fun k q hq => by
    match k, hq with
    | 0, hq => cases hq; exact hAr t ht
    | k + 1, hq => simp at hq⟩
  have hP1 : ∀ {k : Nat} {o : va_E}, h.2[k]? = some o → va_P D vwCl [(base + k, eZ dA base b0 o)] H := fun {k o} hk j q hq => by
    match j, hq with
    | 0, hq => cases hq; exact hR.1 k o hk
    | j + 1, hq => simp at hq
  have hstep : pLd 1 ls a (fun v => match v with | .int x => eFil1 a ls (fun l' => K0 n ((a, .int (bif c == 1 then x - nI b else x + nI b)) :: l') st h kc ks) | _ => False) := hstep
  have hd : decode (mBy M) pc = .ok (.iinc j v9, 3) := hd
  have hn : n = pc + 3 := hn
  subst hn
  obtain ⟨v, h1, h2, hk⟩ := pLd_s hstep
  obtain ⟨k9, rfl⟩ := eIsA_1 h2
  have hi : (j == a && Nat.blt a (mLo M) && (bif c == 1 then decide (Int32.ofInt v9 = - nI b) else decide (Int32.ofInt v9 = nI b))) = true := hi
  simp only [Bool.and_eq_true, beq_iff_eq] at hi
  obtain ⟨⟨rfl, hi2⟩, hi3⟩ := hi
  obtain ⟨k7, hk7⟩ := List.mem_iff_getElem?.mp (List.mem_map.mpr ⟨(j, Value.int k9), lkp_mem h1, rfl⟩ : (j, Value.int k9) ∈ eLs base b0 ls)
  have hv : k9 + Int32.ofInt v9 = (bif c == 1 then k9 - nI b else k9 + nI b) := by
    cases hc : (c == 1) with
    | true => rw [hc] at hi3; have h9 : Int32.ofInt v9 = - nI b := of_decide_eq_true hi3; rw [h9]; show k9 + -nI b = k9 - nI b; rw [Int32.sub_eq_add_neg]
    | false => rw [hc] at hi3; have h9 : Int32.ofInt v9 = nI b := of_decide_eq_true hi3; rw [h9]; rfl
  exact lv_iinc hx hb hd hl hk7 hv (Nat.le_of_ble_eq_true hi2) (eFil1_map base b0 j (.int _) ls) (fun ls' hl' => hK0 _ _ _ _ _ _ (eFil1_spec hk) H locs ls' hR hSS hl')
set_option maxHeartbeats 4000000 in
set_option maxRecDepth 100000 in
theorem ei_iconst (cx : eCx p l e R s m args below meth c0 D dA base b0 S T C M d Q Fin K0) (v9 : Int) {n a b c pc : Nat} {ls : eL} {st : List Value} {h : eH} {kc ks : Nat} {H : Heap} {locs : List Loc} {lsA : Array Slot} (hd : decode (mBy M) pc = .ok ((.iconst v9), eLen pc (.iconst v9) n)) (hn : n = pc + eLen pc (.iconst v9) n) (hi : eIns M pc (.iconst v9) a b c = true) (hlk : eLink T M (pc, (.iconst v9), n, a, b, c)) (hR : eRH D dA base b0 h H) (hSS : va_S (fun q => base ≤ q) s.heap H locs) (hl : lv_has lsA (mLo M) (eLs base b0 ls)) (hstep : okI S T C M d Q (.iconst v9) n a b c pc ls st h kc ks K0) : W p l e R s m args below meth c0 H locs kc ks Fin (F0 m pc lsA (st.map (eV base b0))) := by
  have cx0 := cx
  obtain ⟨hK0, hx, hb, hml, hown, hG, hE, hOK, hCl, hCa, hinit, hRf, hRl, hd1, hRc, hRs, htab, hC, hdC, hfin, hout, hthr⟩ := cx0
  have hOK0 := hOK
  obtain ⟨hOKc, hOKl, hOKh⟩ := hOK0
  have hE0 := hE
  obtain ⟨hNG, hStr, hZ1, hZ2, hAO, hK, hAr, hX, hbb, hbs, hNc⟩ := hE0
  have hA : ∀ q : Nat, s.heap.size ≤ q → base ≤ q := va_SA hbs
  have hts : ∀ w ∈ lw_tbl.filter goodWord, w.before args s = true := fun w hw => hG w ⟨(List.mem_filter.mp hw).1, (List.mem_filter.mp hw).2⟩
  have hKy : ∀ t, t ≤ 4 → va_K D vwCl [(dA t, eTyA t)] s := fun t ht => ⟨hK.1, fun k q hq => by
    match k, hq with
    | 0, hq => cases hq; exact hAr t ht
    | k + 1, hq => simp at hq⟩
  have hP1 : ∀ {k : Nat} {o : va_E}, h.2[k]? = some o → va_P D vwCl [(base + k, eZ dA base b0 o)] H := fun {k o} hk j q hq => by
    match j, hq with
    | 0, hq => cases hq; exact hR.1 k o hk
    | j + 1, hq => simp at hq
  have hstep : bif b == 1 then K0 n ls (.int (-1) :: st) h kc ks else K0 n ls (.int (nI a) :: st) h kc ks := hstep
  have hd : decode (mBy M) pc = .ok (.iconst v9, 1) := hd
  have hn : n = pc + 1 := hn
  subst hn
  have hi : (bif b == 1 then decide (Int32.ofInt v9 = -1) else decide (Int32.ofInt v9 = nI a)) = true := hi
  have hstep : (bif b == 1 then K0 (pc + 1) ls (.int (-1) :: st) h kc ks else K0 (pc + 1) ls (.int (nI a) :: st) h kc ks) := hstep
  cases hc : (b == 1) with
  | true => rw [hc] at hi hstep; exact lv_iconst hx hb hd (of_decide_eq_true hi) (hK0 _ _ _ _ _ _ hstep H locs lsA hR hSS hl)
  | false => rw [hc] at hi hstep; exact lv_iconst hx hb hd (of_decide_eq_true hi) (hK0 _ _ _ _ _ _ hstep H locs lsA hR hSS hl)
set_option maxHeartbeats 4000000 in
set_option maxRecDepth 100000 in
theorem ei_bipush (cx : eCx p l e R s m args below meth c0 D dA base b0 S T C M d Q Fin K0) (v9 : Int) {n a b c pc : Nat} {ls : eL} {st : List Value} {h : eH} {kc ks : Nat} {H : Heap} {locs : List Loc} {lsA : Array Slot} (hd : decode (mBy M) pc = .ok ((.bipush v9), eLen pc (.bipush v9) n)) (hn : n = pc + eLen pc (.bipush v9) n) (hi : eIns M pc (.bipush v9) a b c = true) (hlk : eLink T M (pc, (.bipush v9), n, a, b, c)) (hR : eRH D dA base b0 h H) (hSS : va_S (fun q => base ≤ q) s.heap H locs) (hl : lv_has lsA (mLo M) (eLs base b0 ls)) (hstep : okI S T C M d Q (.bipush v9) n a b c pc ls st h kc ks K0) : W p l e R s m args below meth c0 H locs kc ks Fin (F0 m pc lsA (st.map (eV base b0))) := by
  have cx0 := cx
  obtain ⟨hK0, hx, hb, hml, hown, hG, hE, hOK, hCl, hCa, hinit, hRf, hRl, hd1, hRc, hRs, htab, hC, hdC, hfin, hout, hthr⟩ := cx0
  have hOK0 := hOK
  obtain ⟨hOKc, hOKl, hOKh⟩ := hOK0
  have hE0 := hE
  obtain ⟨hNG, hStr, hZ1, hZ2, hAO, hK, hAr, hX, hbb, hbs, hNc⟩ := hE0
  have hA : ∀ q : Nat, s.heap.size ≤ q → base ≤ q := va_SA hbs
  have hts : ∀ w ∈ lw_tbl.filter goodWord, w.before args s = true := fun w hw => hG w ⟨(List.mem_filter.mp hw).1, (List.mem_filter.mp hw).2⟩
  have hKy : ∀ t, t ≤ 4 → va_K D vwCl [(dA t, eTyA t)] s := fun t ht => ⟨hK.1, fun k q hq => by
    match k, hq with
    | 0, hq => cases hq; exact hAr t ht
    | k + 1, hq => simp at hq⟩
  have hP1 : ∀ {k : Nat} {o : va_E}, h.2[k]? = some o → va_P D vwCl [(base + k, eZ dA base b0 o)] H := fun {k o} hk j q hq => by
    match j, hq with
    | 0, hq => cases hq; exact hR.1 k o hk
    | j + 1, hq => simp at hq
  have hstep : K0 n ls (.int (nI a) :: st) h kc ks := hstep
  have hd : decode (mBy M) pc = .ok (.bipush v9, 2) := hd
  have hn : n = pc + 2 := hn
  subst hn
  have hstep : K0 (pc + 2) ls (.int (nI a) :: st) h kc ks := hstep
  exact lv_bipush hx hb hd (of_decide_eq_true hi) (hK0 _ _ _ _ _ _ hstep H locs lsA hR hSS hl)
set_option maxHeartbeats 4000000 in
set_option maxRecDepth 100000 in
theorem ei_sipush (cx : eCx p l e R s m args below meth c0 D dA base b0 S T C M d Q Fin K0) (v9 : Int) {n a b c pc : Nat} {ls : eL} {st : List Value} {h : eH} {kc ks : Nat} {H : Heap} {locs : List Loc} {lsA : Array Slot} (hd : decode (mBy M) pc = .ok ((.sipush v9), eLen pc (.sipush v9) n)) (hn : n = pc + eLen pc (.sipush v9) n) (hi : eIns M pc (.sipush v9) a b c = true) (hlk : eLink T M (pc, (.sipush v9), n, a, b, c)) (hR : eRH D dA base b0 h H) (hSS : va_S (fun q => base ≤ q) s.heap H locs) (hl : lv_has lsA (mLo M) (eLs base b0 ls)) (hstep : okI S T C M d Q (.sipush v9) n a b c pc ls st h kc ks K0) : W p l e R s m args below meth c0 H locs kc ks Fin (F0 m pc lsA (st.map (eV base b0))) := by
  have cx0 := cx
  obtain ⟨hK0, hx, hb, hml, hown, hG, hE, hOK, hCl, hCa, hinit, hRf, hRl, hd1, hRc, hRs, htab, hC, hdC, hfin, hout, hthr⟩ := cx0
  have hOK0 := hOK
  obtain ⟨hOKc, hOKl, hOKh⟩ := hOK0
  have hE0 := hE
  obtain ⟨hNG, hStr, hZ1, hZ2, hAO, hK, hAr, hX, hbb, hbs, hNc⟩ := hE0
  have hA : ∀ q : Nat, s.heap.size ≤ q → base ≤ q := va_SA hbs
  have hts : ∀ w ∈ lw_tbl.filter goodWord, w.before args s = true := fun w hw => hG w ⟨(List.mem_filter.mp hw).1, (List.mem_filter.mp hw).2⟩
  have hKy : ∀ t, t ≤ 4 → va_K D vwCl [(dA t, eTyA t)] s := fun t ht => ⟨hK.1, fun k q hq => by
    match k, hq with
    | 0, hq => cases hq; exact hAr t ht
    | k + 1, hq => simp at hq⟩
  have hP1 : ∀ {k : Nat} {o : va_E}, h.2[k]? = some o → va_P D vwCl [(base + k, eZ dA base b0 o)] H := fun {k o} hk j q hq => by
    match j, hq with
    | 0, hq => cases hq; exact hR.1 k o hk
    | j + 1, hq => simp at hq
  have hstep : K0 n ls (.int (nI a) :: st) h kc ks := hstep
  have hd : decode (mBy M) pc = .ok (.sipush v9, 3) := hd
  have hn : n = pc + 3 := hn
  subst hn
  have hstep : K0 (pc + 3) ls (.int (nI a) :: st) h kc ks := hstep
  exact lv_sipush hx hb hd (of_decide_eq_true hi) (hK0 _ _ _ _ _ _ hstep H locs lsA hR hSS hl)
set_option maxHeartbeats 4000000 in
set_option maxRecDepth 100000 in
theorem ei_ldc (cx : eCx p l e R s m args below meth c0 D dA base b0 S T C M d Q Fin K0) (x9 : Nat) {n a b c pc : Nat} {ls : eL} {st : List Value} {h : eH} {kc ks : Nat} {H : Heap} {locs : List Loc} {lsA : Array Slot} (hd : decode (mBy M) pc = .ok ((.ldc x9), eLen pc (.ldc x9) n)) (hn : n = pc + eLen pc (.ldc x9) n) (hi : eIns M pc (.ldc x9) a b c = true) (hlk : eLink T M (pc, (.ldc x9), n, a, b, c)) (hR : eRH D dA base b0 h H) (hSS : va_S (fun q => base ≤ q) s.heap H locs) (hl : lv_has lsA (mLo M) (eLs base b0 ls)) (hstep : okI S T C M d Q (.ldc x9) n a b c pc ls st h kc ks K0) : W p l e R s m args below meth c0 H locs kc ks Fin (F0 m pc lsA (st.map (eV base b0))) := by
  have cx0 := cx
  obtain ⟨hK0, hx, hb, hml, hown, hG, hE, hOK, hCl, hCa, hinit, hRf, hRl, hd1, hRc, hRs, htab, hC, hdC, hfin, hout, hthr⟩ := cx0
  have hOK0 := hOK
  obtain ⟨hOKc, hOKl, hOKh⟩ := hOK0
  have hE0 := hE
  obtain ⟨hNG, hStr, hZ1, hZ2, hAO, hK, hAr, hX, hbb, hbs, hNc⟩ := hE0
  have hA : ∀ q : Nat, s.heap.size ≤ q → base ≤ q := va_SA hbs
  have hts : ∀ w ∈ lw_tbl.filter goodWord, w.before args s = true := fun w hw => hG w ⟨(List.mem_filter.mp hw).1, (List.mem_filter.mp hw).2⟩
  have hKy : ∀ t, t ≤ 4 → va_K D vwCl [(dA t, eTyA t)] s := fun t ht => ⟨hK.1, fun k q hq => by
    match k, hq with
    | 0, hq => cases hq; exact hAr t ht
    | k + 1, hq => simp at hq⟩
  have hP1 : ∀ {k : Nat} {o : va_E}, h.2[k]? = some o → va_P D vwCl [(base + k, eZ dA base b0 o)] H := fun {k o} hk j q hq => by
    match j, hq with
    | 0, hq => cases hq; exact hR.1 k o hk
    | j + 1, hq => simp at hq
  have hstep : K0 n ls (.int (nI a) :: st) h kc ks := hstep
  have hd : decode (mBy M) pc = .ok (.ldc x9, 2) := hd
  have hn : n = pc + 2 := hn
  subst hn
  have hstep : K0 (pc + 2) ls (.int (nI a) :: st) h kc ks := hstep
  exact lv_ldc hx hb hown (hG _ hlk) hd (hK0 _ _ _ _ _ _ hstep H locs lsA hR hSS hl)
set_option maxHeartbeats 4000000 in
set_option maxRecDepth 100000 in
theorem ei_ldc_w (cx : eCx p l e R s m args below meth c0 D dA base b0 S T C M d Q Fin K0) (x9 : Nat) {n a b c pc : Nat} {ls : eL} {st : List Value} {h : eH} {kc ks : Nat} {H : Heap} {locs : List Loc} {lsA : Array Slot} (hd : decode (mBy M) pc = .ok ((.ldc_w x9), eLen pc (.ldc_w x9) n)) (hn : n = pc + eLen pc (.ldc_w x9) n) (hi : eIns M pc (.ldc_w x9) a b c = true) (hlk : eLink T M (pc, (.ldc_w x9), n, a, b, c)) (hR : eRH D dA base b0 h H) (hSS : va_S (fun q => base ≤ q) s.heap H locs) (hl : lv_has lsA (mLo M) (eLs base b0 ls)) (hstep : okI S T C M d Q (.ldc_w x9) n a b c pc ls st h kc ks K0) : W p l e R s m args below meth c0 H locs kc ks Fin (F0 m pc lsA (st.map (eV base b0))) := by
  have cx0 := cx
  obtain ⟨hK0, hx, hb, hml, hown, hG, hE, hOK, hCl, hCa, hinit, hRf, hRl, hd1, hRc, hRs, htab, hC, hdC, hfin, hout, hthr⟩ := cx0
  have hOK0 := hOK
  obtain ⟨hOKc, hOKl, hOKh⟩ := hOK0
  have hE0 := hE
  obtain ⟨hNG, hStr, hZ1, hZ2, hAO, hK, hAr, hX, hbb, hbs, hNc⟩ := hE0
  have hA : ∀ q : Nat, s.heap.size ≤ q → base ≤ q := va_SA hbs
  have hts : ∀ w ∈ lw_tbl.filter goodWord, w.before args s = true := fun w hw => hG w ⟨(List.mem_filter.mp hw).1, (List.mem_filter.mp hw).2⟩
  have hKy : ∀ t, t ≤ 4 → va_K D vwCl [(dA t, eTyA t)] s := fun t ht => ⟨hK.1, fun k q hq => by
    match k, hq with
    | 0, hq => cases hq; exact hAr t ht
    | k + 1, hq => simp at hq⟩
  have hP1 : ∀ {k : Nat} {o : va_E}, h.2[k]? = some o → va_P D vwCl [(base + k, eZ dA base b0 o)] H := fun {k o} hk j q hq => by
    match j, hq with
    | 0, hq => cases hq; exact hR.1 k o hk
    | j + 1, hq => simp at hq
  have hstep : K0 n ls (.int (nI a) :: st) h kc ks := hstep
  have hd : decode (mBy M) pc = .ok (.ldc_w x9, 3) := hd
  have hn : n = pc + 3 := hn
  subst hn
  have hstep : K0 (pc + 3) ls (.int (nI a) :: st) h kc ks := hstep
  exact lv_ldcw hx hb hown (hG _ hlk) hd (hK0 _ _ _ _ _ _ hstep H locs lsA hR hSS hl)
set_option maxHeartbeats 4000000 in
set_option maxRecDepth 100000 in
theorem ei_lconst (cx : eCx p l e R s m args below meth c0 D dA base b0 S T C M d Q Fin K0) (v9 : _root_.Fin 2) {n a b c pc : Nat} {ls : eL} {st : List Value} {h : eH} {kc ks : Nat} {H : Heap} {locs : List Loc} {lsA : Array Slot} (hd : decode (mBy M) pc = .ok ((.lconst v9), eLen pc (.lconst v9) n)) (hn : n = pc + eLen pc (.lconst v9) n) (hi : eIns M pc (.lconst v9) a b c = true) (hlk : eLink T M (pc, (.lconst v9), n, a, b, c)) (hR : eRH D dA base b0 h H) (hSS : va_S (fun q => base ≤ q) s.heap H locs) (hl : lv_has lsA (mLo M) (eLs base b0 ls)) (hstep : okI S T C M d Q (.lconst v9) n a b c pc ls st h kc ks K0) : W p l e R s m args below meth c0 H locs kc ks Fin (F0 m pc lsA (st.map (eV base b0))) := by
  have cx0 := cx
  obtain ⟨hK0, hx, hb, hml, hown, hG, hE, hOK, hCl, hCa, hinit, hRf, hRl, hd1, hRc, hRs, htab, hC, hdC, hfin, hout, hthr⟩ := cx0
  have hOK0 := hOK
  obtain ⟨hOKc, hOKl, hOKh⟩ := hOK0
  have hE0 := hE
  obtain ⟨hNG, hStr, hZ1, hZ2, hAO, hK, hAr, hX, hbb, hbs, hNc⟩ := hE0
  have hA : ∀ q : Nat, s.heap.size ≤ q → base ≤ q := va_SA hbs
  have hts : ∀ w ∈ lw_tbl.filter goodWord, w.before args s = true := fun w hw => hG w ⟨(List.mem_filter.mp hw).1, (List.mem_filter.mp hw).2⟩
  have hKy : ∀ t, t ≤ 4 → va_K D vwCl [(dA t, eTyA t)] s := fun t ht => ⟨hK.1, fun k q hq => by
    match k, hq with
    | 0, hq => cases hq; exact hAr t ht
    | k + 1, hq => simp at hq⟩
  have hP1 : ∀ {k : Nat} {o : va_E}, h.2[k]? = some o → va_P D vwCl [(base + k, eZ dA base b0 o)] H := fun {k o} hk j q hq => by
    match j, hq with
    | 0, hq => cases hq; exact hR.1 k o hk
    | j + 1, hq => simp at hq
  have hstep : K0 n ls (.long (lN a) :: st) h kc ks := hstep
  have hd : decode (mBy M) pc = .ok (.lconst v9, 1) := hd
  have hn : n = pc + 1 := hn
  subst hn
  have hstep : K0 (pc + 1) ls (.long (lN a) :: st) h kc ks := hstep
  exact lv_lconst hx hb hd (of_decide_eq_true hi) (hK0 _ _ _ _ _ _ hstep H locs lsA hR hSS hl)
set_option maxHeartbeats 4000000 in
set_option maxRecDepth 100000 in
theorem ei_ldc2_w (cx : eCx p l e R s m args below meth c0 D dA base b0 S T C M d Q Fin K0) (x9 : Nat) {n a b c pc : Nat} {ls : eL} {st : List Value} {h : eH} {kc ks : Nat} {H : Heap} {locs : List Loc} {lsA : Array Slot} (hd : decode (mBy M) pc = .ok ((.ldc2_w x9), eLen pc (.ldc2_w x9) n)) (hn : n = pc + eLen pc (.ldc2_w x9) n) (hi : eIns M pc (.ldc2_w x9) a b c = true) (hlk : eLink T M (pc, (.ldc2_w x9), n, a, b, c)) (hR : eRH D dA base b0 h H) (hSS : va_S (fun q => base ≤ q) s.heap H locs) (hl : lv_has lsA (mLo M) (eLs base b0 ls)) (hstep : okI S T C M d Q (.ldc2_w x9) n a b c pc ls st h kc ks K0) : W p l e R s m args below meth c0 H locs kc ks Fin (F0 m pc lsA (st.map (eV base b0))) := by
  have cx0 := cx
  obtain ⟨hK0, hx, hb, hml, hown, hG, hE, hOK, hCl, hCa, hinit, hRf, hRl, hd1, hRc, hRs, htab, hC, hdC, hfin, hout, hthr⟩ := cx0
  have hOK0 := hOK
  obtain ⟨hOKc, hOKl, hOKh⟩ := hOK0
  have hE0 := hE
  obtain ⟨hNG, hStr, hZ1, hZ2, hAO, hK, hAr, hX, hbb, hbs, hNc⟩ := hE0
  have hA : ∀ q : Nat, s.heap.size ≤ q → base ≤ q := va_SA hbs
  have hts : ∀ w ∈ lw_tbl.filter goodWord, w.before args s = true := fun w hw => hG w ⟨(List.mem_filter.mp hw).1, (List.mem_filter.mp hw).2⟩
  have hKy : ∀ t, t ≤ 4 → va_K D vwCl [(dA t, eTyA t)] s := fun t ht => ⟨hK.1, fun k q hq => by
    match k, hq with
    | 0, hq => cases hq; exact hAr t ht
    | k + 1, hq => simp at hq⟩
  have hP1 : ∀ {k : Nat} {o : va_E}, h.2[k]? = some o → va_P D vwCl [(base + k, eZ dA base b0 o)] H := fun {k o} hk j q hq => by
    match j, hq with
    | 0, hq => cases hq; exact hR.1 k o hk
    | j + 1, hq => simp at hq
  have hstep : bif b == 1 then K0 n ls (.long (-1) :: st) h kc ks else K0 n ls (.long (lN a) :: st) h kc ks := hstep
  have hd : decode (mBy M) pc = .ok (.ldc2_w x9, 3) := hd
  have hn : n = pc + 3 := hn
  subst hn
  have hlk : if b = 1 then eW (.constantLong (mNm M).cls x9 (-1)) else eW (.constantLong (mNm M).cls x9 (lN a)) := hlk
  have hstep : (bif b == 1 then K0 (pc + 3) ls (.long (-1) :: st) h kc ks else K0 (pc + 3) ls (.long (lN a) :: st) h kc ks) := hstep
  cases hc : (b == 1) with
  | true => rw [hc] at hstep; rw [if_pos (eq_of_beq hc)] at hlk; exact lv_ldc2 hx hb hown (hG _ hlk) hd (hK0 _ _ _ _ _ _ hstep H locs lsA hR hSS hl)
  | false => rw [hc] at hstep; rw [if_neg (fun h9 => by simp [h9] at hc)] at hlk; exact lv_ldc2 hx hb hown (hG _ hlk) hd (hK0 _ _ _ _ _ _ hstep H locs lsA hR hSS hl)
set_option maxHeartbeats 4000000 in
set_option maxRecDepth 100000 in
theorem ei_fconst (cx : eCx p l e R s m args below meth c0 D dA base b0 S T C M d Q Fin K0) (v9 : _root_.Fin 3) {n a b c pc : Nat} {ls : eL} {st : List Value} {h : eH} {kc ks : Nat} {H : Heap} {locs : List Loc} {lsA : Array Slot} (hd : decode (mBy M) pc = .ok ((.fconst v9), eLen pc (.fconst v9) n)) (hn : n = pc + eLen pc (.fconst v9) n) (hi : eIns M pc (.fconst v9) a b c = true) (hlk : eLink T M (pc, (.fconst v9), n, a, b, c)) (hR : eRH D dA base b0 h H) (hSS : va_S (fun q => base ≤ q) s.heap H locs) (hl : lv_has lsA (mLo M) (eLs base b0 ls)) (hstep : okI S T C M d Q (.fconst v9) n a b c pc ls st h kc ks K0) : W p l e R s m args below meth c0 H locs kc ks Fin (F0 m pc lsA (st.map (eV base b0))) := by
  have cx0 := cx
  obtain ⟨hK0, hx, hb, hml, hown, hG, hE, hOK, hCl, hCa, hinit, hRf, hRl, hd1, hRc, hRs, htab, hC, hdC, hfin, hout, hthr⟩ := cx0
  have hOK0 := hOK
  obtain ⟨hOKc, hOKl, hOKh⟩ := hOK0
  have hE0 := hE
  obtain ⟨hNG, hStr, hZ1, hZ2, hAO, hK, hAr, hX, hbb, hbs, hNc⟩ := hE0
  have hA : ∀ q : Nat, s.heap.size ≤ q → base ≤ q := va_SA hbs
  have hts : ∀ w ∈ lw_tbl.filter goodWord, w.before args s = true := fun w hw => hG w ⟨(List.mem_filter.mp hw).1, (List.mem_filter.mp hw).2⟩
  have hKy : ∀ t, t ≤ 4 → va_K D vwCl [(dA t, eTyA t)] s := fun t ht => ⟨hK.1, fun k q hq => by
    match k, hq with
    | 0, hq => cases hq; exact hAr t ht
    | k + 1, hq => simp at hq⟩
  have hP1 : ∀ {k : Nat} {o : va_E}, h.2[k]? = some o → va_P D vwCl [(base + k, eZ dA base b0 o)] H := fun {k o} hk j q hq => by
    match j, hq with
    | 0, hq => cases hq; exact hR.1 k o hk
    | j + 1, hq => simp at hq
  have hstep : bif a == 0 then K0 n ls (.float FP.fconst0 :: st) h kc ks else False := hstep
  have hv9 : v9 = 0 := of_decide_eq_true hi
  subst hv9
  have hd : decode (mBy M) pc = .ok (.fconst 0, 1) := hd
  have hn : n = pc + 1 := hn
  subst hn
  obtain ⟨-, hk⟩ := bif_s hstep
  exact lv_fconst0 hx hb hd (hK0 _ _ _ _ _ _ hk H locs lsA hR hSS hl)
set_option maxHeartbeats 4000000 in
set_option maxRecDepth 100000 in
theorem ei_dconst (cx : eCx p l e R s m args below meth c0 D dA base b0 S T C M d Q Fin K0) (v9 : _root_.Fin 2) {n a b c pc : Nat} {ls : eL} {st : List Value} {h : eH} {kc ks : Nat} {H : Heap} {locs : List Loc} {lsA : Array Slot} (hd : decode (mBy M) pc = .ok ((.dconst v9), eLen pc (.dconst v9) n)) (hn : n = pc + eLen pc (.dconst v9) n) (hi : eIns M pc (.dconst v9) a b c = true) (hlk : eLink T M (pc, (.dconst v9), n, a, b, c)) (hR : eRH D dA base b0 h H) (hSS : va_S (fun q => base ≤ q) s.heap H locs) (hl : lv_has lsA (mLo M) (eLs base b0 ls)) (hstep : okI S T C M d Q (.dconst v9) n a b c pc ls st h kc ks K0) : W p l e R s m args below meth c0 H locs kc ks Fin (F0 m pc lsA (st.map (eV base b0))) := by
  have cx0 := cx
  obtain ⟨hK0, hx, hb, hml, hown, hG, hE, hOK, hCl, hCa, hinit, hRf, hRl, hd1, hRc, hRs, htab, hC, hdC, hfin, hout, hthr⟩ := cx0
  have hOK0 := hOK
  obtain ⟨hOKc, hOKl, hOKh⟩ := hOK0
  have hE0 := hE
  obtain ⟨hNG, hStr, hZ1, hZ2, hAO, hK, hAr, hX, hbb, hbs, hNc⟩ := hE0
  have hA : ∀ q : Nat, s.heap.size ≤ q → base ≤ q := va_SA hbs
  have hts : ∀ w ∈ lw_tbl.filter goodWord, w.before args s = true := fun w hw => hG w ⟨(List.mem_filter.mp hw).1, (List.mem_filter.mp hw).2⟩
  have hKy : ∀ t, t ≤ 4 → va_K D vwCl [(dA t, eTyA t)] s := fun t ht => ⟨hK.1, fun k q hq => by
    match k, hq with
    | 0, hq => cases hq; exact hAr t ht
    | k + 1, hq => simp at hq⟩
  have hP1 : ∀ {k : Nat} {o : va_E}, h.2[k]? = some o → va_P D vwCl [(base + k, eZ dA base b0 o)] H := fun {k o} hk j q hq => by
    match j, hq with
    | 0, hq => cases hq; exact hR.1 k o hk
    | j + 1, hq => simp at hq
  have hstep : bif a == 0 then K0 n ls (.double FP.dconst0 :: st) h kc ks else False := hstep
  have hv9 : v9 = 0 := of_decide_eq_true hi
  subst hv9
  have hd : decode (mBy M) pc = .ok (.dconst 0, 1) := hd
  have hn : n = pc + 1 := hn
  subst hn
  obtain ⟨-, hk⟩ := bif_s hstep
  exact lv_dconst0 hx hb hd (hK0 _ _ _ _ _ _ hk H locs lsA hR hSS hl)
set_option maxHeartbeats 4000000 in
set_option maxRecDepth 100000 in
theorem ei_iadd (cx : eCx p l e R s m args below meth c0 D dA base b0 S T C M d Q Fin K0)  {n a b c pc : Nat} {ls : eL} {st : List Value} {h : eH} {kc ks : Nat} {H : Heap} {locs : List Loc} {lsA : Array Slot} (hd : decode (mBy M) pc = .ok (.iadd, eLen pc .iadd n)) (hn : n = pc + eLen pc .iadd n) (hi : eIns M pc .iadd a b c = true) (hlk : eLink T M (pc, .iadd, n, a, b, c)) (hR : eRH D dA base b0 h H) (hSS : va_S (fun q => base ≤ q) s.heap H locs) (hl : lv_has lsA (mLo M) (eLs base b0 ls)) (hstep : okI S T C M d Q .iadd n a b c pc ls st h kc ks K0) : W p l e R s m args below meth c0 H locs kc ks Fin (F0 m pc lsA (st.map (eV base b0))) := by
  have cx0 := cx
  obtain ⟨hK0, hx, hb, hml, hown, hG, hE, hOK, hCl, hCa, hinit, hRf, hRl, hd1, hRc, hRs, htab, hC, hdC, hfin, hout, hthr⟩ := cx0
  have hOK0 := hOK
  obtain ⟨hOKc, hOKl, hOKh⟩ := hOK0
  have hE0 := hE
  obtain ⟨hNG, hStr, hZ1, hZ2, hAO, hK, hAr, hX, hbb, hbs, hNc⟩ := hE0
  have hA : ∀ q : Nat, s.heap.size ≤ q → base ≤ q := va_SA hbs
  have hts : ∀ w ∈ lw_tbl.filter goodWord, w.before args s = true := fun w hw => hG w ⟨(List.mem_filter.mp hw).1, (List.mem_filter.mp hw).2⟩
  have hKy : ∀ t, t ≤ 4 → va_K D vwCl [(dA t, eTyA t)] s := fun t ht => ⟨hK.1, fun k q hq => by
    match k, hq with
    | 0, hq => cases hq; exact hAr t ht
    | k + 1, hq => simp at hq⟩
  have hP1 : ∀ {k : Nat} {o : va_E}, h.2[k]? = some o → va_P D vwCl [(base + k, eZ dA base b0 o)] H := fun {k o} hk j q hq => by
    match j, hq with
    | 0, hq => cases hq; exact hR.1 k o hk
    | j + 1, hq => simp at hq
  have hstep : mI st (fun y r => mI r (fun x r => K0 n ls (.int (x + y) :: r) h kc ks)) := hstep
  have hd : decode (mBy M) pc = .ok (.iadd, 1) := hd
  have hn : n = pc + 1 := hn
  subst hn
  obtain ⟨y, r1, rfl, hs1⟩ := mI_s hstep
  obtain ⟨x, r, rfl, hk⟩ := mI_s hs1
  exact lv_iadd hx hb hd (hK0 _ _ _ _ _ _ hk H locs lsA hR hSS hl)
set_option maxHeartbeats 4000000 in
set_option maxRecDepth 100000 in
theorem ei_isub (cx : eCx p l e R s m args below meth c0 D dA base b0 S T C M d Q Fin K0)  {n a b c pc : Nat} {ls : eL} {st : List Value} {h : eH} {kc ks : Nat} {H : Heap} {locs : List Loc} {lsA : Array Slot} (hd : decode (mBy M) pc = .ok (.isub, eLen pc .isub n)) (hn : n = pc + eLen pc .isub n) (hi : eIns M pc .isub a b c = true) (hlk : eLink T M (pc, .isub, n, a, b, c)) (hR : eRH D dA base b0 h H) (hSS : va_S (fun q => base ≤ q) s.heap H locs) (hl : lv_has lsA (mLo M) (eLs base b0 ls)) (hstep : okI S T C M d Q .isub n a b c pc ls st h kc ks K0) : W p l e R s m args below meth c0 H locs kc ks Fin (F0 m pc lsA (st.map (eV base b0))) := by
  have cx0 := cx
  obtain ⟨hK0, hx, hb, hml, hown, hG, hE, hOK, hCl, hCa, hinit, hRf, hRl, hd1, hRc, hRs, htab, hC, hdC, hfin, hout, hthr⟩ := cx0
  have hOK0 := hOK
  obtain ⟨hOKc, hOKl, hOKh⟩ := hOK0
  have hE0 := hE
  obtain ⟨hNG, hStr, hZ1, hZ2, hAO, hK, hAr, hX, hbb, hbs, hNc⟩ := hE0
  have hA : ∀ q : Nat, s.heap.size ≤ q → base ≤ q := va_SA hbs
  have hts : ∀ w ∈ lw_tbl.filter goodWord, w.before args s = true := fun w hw => hG w ⟨(List.mem_filter.mp hw).1, (List.mem_filter.mp hw).2⟩
  have hKy : ∀ t, t ≤ 4 → va_K D vwCl [(dA t, eTyA t)] s := fun t ht => ⟨hK.1, fun k q hq => by
    match k, hq with
    | 0, hq => cases hq; exact hAr t ht
    | k + 1, hq => simp at hq⟩
  have hP1 : ∀ {k : Nat} {o : va_E}, h.2[k]? = some o → va_P D vwCl [(base + k, eZ dA base b0 o)] H := fun {k o} hk j q hq => by
    match j, hq with
    | 0, hq => cases hq; exact hR.1 k o hk
    | j + 1, hq => simp at hq
  have hstep : mI st (fun y r => mI r (fun x r => K0 n ls (.int (x - y) :: r) h kc ks)) := hstep
  have hd : decode (mBy M) pc = .ok (.isub, 1) := hd
  have hn : n = pc + 1 := hn
  subst hn
  obtain ⟨y, r1, rfl, hs1⟩ := mI_s hstep
  obtain ⟨x, r, rfl, hk⟩ := mI_s hs1
  exact lv_isub hx hb hd (hK0 _ _ _ _ _ _ hk H locs lsA hR hSS hl)
set_option maxHeartbeats 4000000 in
set_option maxRecDepth 100000 in
theorem ei_imul (cx : eCx p l e R s m args below meth c0 D dA base b0 S T C M d Q Fin K0)  {n a b c pc : Nat} {ls : eL} {st : List Value} {h : eH} {kc ks : Nat} {H : Heap} {locs : List Loc} {lsA : Array Slot} (hd : decode (mBy M) pc = .ok (.imul, eLen pc .imul n)) (hn : n = pc + eLen pc .imul n) (hi : eIns M pc .imul a b c = true) (hlk : eLink T M (pc, .imul, n, a, b, c)) (hR : eRH D dA base b0 h H) (hSS : va_S (fun q => base ≤ q) s.heap H locs) (hl : lv_has lsA (mLo M) (eLs base b0 ls)) (hstep : okI S T C M d Q .imul n a b c pc ls st h kc ks K0) : W p l e R s m args below meth c0 H locs kc ks Fin (F0 m pc lsA (st.map (eV base b0))) := by
  have cx0 := cx
  obtain ⟨hK0, hx, hb, hml, hown, hG, hE, hOK, hCl, hCa, hinit, hRf, hRl, hd1, hRc, hRs, htab, hC, hdC, hfin, hout, hthr⟩ := cx0
  have hOK0 := hOK
  obtain ⟨hOKc, hOKl, hOKh⟩ := hOK0
  have hE0 := hE
  obtain ⟨hNG, hStr, hZ1, hZ2, hAO, hK, hAr, hX, hbb, hbs, hNc⟩ := hE0
  have hA : ∀ q : Nat, s.heap.size ≤ q → base ≤ q := va_SA hbs
  have hts : ∀ w ∈ lw_tbl.filter goodWord, w.before args s = true := fun w hw => hG w ⟨(List.mem_filter.mp hw).1, (List.mem_filter.mp hw).2⟩
  have hKy : ∀ t, t ≤ 4 → va_K D vwCl [(dA t, eTyA t)] s := fun t ht => ⟨hK.1, fun k q hq => by
    match k, hq with
    | 0, hq => cases hq; exact hAr t ht
    | k + 1, hq => simp at hq⟩
  have hP1 : ∀ {k : Nat} {o : va_E}, h.2[k]? = some o → va_P D vwCl [(base + k, eZ dA base b0 o)] H := fun {k o} hk j q hq => by
    match j, hq with
    | 0, hq => cases hq; exact hR.1 k o hk
    | j + 1, hq => simp at hq
  have hstep : mI st (fun y r => mI r (fun x r => K0 n ls (.int (x * y) :: r) h kc ks)) := hstep
  have hd : decode (mBy M) pc = .ok (.imul, 1) := hd
  have hn : n = pc + 1 := hn
  subst hn
  obtain ⟨y, r1, rfl, hs1⟩ := mI_s hstep
  obtain ⟨x, r, rfl, hk⟩ := mI_s hs1
  exact lv_imul hx hb hd (hK0 _ _ _ _ _ _ hk H locs lsA hR hSS hl)
set_option maxHeartbeats 4000000 in
set_option maxRecDepth 100000 in
theorem ei_iand (cx : eCx p l e R s m args below meth c0 D dA base b0 S T C M d Q Fin K0)  {n a b c pc : Nat} {ls : eL} {st : List Value} {h : eH} {kc ks : Nat} {H : Heap} {locs : List Loc} {lsA : Array Slot} (hd : decode (mBy M) pc = .ok (.iand, eLen pc .iand n)) (hn : n = pc + eLen pc .iand n) (hi : eIns M pc .iand a b c = true) (hlk : eLink T M (pc, .iand, n, a, b, c)) (hR : eRH D dA base b0 h H) (hSS : va_S (fun q => base ≤ q) s.heap H locs) (hl : lv_has lsA (mLo M) (eLs base b0 ls)) (hstep : okI S T C M d Q .iand n a b c pc ls st h kc ks K0) : W p l e R s m args below meth c0 H locs kc ks Fin (F0 m pc lsA (st.map (eV base b0))) := by
  have cx0 := cx
  obtain ⟨hK0, hx, hb, hml, hown, hG, hE, hOK, hCl, hCa, hinit, hRf, hRl, hd1, hRc, hRs, htab, hC, hdC, hfin, hout, hthr⟩ := cx0
  have hOK0 := hOK
  obtain ⟨hOKc, hOKl, hOKh⟩ := hOK0
  have hE0 := hE
  obtain ⟨hNG, hStr, hZ1, hZ2, hAO, hK, hAr, hX, hbb, hbs, hNc⟩ := hE0
  have hA : ∀ q : Nat, s.heap.size ≤ q → base ≤ q := va_SA hbs
  have hts : ∀ w ∈ lw_tbl.filter goodWord, w.before args s = true := fun w hw => hG w ⟨(List.mem_filter.mp hw).1, (List.mem_filter.mp hw).2⟩
  have hKy : ∀ t, t ≤ 4 → va_K D vwCl [(dA t, eTyA t)] s := fun t ht => ⟨hK.1, fun k q hq => by
    match k, hq with
    | 0, hq => cases hq; exact hAr t ht
    | k + 1, hq => simp at hq⟩
  have hP1 : ∀ {k : Nat} {o : va_E}, h.2[k]? = some o → va_P D vwCl [(base + k, eZ dA base b0 o)] H := fun {k o} hk j q hq => by
    match j, hq with
    | 0, hq => cases hq; exact hR.1 k o hk
    | j + 1, hq => simp at hq
  have hstep : mI st (fun y r => mI r (fun x r => K0 n ls (.int (x &&& y) :: r) h kc ks)) := hstep
  have hd : decode (mBy M) pc = .ok (.iand, 1) := hd
  have hn : n = pc + 1 := hn
  subst hn
  obtain ⟨y, r1, rfl, hs1⟩ := mI_s hstep
  obtain ⟨x, r, rfl, hk⟩ := mI_s hs1
  exact lv_iand hx hb hd (hK0 _ _ _ _ _ _ hk H locs lsA hR hSS hl)
end InsA
