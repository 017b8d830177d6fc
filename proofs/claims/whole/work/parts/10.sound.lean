/-! THE ENGINE: what its calls promise, the machine keeps -/
theorem eSl_len (base b : Nat) : ∀ as : List Value, (lg_sl (as.map (eV base b))).length = eCat as
  | [] => rfl
  | v :: r => by
    have ih := eSl_len base b r
    cases v <;> simp_all [lg_sl, eV, eCat, Value.category] <;> omega
theorem eArgs_map (base b : Nat) : ∀ (i : Nat) (as : List Value), lv_args i (as.map (eV base b)) = eLs base b (lv_args i as)
  | _, [] => rfl
  | i, v :: r => by
    have hc := eV_cat base b v
    show (i, eV base b v) :: lv_args (if (eV base b v).category = 2 then i + 2 else i + 1) (r.map (eV base b)) = (i, eV base b v) :: eLs base b (lv_args (if v.category = 2 then i + 2 else i + 1) r)
    rw [hc, eArgs_map base b _ r]
theorem exFit : ∀ a : Nat, Bundle.fit (exN a) = true
  | 0 => by decide
  | 1 => by decide
  | 2 => by decide
  | _ + 3 => by show Bundle.fit "java/util/NoSuchElementException" = true; decide
theorem exS_fit : ∀ n ∈ exS, Bundle.fit n = true := by decide
theorem eX_ot {w : Cond} (h : eW w ∨ eX w) : vx_ot w = true := by
  unfold vx_ot
  rcases h with h | h
  · rw [h.2]; simp
  · rw [eNg_good h.2]; rfl
section Snd
variable {p : Program} {l : Launch} {e : Env} {s : State} {m : MethodId} {args : Array Value} {below : List Frame} {meth : Method} {c0 : Code}
variable {S : Nat × (Nat → Int32)} {T : Nat → eM} {d : Nat} {Q : eQ} {D : va_G} {dA : Nat → ClassId} {base b0 : Nat}
set_option maxHeartbeats 4000000 in
theorem e_body {m' : Nat} {as : List Value} {h : eH} (htr : l.stackTraces = false) (hOK : eMok T (T m')) (hCl : ∀ q ∈ vwCl, eCls q) (hCa : ∀ E, E ≤ 3 → eX (.castable (exN E) (exN E)))
    (hC : ∀ (m' : Nat) (as : List Value) (h : eH) (Q' : eQ), okCall S T d m' as h Q' → eMeth (T m') → eCon S T l D dA base b0 d m' as h Q')
    (hcall : okCall S T (d + 1) m' as h Q)
    (hx : p.tables.exec = Jvm.exec) (hb : c0.code = mBy (T m')) (hml : c0.maxLocals = mLo (T m')) (hrt : meth.sig.returnType = mRt (T m')) (hown : s.vm.findClass (mNm (T m')).cls = some m.cls) (hG : ∀ w, eW w → w.before args s = true) (hE : eEV S D dA base b0 s) (hRH : eRH D dA base b0 h s.heap) (hargs : args = (as.map (eV base b0)).toArray) (hinit : meth.name = (mNm (T m')).name) (hlocks : meth.locks = false) (htab : c0.exceptionTable.toList = tableOf (mHh (T m'))) :
    W p l e { frames := d + 1, cells := (mCo (T m')).1, slots := (mCo (T m')).2, locals := 31 * (d + 1) } s m args below meth c0 s.heap [] 0 0 (vx_MQ below
    (fun _ st o t => ∃ (v : Option Value) (h' : eH), o = .returned (v.map (eV base b0)) ∧ Q (.inl v) h' ∧ eRH D dA base b0 h' t.heap ∧ va_F (fun q => base ≤ q) st t)
    (fun E st t => ∃ (n : Nat) (h' : eH), n ≤ 3 ∧ E = exN n ∧ Q (.inr n) h' ∧ eRH D dA base b0 h' t.heap ∧ va_F (fun q => base ≤ q) st t)
    args s (mCo (T m')).1 (mCo (T m')).2 (fun q => base ≤ q)) (entryFrame m args (mLo (T m'))) := by
  obtain ⟨hfit, hok⟩ := hcall
  subst hargs
  rw [lg_entry_eq]
  have hE0 := hE
  obtain ⟨hNG, hStr, hZ1, hZ2, hAO, hK, hAr, hX, hbb, hbs, hNc⟩ := hE0
  refine hok (eSim p l e { frames := d + 1, cells := (mCo (T m')).1, slots := (mCo (T m')).2, locals := 31 * (d + 1) } s m (as.map (eV base b0)).toArray below meth c0 D dA base b0 (mLo (T m')) _) (e_close (C := okCall S T d) (d := d + 1) (Q := Q) ⟨fun _ _ _ _ _ _ h => h, hx, hb, hml, hown, hG, hE, hOK, hCl, hCa, fun _ => hinit, Nat.le_refl _, Nat.le_refl _, by omega, Nat.le_refl _, Nat.le_refl _, fun _ => htab, ?_, ?_, ?_, ?_, ?_⟩) (fun pc ls ls' st h kc ks hsub hk H locs lsA hR hSS hl => hk H locs lsA hR hSS ⟨hl.1, hl.2.1, fun q hq => by
    obtain ⟨q0, h0, rfl⟩ := List.mem_map.mp hq
    exact hl.2.2 _ (List.mem_map.mpr ⟨q0, hsub _ h0, rfl⟩)⟩) s.heap [] _ hRH va_S.rf ?_
  · intro m9 as9 h9 Q9 hc hM
    exact hC m9 as9 h9 Q9 hc hM
  · intro m9 as9 h9 Q9 hc
    cases d with
    | zero => exact hc.elim
    | succ d => omega
  · intro i v pc H locs lsA h1 kc ks hrtI hd hend hR1 hS1
    obtain ⟨⟨hkc, hks⟩, hQ⟩ := hend
    refine W.widen (k := (mCo (T m')).1) (n := (mCo (T m')).2) hkc hks (vx_ret ?_)
    have hq : ∀ t : State, t.heap = H → s.WarmedH t.vm → ∃ (v' : Option Value) (h' : eH), Outcome.returned (v.map (eV base b0)) = .returned (v'.map (eV base b0)) ∧ Q (.inl v') h' ∧ eRH D dA base b0 h' t.heap ∧ va_F (fun q => base ≤ q) s t := fun t ht _ => ⟨v, h1, rfl, hQ, by rw [ht]; exact hR1, hS1.F ht⟩
    rcases hrtI with ⟨rfl, x, rfl, hn⟩ | ⟨rfl, ⟨x, rfl⟩, hr⟩ | ⟨rfl, ⟨x, rfl⟩, hr⟩ | ⟨rfl, ⟨x, rfl⟩, hr⟩ | ⟨rfl, ⟨x, rfl⟩, C9, hr⟩ | ⟨rfl, rfl, hr⟩
    · unfold eNar at hn
      split at hn
      · rename_i ty hty
        exact W.zret hx hb (hrt.trans hty) hn hq hS1.2.2 hd hlocks
      · exact hn.elim
    · exact W.lret hx hb (hrt.trans hr) hq hS1.2.2 hd hlocks
    · exact W.fret hx hb (hrt.trans hr) hq hS1.2.2 hd hlocks
    · exact W.dret hx hb (hrt.trans hr) hq hS1.2.2 hd hlocks
    · exact W.aret hx hb (hrt.trans hr) (Or.inl ⟨_, rfl⟩) (Or.inr ⟨_, rfl⟩) hq hS1.2.2 hd hlocks
    · exact W.vret hx hb (hrt.trans hr) hq hS1.2.2 hd hlocks
  · intro pc H locs lsA h1 kc ks E q ce rest hh0 hE3 hQ hR1 hS1 hce hcv hcl hkc hks
    refine vx_out (fun x hx => ?_) hlocks hce hcv hcl (fun t ht _ => ⟨E, h1, hE3, rfl, hQ, by rw [ht]; exact hR1, hS1.F ht⟩) hS1.2.2 hkc hks
    rw [htab, hh0] at hx
    cases hx
  · intro pc x n a b H locs lsA st h1 kc ks hlk ha3 hR1 hS1 hsz h6 hcat hkc hks hh0 hQ hd
    have hlk : eW (.classLink (mNm (T m')).cls x (exN a)) ∧ eW (.initialized (exN a)) ∧ _ := hlk
    obtain ⟨w1, w2, is9, ic9, tx9, hstr9, hat9, d3, hdd⟩ := hlk
    obtain ⟨sa, hsa⟩ := hStr _ _ _ hstr9
    have hout : ∀ (q : Nat), ∀ x ∈ c0.exceptionTable.toList, covers x q = false := fun q x hx => by
      rw [htab, hh0] at hx
      cases hx
    have hxx : ∀ t : State, s.vm.Alike t.vm → H.size ≤ t.heap.size → (∀ q : Nat, q < H.size → t.heap[q]? = H[q]?) → ∃ (n : Nat) (h' : eH), n ≤ 3 ∧ exN a = exN n ∧ Q (.inr n) h' ∧ eRH D dA base b0 h' t.heap ∧ va_F (fun q => base ≤ q) s t := fun t _ hz hq => ⟨a, (false, h1.2), ha3, rfl, hQ, hR1.kept hz hq, Nat.le_trans hS1.1 hz, fun q a1 a2 => (hq q (Nat.lt_of_lt_of_le a1 hS1.1)).trans (hS1.2.1 q a1 a2)⟩
    have hloc : ((st.map (eV base b0)).map fun v => v.category).sum + (13 * (exS.length + 1) + 43) ≤ 31 * (d + 1) := by
      rw [eCat_sum]
      have : exS.length = 2 := rfl
      omega
    have hat0 : ∀ w ∈ eThW (mNm (T m')).cls ic9 a, w.before (as.map (eV base b0)).toArray s = true := fun w hw => (hat9 w hw).elim (fun h => hG w h) (fun h => va_Nw.use (eNg_good h.2) (hNG w h))
    have hgood0 : ∀ w ∈ Cond.classLink (mNm (T m')).cls x (exN a) :: Cond.initialized (exN a) :: eThW (mNm (T m')).cls ic9 a, vx_ot w = true := by
      intro w hw
      rcases List.mem_cons.mp hw with rfl | hw
      · exact eX_ot (Or.inl w1)
      · rcases List.mem_cons.mp hw with rfl | hw
        · exact eX_ot (Or.inl w2)
        · exact eX_ot (hat9 w hw)
    by_cases ha : a = 3
    · subst ha
      have hat : ∀ w ∈ vy_at (mNm (T m')).cls ic9 (exN 3) "java/lang/RuntimeException" 13 nseB ["java/lang/Exception"], w.before (as.map (eV base b0)).toArray s = true := hat0
      have hgood : ∀ w ∈ Cond.classLink (mNm (T m')).cls x (exN 3) :: Cond.initialized (exN 3) :: vy_at (mNm (T m')).cls ic9 (exN 3) "java/lang/RuntimeException" 13 nseB ["java/lang/Exception"], vx_ot w = true := hgood0
      have hlast : ∀ (q9 : Nat) (H9 : Heap) (ce9 : Cell) (pc9 : Nat), H9[q9]? = some ce9 → ce9.vm = .none → s.vm.findClass (exN 3) = some ce9.cls → H.size ≤ H9.size → (∀ x : Nat, x < H.size → H9[x]? = H[x]?) → decode (mBy (T m')) pc9 = .ok (.athrow, 1) → W p l e { frames := d + 1, cells := (mCo (T m')).1, slots := (mCo (T m')).2, locals := 31 * (d + 1) } s m (as.map (eV base b0)).toArray below meth c0 H9 locs (kc + 1) (ks + 6) (vx_MQ below
          (fun _ st o t => ∃ (v : Option Value) (h' : eH), o = .returned (v.map (eV base b0)) ∧ Q (.inl v) h' ∧ eRH D dA base b0 h' t.heap ∧ va_F (fun q => base ≤ q) st t)
          (fun E st t => ∃ (n : Nat) (h' : eH), n ≤ 3 ∧ E = exN n ∧ Q (.inr n) h' ∧ eRH D dA base b0 h' t.heap ∧ va_F (fun q => base ≤ q) st t)
          (as.map (eV base b0)).toArray s (mCo (T m')).1 (mCo (T m')).2 (fun q => base ≤ q)) (F0 m pc9 lsA (.ref q9 :: st.map (eV base b0))) := by
        intro q9 H9 ce9 pc9 g1 g2 g3 g4 g5 g6
        exact vx_athrow hx hb g6 (vx_out (hout pc9) hlocks g1 g2 g3 (fun t ht hal => hxx t hal (by rw [ht]; exact g4) (fun q hq => by rw [ht]; exact g5 q hq)) hS1.2.2 hkc hks)
      rcases hdd with ⟨e4, e6, e9⟩ | ⟨e4, e7, e10⟩
      · exact vy_makeS (rx := nseB) (ix := 13) hx hb htr (by decide +kernel) (by decide +kernel) (by decide +kernel) (by decide +kernel) hown (exFit 3) exS_fit (hG _ w1) (hG _ w2) hsa hat hgood hZ1 hZ2 hS1 hsz hd d3 e4 e6 (by show 2 + 3 < d + 1; omega) hloc hkc hks (fun q9 H9 ce9 g1 g2 g3 g4 g5 => hlast q9 H9 ce9 (pc + 9) g1 g2 g3 g4 g5 e9)
      · exact vy_makeSW (rx := nseB) (ix := 13) hx hb htr (by decide +kernel) (by decide +kernel) (by decide +kernel) (by decide +kernel) hown (exFit 3) exS_fit (hG _ w1) (hG _ w2) hsa hat hgood hZ1 hZ2 hS1 hsz hd d3 e4 e7 (by show 2 + 3 < d + 1; omega) hloc hkc hks (fun q9 H9 ce9 g1 g2 g3 g4 g5 => hlast q9 H9 ce9 (pc + 10) g1 g2 g3 g4 g5 e10)
    have hThW : eThW (mNm (T m')).cls ic9 a = vx_atS (mNm (T m')).cls ic9 (exN a) exS := if_neg ha
    rw [hThW] at hat0 hgood0
    have hat := hat0
    have hgood := hgood0
    rcases hdd with ⟨e4, e6, e9⟩ | ⟨e4, e7, e10⟩
    · exact vx_throwS (names := exS) hx hb htr hown (exFit a) exS_fit (hG _ w1) (hG _ w2) hsa hat hgood hZ1 hZ2 hS1 hsz hd d3 e4 e6 e9 (hout _) (by show 2 + 3 < d + 1; omega) hloc hkc hks hlocks hxx hS1.2.2 hkc hks
    · exact vx_throwSW (names := exS) hx hb htr hown (exFit a) exS_fit (hG _ w1) (hG _ w2) hsa hat hgood hZ1 hZ2 hS1 hsz hd d3 e4 e7 e10 (hout _) (by show 2 + 3 < d + 1; omega) hloc hkc hks hlocks hxx hS1.2.2 hkc hks
  · have h9 := lv_entry (as.map (eV base b0)) (n := mLo (T m')) (by rw [eSl_len]; exact Nat.le_of_ble_eq_true hfit)
    rw [eArgs_map] at h9
    exact h9
set_option maxHeartbeats 4000000 in
theorem e_sound (htr : l.stackTraces = false) (hOK : ∀ m, eMeth (T m) → eMok T (T m)) (hCl : ∀ q ∈ vwCl, eCls q) (hCa : ∀ E, E ≤ 3 → eX (.castable (exN E) (exN E))) :
    ∀ (d m' : Nat) (as : List Value) (h : eH) (Q : eQ), okCall S T d m' as h Q → eMeth (T m') → eCon S T l D dA base b0 d m' as h Q
  | 0, _, _, _, _, hc, _ => hc.elim
  | d + 1, m', as, h, Q, hc, hM => by
    have ih := e_sound htr hOK hCl hCa d
    have hOKm := hOK m' hM
    have hGof : ∀ {s : State} {args : Array Value} {meth : Method} {m : MethodId} {below : List Frame} {rm : Room} {e : Env} {p : Program} {c : Code} {s₁ : State}, BodyLoose p l (mNm (T m')) (headSpec (mWd (T m') :: lw_tbl.filter goodWord) rm) (mBy (T m')) (mLo (T m')) (mRt (T m')) e s m args below meth c s₁ → ∀ w, eW w → w.before args s = true := fun B w hw => atoms_spec (ws := mWd (T m') :: lw_tbl.filter goodWord) B.pre w (List.mem_cons_of_mem _ (List.mem_filter.mpr ⟨hw.1, hw.2⟩))
    by_cases hh : mHh (T m') = []
    · refine vx_ofW (cc := mBy (T m')) (maxL := mLo (T m')) (ret := mRt (T m')) hM.2.2.2.1 (by rw [mWd_nil hh]) ?_
      intro p e s m args below meth c s₁ B hml ht hP
      obtain ⟨hargs, hE, hRH⟩ := hP
      refine e_body htr hOKm hCl hCa ih hc B.exec B.bytes hml B.returns (findClass_of_methodNamed B.named) (hGof B) hE hRH hargs (name_of_methodNamed B.named B.method).1 B.notSynchronized ?_
      rw [hh]
      exact List.eq_nil_iff_forall_not_mem.mpr ht
    · refine vx_ofWH (cc := mBy (T m')) (maxL := mLo (T m')) (ret := mRt (T m')) (hh := mHh (T m')) hM.2.2.2.1 (by rw [mWd_ne hh]) ?_
      intro p e s m args below meth c s₁ B hml hP
      obtain ⟨hargs, hE, hRH⟩ := hP
      refine e_body htr hOKm hCl hCa ih hc B.exec B.bytes hml B.returns (findClass_of_methodNamed B.named) (hGof B) hE hRH hargs (name_of_methodNamed B.named B.method).1 B.notSynchronized ?_
      have hw := hGof B _ hM.1
      rw [mWd_ne hh] at hw
      exact vx_table (x := mNm (T m')) B hw
end Snd
