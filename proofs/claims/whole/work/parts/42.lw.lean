section LB
/-! the law -/
theorem lw_end {n : Nat} (h : n ≤ 2560) : nI n - nI 5 < nI (5 * (n / 5)) := by
  rw [Int32.lt_iff_toInt_lt, nI_toInt (by omega), nZ_nI n, nZ_nI 5, nZ_sub]
  unfold nZ
  rw [fb_ofI (by omega) (by omega)]
  omega
theorem lw_go {n j : Nat} (h : n ≤ 2560) (hj : 5 * j + 5 ≤ n) : ¬ nI n - nI 5 < nI (5 * j) := by
  rw [Int32.lt_iff_toInt_lt, nI_toInt (by omega), nZ_nI n, nZ_nI 5, nZ_sub]
  unfold nZ
  rw [fb_ofI (by omega) (by omega)]
  omega
theorem sw41 {p : Nat → Prop} (h0 : p 0) (h1 : p 1) (h2 : p 2) (h3 : p 3) (h4 : p 4) (h5 : p 5) (h6 : p 6) (h7 : p 7) (h8 : p 8) (h9 : p 9) (h10 : p 10) (h11 : p 11) (h12 : p 12) (h13 : p 13) (h14 : p 14) (h15 : p 15) (h16 : p 16) (h17 : p 17) (h18 : p 18) (h19 : p 19) (h20 : p 20) (h21 : p 21) (h22 : p 22) (h23 : p 23) (h24 : p 24) (h25 : p 25) (h26 : p 26) (h27 : p 27) (h28 : p 28) (h29 : p 29) (h30 : p 30) (h31 : p 31) (h32 : p 32) (h33 : p 33) (h34 : p 34) (h35 : p 35) (h36 : p 36) (h37 : p 37) (h38 : p 38) (h39 : p 39) (h40 : p 40) : ∀ i, i < 41 → p i
  | 0, _ => h0
  | 1, _ => h1
  | 2, _ => h2
  | 3, _ => h3
  | 4, _ => h4
  | 5, _ => h5
  | 6, _ => h6
  | 7, _ => h7
  | 8, _ => h8
  | 9, _ => h9
  | 10, _ => h10
  | 11, _ => h11
  | 12, _ => h12
  | 13, _ => h13
  | 14, _ => h14
  | 15, _ => h15
  | 16, _ => h16
  | 17, _ => h17
  | 18, _ => h18
  | 19, _ => h19
  | 20, _ => h20
  | 21, _ => h21
  | 22, _ => h22
  | 23, _ => h23
  | 24, _ => h24
  | 25, _ => h25
  | 26, _ => h26
  | 27, _ => h27
  | 28, _ => h28
  | 29, _ => h29
  | 30, _ => h30
  | 31, _ => h31
  | 32, _ => h32
  | 33, _ => h33
  | 34, _ => h34
  | 35, _ => h35
  | 36, _ => h36
  | 37, _ => h37
  | 38, _ => h38
  | 39, _ => h39
  | 40, _ => h40
  | n + 41, h => absurd h (by omega)
section R10
variable {S : Nat × (Nat → Int32)} {T : Nat → eM} {C : eC} {M : eM} {d : Nat} {Q : eQ} {K : eK} {pc n a b c : Nat} {ls : eL} {st r : List Value} {h : eH} {kc ks : Nat}
theorem r_sln (hat : eAt (mPr M) pc = some (.arraylength, n, a, b, c)) (kk : K n ls (.int (nI S.1) :: r) h kc ks) : eStep S T C M d Q K pc ls (.ref 0 :: r) h kc ks := by
  unfold eStep; rw [hat]; exact kk
theorem r_iretL {v : Int32} (hat : eAt (mPr M) pc = some (.ireturn, n, a, b, c)) (hn : eNar (mRt M) v) (h1 : kc ≤ (mCo M).1) (h2 : ks ≤ (mCo M).2) (hq : Q (.inl (some (.int v))) h) : eStep S T C M d Q K pc ls [.int v] h kc ks := by
  unfold eStep; rw [hat]; exact ⟨hn, ⟨h1, h2⟩, hq⟩
theorem r_swt {x1 : Int32} {w : Int} {lo hi : Int} {offs : Array Int} {i : Instr} {N : Nat} (hi9 : i = .tableswitch w lo hi offs) (hat : eAt (mPr M) pc = some (i, n, a, b, c)) (hN : offs.size = N) (kd : K a ls r h kc ks) (kk : ∀ j, j < N → ∀ (off : Int) (t : Nat), offs[j]? = some off → (pc : Int) + off = (t : Int) → K t ls r h kc ks) : eStep S T C M d Q K pc ls (.int x1 :: r) h kc ks := by
  subst hi9
  unfold eStep; rw [hat]
  exact ⟨fun _ => kd, fun j off t _ _ _ h4 h5 => kk j (by rw [← hN]; exact (Array.getElem?_eq_some_iff.mp h4).1) off t h4 h5⟩
end R10
set_option maxRecDepth 20000 in
set_option maxHeartbeats 4000000 in
/-- Law.law -/
theorem kL_law {S : Nat × (Nat → Int32)} {d : Nat} {Q : eQ} (hS : S.1 ≤ 2560) (hQ : ∀ h2, Q (.inl (some (.int (nI 1)))) h2) : eOk S MT (okCall S MT (d + 9)) ML_law (d + 9 + 1) Q 0 [(0, .ref 0)] [] (true, []) 0 0 := by
  intro K hK hW
  show K 0 [(0, .ref 0)] [] (true, []) 0 0
  refine hK _ _ _ _ _ _ (r_new rfl rfl rfl rfl (?_ : K _ _ _ _ _ _))
  show K _ _ _ (true, [.inr (4, [.null, .null, .null, .null, .null])]) 1 5
  iterate 1 refine hK _ _ _ _ _ _ (?_ : K _ _ _ _ _ _)
  refine hK _ _ _ _ _ _ (r_callI rfl rfl (fun _ => rfl) (b0 rfl rfl rfl) (kX6_init ?_))
  show K 7 [(0, .ref 0)] [.ref 1] (true, wl (fun _ => no9) no9 no9 no9 no9 (fun _ => 0) (fun _ => 0) (fun _ => 0) (fun _ => 0) []) 31 405
  iterate 1 refine hK _ _ _ _ _ _ (?_ : K _ _ _ _ _ _)
  refine hK _ _ _ _ _ _ (r_new rfl rfl rfl rfl (?_ : K _ _ _ _ _ _))
  show K _ _ _ (true, wl (fun _ => no9) no9 no9 no9 no9 (fun _ => 0) (fun _ => 0) (fun _ => 0) (fun _ => 0) [.inr (5, [.null, .null, .null, .null, .null, .null, .int 0, .int 0])]) 32 413
  iterate 1 refine hK _ _ _ _ _ _ (?_ : K _ _ _ _ _ _)
  refine hK _ _ _ _ _ _ (r_callI rfl rfl (fun _ => rfl) (b0 rfl rfl rfl) (kX7_init (X := wX (fun _ => no9) no9 no9 no9 no9 (fun _ => 0) (fun _ => 0) (fun _ => 0) (fun _ => 0)) ?_))
  show K 15 [(1, .ref 1), (0, .ref 0)] [.ref 24] (true, wl (fun _ => no9) no9 no9 no9 no9 (fun _ => 0) (fun _ => 0) (fun _ => 0) (fun _ => 0) (mT (fun _ => 0) (fun _ => 0) (fun _ => 0) (fun _ => 0) (fun _ => 0) (fun _ => 0) 0 0 [])) 40 1713
  iterate 2 refine hK _ _ _ _ _ _ (?_ : K _ _ _ _ _ _)
  refine hK _ _ _ _ _ _ (r_newa (j := 1) rfl rfl rfl (by decide) rfl rfl (?_ : K _ _ _ _ _ _))
  show K 19 [(2, .ref 24), (1, .ref 1), (0, .ref 0)] [.ref 31] (true, wl (fun _ => no9) no9 no9 no9 no9 (fun _ => 0) (fun _ => 0) (fun _ => 0) (fun _ => 0) (mT (fun _ => 0) (fun _ => 0) (fun _ => 0) (fun _ => 0) (fun _ => 0) (fun _ => 0) 0 0 [ilA 1 (fun _ => 0)])) 41 1714
  iterate 2 refine hK _ _ _ _ _ _ (?_ : K _ _ _ _ _ _)
  refine hK _ _ _ _ _ _ (r_newa (j := 1) rfl rfl rfl (by decide) rfl rfl (?_ : K _ _ _ _ _ _))
  show K 23 [(3, .ref 31), (2, .ref 24), (1, .ref 1), (0, .ref 0)] [.ref 32] (true, LW (fun _ => no9) no9 no9 no9 no9 (fun _ => 0) (fun _ => 0) (fun _ => 0) (fun _ => 0) (fun _ => 0) (fun _ => 0) (fun _ => 0) (fun _ => 0) (fun _ => 0) (fun _ => 0) 0 0 (fun _ => 0) (fun _ => 0)) 42 1715
  iterate 3 refine hK _ _ _ _ _ _ (?_ : K _ _ _ _ _ _)
  have main : LN K 0 := by
    refine up (P := fun j => LN K j) (S.1 / 5) 0 ?_ ?_ (Nat.zero_le _)
    · intro b P R u v w kb f g e A mk ro nx pi kp km th oo od kc ks hI hA hR hkc hks
      iterate 2 refine hK _ _ _ _ _ _ (?_ : K _ _ _ _ _ _)
      refine hK _ _ _ _ _ _ (r_sln rfl (?_ : K _ _ _ _ _ _))
      iterate 2 refine hK _ _ _ _ _ _ (?_ : K _ _ _ _ _ _)
      refine hK _ _ _ _ _ _ (And.intro (fun _ => ?_) (fun c9 => absurd (lw_end hS) c9))
      iterate 1 refine hK _ _ _ _ _ _ (?_ : K _ _ _ _ _ _)
      exact hK _ _ _ _ _ _ (r_iretL rfl rfl (by show kc ≤ 601024; omega) (by show ks ≤ 7293034; omega) (hQ _))
    · intro j h0j hj ih b P R u v w kb f g e A mk ro nx pi kp km th oo od kc ks hI hA hR hkc hks
      have h5 : 5 * j + 5 ≤ S.1 := by omega
      iterate 2 refine hK _ _ _ _ _ _ (?_ : K _ _ _ _ _ _)
      refine hK _ _ _ _ _ _ (r_sln rfl (?_ : K _ _ _ _ _ _))
      iterate 2 refine hK _ _ _ _ _ _ (?_ : K _ _ _ _ _ _)
      refine hK _ _ _ _ _ _ (And.intro (fun c9 => absurd c9 (lw_go hS h5)) (fun _ => ?_))
      iterate 2 refine hK _ _ _ _ _ _ (?_ : K _ _ _ _ _ _)
      refine hK _ _ _ _ _ _ (r_sld rfl (i := 5 * j) rfl (by omega) (by omega) (?_ : K _ _ _ _ _ _))
      iterate 2 refine hK _ _ _ _ _ _ (?_ : K _ _ _ _ _ _)
      refine hK _ _ _ _ _ _ (r_swt (N := 41) rfl rfl rfl ?_ ?_)
      · iterate 2 refine hK _ _ _ _ _ _ (?_ : K _ _ _ _ _ _)
        show K 28 ((5, .int (nI (5 * j) + nI 5)) :: _) _ _ _ _
        rw [nI_add (5 * j) 5, show 5 * j + 5 = 5 * (j + 1) by omega]
        exact hW _ _ [(5, .int (nI (5 * (j + 1)))), (4, .ref 32), (3, .ref 31), (2, .ref 24), (1, .ref 1), (0, .ref 0)] _ _ _ _ (by simp) (ih _ _ _ _ _ _ _ _ _ _ _ _ _ _ _ _ _ _ _ _ _ _ hI hA hR (by omega) (by omega))
      · refine sw41 ?_ ?_ ?_ ?_ ?_ ?_ ?_ ?_ ?_ ?_ ?_ ?_ ?_ ?_ ?_ ?_ ?_ ?_ ?_ ?_ ?_ ?_ ?_ ?_ ?_ ?_ ?_ ?_ ?_ ?_ ?_ ?_ ?_ ?_ ?_ ?_ ?_ ?_ ?_ ?_ ?_
        · intro off t e1 e2
          have e3 : (180 : Int) = off := Option.some.inj e1
          subst e3
          have e4 : t = 224 := by omega
          subst e4
          exact hW _ _ [(5, .int (nI (5 * j))), (4, .ref 32), (3, .ref 31), (2, .ref 24), (1, .ref 1), (0, .ref 0)] _ _ _ _ (by simp) (lc_put hK hW h5 hS ih hI hA hR hkc hks)
        · intro off t e1 e2
          have e3 : (248 : Int) = off := Option.some.inj e1
          subst e3
          have e4 : t = 292 := by omega
          subst e4
          exact hW _ _ [(5, .int (nI (5 * j))), (4, .ref 32), (3, .ref 31), (2, .ref 24), (1, .ref 1), (0, .ref 0)] _ _ _ _ (by simp) (lc_take hK hW h5 hS ih hI hA hR hkc hks)
        · intro off t e1 e2
          have e3 : (316 : Int) = off := Option.some.inj e1
          subst e3
          have e4 : t = 360 := by omega
          subst e4
          exact hW _ _ [(5, .int (nI (5 * j))), (4, .ref 32), (3, .ref 31), (2, .ref 24), (1, .ref 1), (0, .ref 0)] _ _ _ _ (by simp) (lc_clear hK hW h5 hS ih hI hA hR hkc hks)
        · intro off t e1 e2
          have e3 : (372 : Int) = off := Option.some.inj e1
          subst e3
          have e4 : t = 416 := by omega
          subst e4
          exact hW _ _ [(5, .int (nI (5 * j))), (4, .ref 32), (3, .ref 31), (2, .ref 24), (1, .ref 1), (0, .ref 0)] _ _ _ _ (by simp) (lc_copy hK hW h5 hS ih hI hA hR hkc hks)
        · intro off t e1 e2
          have e3 : (440 : Int) = off := Option.some.inj e1
          subst e3
          have e4 : t = 484 := by omega
          subst e4
          exact hW _ _ [(5, .int (nI (5 * j))), (4, .ref 32), (3, .ref 31), (2, .ref 24), (1, .ref 1), (0, .ref 0)] _ _ _ _ (by simp) (lc_unite hK hW h5 hS ih hI hA hR hkc hks)
        · intro off t e1 e2
          have e3 : (520 : Int) = off := Option.some.inj e1
          subst e3
          have e4 : t = 564 := by omega
          subst e4
          exact hW _ _ [(5, .int (nI (5 * j))), (4, .ref 32), (3, .ref 31), (2, .ref 24), (1, .ref 1), (0, .ref 0)] _ _ _ _ (by simp) (lc_meet hK hW h5 hS ih hI hA hR hkc hks)
        · intro off t e1 e2
          have e3 : (600 : Int) = off := Option.some.inj e1
          subst e3
          have e4 : t = 644 := by omega
          subst e4
          exact hW _ _ [(5, .int (nI (5 * j))), (4, .ref 32), (3, .ref 31), (2, .ref 24), (1, .ref 1), (0, .ref 0)] _ _ _ _ (by simp) (lc_full hK hW h5 hS ih hI hA hR hkc hks)
        · intro off t e1 e2
          have e3 : (696 : Int) = off := Option.some.inj e1
          subst e3
          have e4 : t = 740 := by omega
          subst e4
          exact hW _ _ [(5, .int (nI (5 * j))), (4, .ref 32), (3, .ref 31), (2, .ref 24), (1, .ref 1), (0, .ref 0)] _ _ _ _ (by simp) (lc_low hK hW h5 hS ih hI hA hR hkc hks)
        · intro off t e1 e2
          have e3 : (776 : Int) = off := Option.some.inj e1
          subst e3
          have e4 : t = 820 := by omega
          subst e4
          exact hW _ _ [(5, .int (nI (5 * j))), (4, .ref 32), (3, .ref 31), (2, .ref 24), (1, .ref 1), (0, .ref 0)] _ _ _ _ (by simp) (lc_about hK hW h5 hS ih hI hA hR hkc hks)
        · intro off t e1 e2
          have e3 : (884 : Int) = off := Option.some.inj e1
          subst e3
          have e4 : t = 928 := by omega
          subst e4
          exact hW _ _ [(5, .int (nI (5 * j))), (4, .ref 32), (3, .ref 31), (2, .ref 24), (1, .ref 1), (0, .ref 0)] _ _ _ _ (by simp) (lc_cone hK hW h5 hS ih hI hA hR hkc hks)
        · intro off t e1 e2
          have e3 : (964 : Int) = off := Option.some.inj e1
          subst e3
          have e4 : t = 1008 := by omega
          subst e4
          exact hW _ _ [(5, .int (nI (5 * j))), (4, .ref 32), (3, .ref 31), (2, .ref 24), (1, .ref 1), (0, .ref 0)] _ _ _ _ (by simp) (lc_lift hK hW h5 hS ih hI hA hR hkc hks)
        · intro off t e1 e2
          have e3 : (1056 : Int) = off := Option.some.inj e1
          subst e3
          have e4 : t = 1100 := by omega
          subst e4
          exact hW _ _ [(5, .int (nI (5 * j))), (4, .ref 32), (3, .ref 31), (2, .ref 24), (1, .ref 1), (0, .ref 0)] _ _ _ _ (by simp) (lc_other hK hW h5 hS ih hI hA hR hkc hks)
        · intro off t e1 e2
          have e3 : (1136 : Int) = off := Option.some.inj e1
          subst e3
          have e4 : t = 1180 := by omega
          subst e4
          exact hW _ _ [(5, .int (nI (5 * j))), (4, .ref 32), (3, .ref 31), (2, .ref 24), (1, .ref 1), (0, .ref 0)] _ _ _ _ (by simp) (lc_exchange hK hW h5 hS ih hI hA hR hkc hks)
        · intro off t e1 e2
          have e3 : (1228 : Int) = off := Option.some.inj e1
          subst e3
          have e4 : t = 1272 := by omega
          subst e4
          exact hW _ _ [(5, .int (nI (5 * j))), (4, .ref 32), (3, .ref 31), (2, .ref 24), (1, .ref 1), (0, .ref 0)] _ _ _ _ (by simp) (lc_fold hK hW h5 hS ih hI hA hR hkc hks)
        · intro off t e1 e2
          have e3 : (1296 : Int) = off := Option.some.inj e1
          subst e3
          have e4 : t = 1340 := by omega
          subst e4
          exact hW _ _ [(5, .int (nI (5 * j))), (4, .ref 32), (3, .ref 31), (2, .ref 24), (1, .ref 1), (0, .ref 0)] _ _ _ _ (by simp) (lc_has hK hW h5 hS ih hI hA hR hkc hks)
        · intro off t e1 e2
          have e3 : (1371 : Int) = off := Option.some.inj e1
          subst e3
          have e4 : t = 1415 := by omega
          subst e4
          exact hW _ _ [(5, .int (nI (5 * j))), (4, .ref 32), (3, .ref 31), (2, .ref 24), (1, .ref 1), (0, .ref 0)] _ _ _ _ (by simp) (lc_size hK hW h5 hS ih hI hA hR hkc hks)
        · intro off t e1 e2
          have e3 : (1427 : Int) = off := Option.some.inj e1
          subst e3
          have e4 : t = 1471 := by omega
          subst e4
          exact hW _ _ [(5, .int (nI (5 * j))), (4, .ref 32), (3, .ref 31), (2, .ref 24), (1, .ref 1), (0, .ref 0)] _ _ _ _ (by simp) (lc_faces hK hW h5 hS ih hI hA hR hkc hks)
        · intro off t e1 e2
          have e3 : (1495 : Int) = off := Option.some.inj e1
          subst e3
          have e4 : t = 1539 := by omega
          subst e4
          exact hW _ _ [(5, .int (nI (5 * j))), (4, .ref 32), (3, .ref 31), (2, .ref 24), (1, .ref 1), (0, .ref 0)] _ _ _ _ (by simp) (lc_corners hK hW h5 hS ih hI hA hR hkc hks)
        · intro off t e1 e2
          have e3 : (1551 : Int) = off := Option.some.inj e1
          subst e3
          have e4 : t = 1595 := by omega
          subst e4
          exact hW _ _ [(5, .int (nI (5 * j))), (4, .ref 32), (3, .ref 31), (2, .ref 24), (1, .ref 1), (0, .ref 0)] _ _ _ _ (by simp) (lc_over hK hW h5 hS ih hI hA hR hkc hks)
        · intro off t e1 e2
          have e3 : (1619 : Int) = off := Option.some.inj e1
          subst e3
          have e4 : t = 1663 := by omega
          subst e4
          exact hW _ _ [(5, .int (nI (5 * j))), (4, .ref 32), (3, .ref 31), (2, .ref 24), (1, .ref 1), (0, .ref 0)] _ _ _ _ (by simp) (lc_greatest hK hW h5 hS ih hI hA hR hkc hks)
        · intro off t e1 e2
          have e3 : (1675 : Int) = off := Option.some.inj e1
          subst e3
          have e4 : t = 1719 := by omega
          subst e4
          exact hW _ _ [(5, .int (nI (5 * j))), (4, .ref 32), (3, .ref 31), (2, .ref 24), (1, .ref 1), (0, .ref 0)] _ _ _ _ (by simp) (lc_greatestAt hK hW h5 hS ih hI hA hR hkc hks)
        · intro off t e1 e2
          have e3 : (1743 : Int) = off := Option.some.inj e1
          subst e3
          have e4 : t = 1787 := by omega
          subst e4
          exact hW _ _ [(5, .int (nI (5 * j))), (4, .ref 32), (3, .ref 31), (2, .ref 24), (1, .ref 1), (0, .ref 0)] _ _ _ _ (by simp) (lc_isSame hK hW h5 hS ih hI hA hR hkc hks)
        · intro off t e1 e2
          have e3 : (1818 : Int) = off := Option.some.inj e1
          subst e3
          have e4 : t = 1862 := by omega
          subst e4
          exact hW _ _ [(5, .int (nI (5 * j))), (4, .ref 32), (3, .ref 31), (2, .ref 24), (1, .ref 1), (0, .ref 0)] _ _ _ _ (by simp) (lc_contains hK hW h5 hS ih hI hA hR hkc hks)
        · intro off t e1 e2
          have e3 : (1893 : Int) = off := Option.some.inj e1
          subst e3
          have e4 : t = 1937 := by omega
          subst e4
          exact hW _ _ [(5, .int (nI (5 * j))), (4, .ref 32), (3, .ref 31), (2, .ref 24), (1, .ref 1), (0, .ref 0)] _ _ _ _ (by simp) (lc_pieces hK hW h5 hS ih hI hA hR hkc hks)
        · intro off t e1 e2
          have e3 : (1949 : Int) = off := Option.some.inj e1
          subst e3
          have e4 : t = 1993 := by omega
          subst e4
          exact hW _ _ [(5, .int (nI (5 * j))), (4, .ref 32), (3, .ref 31), (2, .ref 24), (1, .ref 1), (0, .ref 0)] _ _ _ _ (by simp) (lc_areJoined hK hW h5 hS ih hI hA hR hkc hks)
        · intro off t e1 e2
          have e3 : (2036 : Int) = off := Option.some.inj e1
          subst e3
          have e4 : t = 2080 := by omega
          subst e4
          exact hW _ _ [(5, .int (nI (5 * j))), (4, .ref 32), (3, .ref 31), (2, .ref 24), (1, .ref 1), (0, .ref 0)] _ _ _ _ (by simp) (lc_free hK hW h5 hS ih hI hA hR hkc hks)
        · intro off t e1 e2
          have e3 : (2104 : Int) = off := Option.some.inj e1
          subst e3
          have e4 : t = 2148 := by omega
          subst e4
          exact hW _ _ [(5, .int (nI (5 * j))), (4, .ref 32), (3, .ref 31), (2, .ref 24), (1, .ref 1), (0, .ref 0)] _ _ _ _ (by simp) (lc_holes hK hW h5 hS ih hI hA hR hkc hks)
        · intro off t e1 e2
          have e3 : (2172 : Int) = off := Option.some.inj e1
          subst e3
          have e4 : t = 2216 := by omega
          subst e4
          exact hW _ _ [(5, .int (nI (5 * j))), (4, .ref 32), (3, .ref 31), (2, .ref 24), (1, .ref 1), (0, .ref 0)] _ _ _ _ (by simp) (lc_signed hK hW h5 hS ih hI hA hR hkc hks)
        · intro off t e1 e2
          have e3 : (2228 : Int) = off := Option.some.inj e1
          subst e3
          have e4 : t = 2272 := by omega
          subst e4
          exact hW _ _ [(5, .int (nI (5 * j))), (4, .ref 32), (3, .ref 31), (2, .ref 24), (1, .ref 1), (0, .ref 0)] _ _ _ _ (by simp) (lc_flip hK hW h5 hS ih hI hA hR hkc hks)
        · intro off t e1 e2
          have e3 : (2284 : Int) = off := Option.some.inj e1
          subst e3
          have e4 : t = 2328 := by omega
          subst e4
          exact hW _ _ [(5, .int (nI (5 * j))), (4, .ref 32), (3, .ref 31), (2, .ref 24), (1, .ref 1), (0, .ref 0)] _ _ _ _ (by simp) (lc_border hK hW h5 hS ih hI hA hR hkc hks)
        · intro off t e1 e2
          have e3 : (2297 : Int) = off := Option.some.inj e1
          subst e3
          have e4 : t = 2341 := by omega
          subst e4
          exact hW _ _ [(5, .int (nI (5 * j))), (4, .ref 32), (3, .ref 31), (2, .ref 24), (1, .ref 1), (0, .ref 0)] _ _ _ _ (by simp) (lc_drop hK hW h5 hS ih hI hA hR hkc hks)
        · intro off t e1 e2
          have e3 : (2310 : Int) = off := Option.some.inj e1
          subst e3
          have e4 : t = 2354 := by omega
          subst e4
          exact hW _ _ [(5, .int (nI (5 * j))), (4, .ref 32), (3, .ref 31), (2, .ref 24), (1, .ref 1), (0, .ref 0)] _ _ _ _ (by simp) (lc_rowAt hK hW h5 hS ih hI hA hR hkc hks)
        · intro off t e1 e2
          have e3 : (2366 : Int) = off := Option.some.inj e1
          subst e3
          have e4 : t = 2410 := by omega
          subst e4
          exact hW _ _ [(5, .int (nI (5 * j))), (4, .ref 32), (3, .ref 31), (2, .ref 24), (1, .ref 1), (0, .ref 0)] _ _ _ _ (by simp) (lc_isRound hK hW h5 hS ih hI hA hR hkc hks)
        · intro off t e1 e2
          have e3 : (2379 : Int) = off := Option.some.inj e1
          subst e3
          have e4 : t = 2423 := by omega
          subst e4
          exact hW _ _ [(5, .int (nI (5 * j))), (4, .ref 32), (3, .ref 31), (2, .ref 24), (1, .ref 1), (0, .ref 0)] _ _ _ _ (by simp) (lc_fills hK hW h5 hS ih hI hA hR hkc hks)
        · intro off t e1 e2
          have e3 : (2442 : Int) = off := Option.some.inj e1
          subst e3
          have e4 : t = 2486 := by omega
          subst e4
          exact hW _ _ [(5, .int (nI (5 * j))), (4, .ref 32), (3, .ref 31), (2, .ref 24), (1, .ref 1), (0, .ref 0)] _ _ _ _ (by simp) (lc_mean hK hW h5 hS ih hI hA hR hkc hks)
        · intro off t e1 e2
          have e3 : (2519 : Int) = off := Option.some.inj e1
          subst e3
          have e4 : t = 2563 := by omega
          subst e4
          exact hW _ _ [(5, .int (nI (5 * j))), (4, .ref 32), (3, .ref 31), (2, .ref 24), (1, .ref 1), (0, .ref 0)] _ _ _ _ (by simp) (lc_share hK hW h5 hS ih hI hA hR hkc hks)
        · intro off t e1 e2
          have e3 : (2597 : Int) = off := Option.some.inj e1
          subst e3
          have e4 : t = 2641 := by omega
          subst e4
          exact hW _ _ [(5, .int (nI (5 * j))), (4, .ref 32), (3, .ref 31), (2, .ref 24), (1, .ref 1), (0, .ref 0)] _ _ _ _ (by simp) (lc_checksum hK hW h5 hS ih hI hA hR hkc hks)
        · intro off t e1 e2
          have e3 : (2611 : Int) = off := Option.some.inj e1
          subst e3
          have e4 : t = 2655 := by omega
          subst e4
          exact hW _ _ [(5, .int (nI (5 * j))), (4, .ref 32), (3, .ref 31), (2, .ref 24), (1, .ref 1), (0, .ref 0)] _ _ _ _ (by simp) (lc_isSound hK hW h5 hS ih hI hA hR hkc hks)
        · intro off t e1 e2
          have e3 : (2674 : Int) = off := Option.some.inj e1
          subst e3
          have e4 : t = 2718 := by omega
          subst e4
          exact hW _ _ [(5, .int (nI (5 * j))), (4, .ref 32), (3, .ref 31), (2, .ref 24), (1, .ref 1), (0, .ref 0)] _ _ _ _ (by simp) (lc_isTrue hK hW h5 hS ih hI hA hR hkc hks)
        · intro off t e1 e2
          have e3 : (2761 : Int) = off := Option.some.inj e1
          subst e3
          have e4 : t = 2805 := by omega
          subst e4
          exact hW _ _ [(5, .int (nI (5 * j))), (4, .ref 32), (3, .ref 31), (2, .ref 24), (1, .ref 1), (0, .ref 0)] _ _ _ _ (by simp) (lc_faceIsTrue hK hW h5 hS ih hI hA hR hkc hks)
        · intro off t e1 e2
          have e3 : (2836 : Int) = off := Option.some.inj e1
          subst e3
          have e4 : t = 2880 := by omega
          subst e4
          exact hW _ _ [(5, .int (nI (5 * j))), (4, .ref 32), (3, .ref 31), (2, .ref 24), (1, .ref 1), (0, .ref 0)] _ _ _ _ (by simp) (lc_pairIsTrue hK hW h5 hS ih hI hA hR hkc hks)
  exact hW _ _ [(5, .int (nI (5 * 0))), (4, .ref 32), (3, .ref 31), (2, .ref 24), (1, .ref 1), (0, .ref 0)] _ _ _ _ (by simp) (main _ _ _ _ _ _ _ _ _ _ _ _ _ _ _ _ _ _ _ _ _ _ ⟨fun _ _ => no9_S, 1, rfl, by decide, by decide, fun f _ hx => by cases hx⟩ (fun _ _ _ _ _ => rfl) (fun _ _ _ => rfl) (by omega) (by omega))
end LB
