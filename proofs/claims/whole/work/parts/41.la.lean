section LA
/-! the law's calls, one by one -/
section R9
variable {S : Nat × (Nat → Int32)} {T : Nat → eM} {C : eC} {M : eM} {d : Nat} {Q : eQ} {K : eK} {pc n a b c : Nat} {ls : eL} {st r : List Value} {h : eH} {kc ks : Nat}
theorem r_sld {i : Nat} {x1 : Int32} (hat : eAt (mPr M) pc = some (.iaload, n, a, b, c)) (hi : x1 = nI i) (hN : i < S.1) (hS : S.1 < 2 ^ 31) (kk : K n ls (.int (S.2 i) :: r) h kc ks) : eStep S T C M d Q K pc ls (.int x1 :: .ref 0 :: r) h kc ks := by
  subst hi
  unfold eStep; rw [hat]
  show vp_in (nI i) S.1 ∧ K n ls (.int (S.2 (nI i).toNatClampNeg) :: r) h kc ks
  rw [nI_clamp (by omega)]
  exact ⟨vp_in_nI hN hS, kk⟩
theorem r_dald {q N : Nat} {f : Nat → UInt64} {j : Int32} {v : UInt64} (hat : eAt (mPr M) pc = some (.daload, n, a, b, c)) (hk : h.2[q]? = some (.inl (3, N, .inr (.inr (.inr (.inl f)))))) (hj : vp_in j N) (hv : f j.toNatClampNeg = v) (kk : K n ls (.double v :: r) h kc ks) : eStep S T C M d Q K pc ls (.int j :: .ref (q + 1) :: r) h kc ks := by
  subst hv
  unfold eStep; rw [hat]; exact ⟨N, f, hk, hj, kk⟩
end R9
def wX (P : Nat → Nat → Bool) (R u v w : Nat → Bool) (kb : Nat → Nat) (f g e : Nat → Int32) (i : Nat) : va_E := match i with
  | 0 => hwO
  | 1 => shA
  | 2 => fsS (P 0)
  | 3 => fsS (P 1)
  | 4 => fsS (P 2)
  | 5 => fsS (P 3)
  | 6 => fsS (P 4)
  | 7 => fsS (P 5)
  | 8 => fsS R
  | 9 => fsS u
  | 10 => thO
  | 11 => boO 12 13 14
  | 12 => slA
  | 13 => bdA
  | 14 => kpA kb
  | 15 => fsS v
  | 16 => fsS w
  | 17 => hrO 18
  | 18 => iaA f
  | 19 => hrO 20
  | 20 => iaA g
  | 21 => hrO 22
  | _ => iaA e
theorem mqe {dv : Value} {cm : Nat → Nat} {o o2 : Oc} {Q : eQ} {b : Bool} {X : Nat → va_E} {A ro : Nat → Int32} {T : List va_E} (h : o = o2) (hQ : mQ dv cm o2 Q b X A ro T) : mQ dv cm o Q b X A ro T := by rw [h]; exact hQ
theorem cmA_n : ∀ E, ¬ nI (cmA E) = 0
  | 0 => by decide +kernel
  | 1 => by decide +kernel
  | _ + 2 => by show ¬ nI 3 = 0; decide +kernel
theorem cmF_n : ∀ E, ¬ nI (cmF E) = 0
  | 0 => by decide +kernel
  | 1 => by decide +kernel
  | 2 => by decide +kernel
  | _ + 3 => by show ¬ nI 3 = 0; decide +kernel
theorem cmR_n : ∀ E, ¬ nI (cmR E) = 0
  | 0 => by decide +kernel
  | 1 => by decide +kernel
  | 2 => by decide +kernel
  | _ + 3 => by show ¬ nI 3 = 0; decide +kernel
theorem cmL_n : ∀ E, ¬ nI (cmL E) = 0
  | 0 => by decide +kernel
  | _ + 1 => by show ¬ nI 2 = 0; decide +kernel
theorem cmM_n : ∀ E, ¬ nI (cmM E) = 0
  | 0 => by decide +kernel
  | _ + 1 => by show ¬ nI 2 = 0; decide +kernel
theorem b2L (c : Bool) : (b2i c).toInt64 = bif c then lN 1 else lN 0 := by cases c <;> decide +kernel
def LN (K : eK) (j : Nat) : Prop := ∀ (b : Bool) (P : Nat → Nat → Bool) (R u v w : Nat → Bool) (kb : Nat → Nat) (f g e : Nat → Int32) (A mk ro nx pi : Nat → Int32) (kp : Nat → Int64) (km th : Int32) (oo : Nat → Int64) (od : Nat → UInt64) (kc ks : Nat), IvC P R → MI P A → RI R ro → kc ≤ 42 + 7 * j → ks ≤ 1715 + 42 * j → K 28 [(5, .int (nI (5 * j))), (4, .ref 32), (3, .ref 31), (2, .ref 24), (1, .ref 1), (0, .ref 0)] [] (b, LW P R u v w kb f g e A mk ro nx pi kp km th oo od) kc ks
set_option maxRecDepth 10000 in
/-- case 0: put -/
theorem lc_put {S : Nat × (Nat → Int32)} {d : Nat} {Q : eQ} {K : eK} (hK : ∀ (pc : Nat) (ls : eL) (st : List Value) (h : eH) (kc ks : Nat), eStep S MT (okCall S MT (d + 9)) ML_law (d + 9 + 1) Q K pc ls st h kc ks → K pc ls st h kc ks) (hW : ∀ (pc : Nat) (ls ls2 : eL) (st : List Value) (h : eH) (kc ks : Nat), (∀ q ∈ ls2, q ∈ ls) → K pc ls2 st h kc ks → K pc ls st h kc ks) {j : Nat} (h5 : 5 * j + 5 ≤ S.1) (hS : S.1 ≤ 2560) (ih : LN K (j + 1)) {b : Bool} {P : Nat → Nat → Bool} {R u v w : Nat → Bool} {kb : Nat → Nat} {f g e : Nat → Int32} {A mk ro nx pi : Nat → Int32} {kp : Nat → Int64} {km th : Int32} {oo : Nat → Int64} {od : Nat → UInt64} {kc ks : Nat} (hI : IvC P R) (hA : MI P A) (hR : RI R ro) (hkc : kc ≤ 42 + 7 * j) (hks : ks ≤ 1715 + 42 * j) : K 224 [(5, .int (nI (5 * j))), (4, .ref 32), (3, .ref 31), (2, .ref 24), (1, .ref 1), (0, .ref 0)] [] (b, LW P R u v w kb f g e A mk ro nx pi kp km th oo od) kc ks := by
  iterate 5 refine hK _ _ _ _ _ _ (?_ : K _ _ _ _ _ _)
  refine hK _ _ _ _ _ _ (r_sld rfl (i := 5 * j + 1) (nI_add _ _) (by omega) (by omega) (?_ : K _ _ _ _ _ _))
  iterate 4 refine hK _ _ _ _ _ _ (?_ : K _ _ _ _ _ _)
  refine hK _ _ _ _ _ _ (r_sld rfl (i := 5 * j + 2) (nI_add _ _) (by omega) (by omega) (?_ : K _ _ _ _ _ _))
  iterate 1 refine hK _ _ _ _ _ _ (?_ : K _ _ _ _ _ _)
  rcases ho : o_put P R (S.2 (5 * j + 1)) (S.2 (5 * j + 2)) with E | ⟨r9, P2, R2⟩
  · skip
    refine hK _ _ _ _ _ _ (r_callN rfl (fun _ => rfl) ⟨rfl, by show kc + 2 ≤ 601024; omega, by show ks + 12 ≤ 7293034; omega⟩ (kL_put hI ho (fun u v w kb f g e => ?_)))
    show K 241 _ [.int (nI (cmA E))] (false, LW P R u v w kb f g e A mk ro nx pi kp km th oo od) (kc + 2) (ks + 12)
    iterate 6 refine hK _ _ _ _ _ _ (?_ : K _ _ _ _ _ _)
    refine hK _ _ _ _ _ _ (r_sld rfl (i := 5 * j + 1) (nI_add _ _) (by omega) (by omega) (?_ : K _ _ _ _ _ _))
    iterate 4 refine hK _ _ _ _ _ _ (?_ : K _ _ _ _ _ _)
    refine hK _ _ _ _ _ _ (r_sld rfl (i := 5 * j + 2) (nI_add _ _) (by omega) (by omega) (?_ : K _ _ _ _ _ _))
    refine hK _ _ _ _ _ _ (r_callV rfl (fun _ => rfl) rfl ⟨rfl, by show kc + 2 + 0 ≤ 601024; omega, by show ks + 12 + 0 ≤ 7293034; omega⟩ (kX7_put (X := wX P R u v w kb f g e) hI hA hR (mqe ho (fun mk nx pi kp km => ?_))))
    show K 259 _ [.int (nI 0)] (false, LW P R u v w kb f g e A mk ro nx pi kp km (nI (cmA E)) oo od) (kc + 2) (ks + 12)
    iterate 2 refine hK _ _ _ _ _ _ (?_ : K _ _ _ _ _ _)
    refine hK _ _ _ _ _ _ (r_callV rfl (fun _ => rfl) rfl ⟨rfl, by show kc + 2 + 0 ≤ 601024; omega, by show ks + 12 + 0 ≤ 7293034; omega⟩ (kX7_thrown (X := wX P R u v w kb f g e) ?_))
    show K 265 _ [.int (nI (cmA E))] (false, LW P R u v w kb f g e A mk ro nx pi kp km (nI (cmA E)) oo od) (kc + 2) (ks + 12)
    iterate 1 refine hK _ _ _ _ _ _ (?_ : K _ _ _ _ _ _)
    refine hK _ _ _ _ _ _ (And.intro (fun _ => ?_) (fun c9 => absurd (rfl) c9))
    iterate 1 refine hK _ _ _ _ _ _ (?_ : K _ _ _ _ _ _)
    refine hK _ _ _ _ _ _ (And.intro (fun c9 => absurd c9 (cmA_n E)) (fun _ => ?_))
    iterate 3 refine hK _ _ _ _ _ _ (?_ : K _ _ _ _ _ _)
    show K 28 ((5, .int (nI (5 * j) + nI 5)) :: _) _ _ _ _
    rw [nI_add (5 * j) 5, show 5 * j + 5 = 5 * (j + 1) by omega]
    exact hW _ _ [(5, .int (nI (5 * (j + 1)))), (4, .ref 32), (3, .ref 31), (2, .ref 24), (1, .ref 1), (0, .ref 0)] _ _ _ _ (by simp) (ih _ _ _ _ _ _ _ _ _ _ _ _ _ _ _ _ _ _ _ _ _ _ hI hA hR (by omega) (by omega))
  · skip
    have hk := oK_put (P := P) (R := R) (x := S.2 (5 * j + 1)) (y := S.2 (5 * j + 2))
    rw [ho] at hk
    obtain ⟨x9, rfl⟩ := hk
    have hJ := oJ_put hI (x := S.2 (5 * j + 1)) (y := S.2 (5 * j + 2))
    rw [ho] at hJ
    have hJ : IvC P2 R2 := hJ
    refine hK _ _ _ _ _ _ (r_callN rfl (fun _ => rfl) ⟨rfl, by show kc + 2 ≤ 601024; omega, by show ks + 12 ≤ 7293034; omega⟩ (kL_put hI ho (fun u v w kb f g e oo2 hoo => ?_)))
    show K 241 _ [.int (nI 0)] (b, LW P2 R2 u v w kb f g e A mk ro nx pi kp km th oo2 od) (kc + 2) (ks + 12)
    iterate 6 refine hK _ _ _ _ _ _ (?_ : K _ _ _ _ _ _)
    refine hK _ _ _ _ _ _ (r_sld rfl (i := 5 * j + 1) (nI_add _ _) (by omega) (by omega) (?_ : K _ _ _ _ _ _))
    iterate 4 refine hK _ _ _ _ _ _ (?_ : K _ _ _ _ _ _)
    refine hK _ _ _ _ _ _ (r_sld rfl (i := 5 * j + 2) (nI_add _ _) (by omega) (by omega) (?_ : K _ _ _ _ _ _))
    refine hK _ _ _ _ _ _ (r_callV rfl (fun _ => rfl) rfl ⟨rfl, by show kc + 2 + 0 ≤ 601024; omega, by show ks + 12 + 0 ≤ 7293034; omega⟩ (kX7_put (X := wX P2 R2 u v w kb f g e) hI hA hR (mqe ho (fun A2 mk ro2 nx pi kp km hA2 hR2 => ?_))))
    show K 259 _ [.int x9] (b, LW P2 R2 u v w kb f g e A2 mk ro2 nx pi kp km (nI 0) oo2 od) (kc + 2) (ks + 12)
    iterate 2 refine hK _ _ _ _ _ _ (?_ : K _ _ _ _ _ _)
    refine hK _ _ _ _ _ _ (r_callV rfl (fun _ => rfl) rfl ⟨rfl, by show kc + 2 + 0 ≤ 601024; omega, by show ks + 12 + 0 ≤ 7293034; omega⟩ (kX7_thrown (X := wX P2 R2 u v w kb f g e) ?_))
    show K 265 _ [.int (nI 0)] (b, LW P2 R2 u v w kb f g e A2 mk ro2 nx pi kp km (nI 0) oo2 od) (kc + 2) (ks + 12)
    iterate 1 refine hK _ _ _ _ _ _ (?_ : K _ _ _ _ _ _)
    refine hK _ _ _ _ _ _ (And.intro (fun _ => ?_) (fun c9 => absurd (rfl) c9))
    iterate 1 refine hK _ _ _ _ _ _ (?_ : K _ _ _ _ _ _)
    refine hK _ _ _ _ _ _ (And.intro (fun _ => ?_) (fun c9 => absurd (rfl) c9))
    iterate 2 refine hK _ _ _ _ _ _ (?_ : K _ _ _ _ _ _)
    refine hK _ _ _ _ _ _ (r_lald' (v := x9.toInt64) rfl (N := 1) (f := oo2) rfl (vp_in_nI (by decide) (by decide)) (by rw [nI_clamp (by decide)]; exact hoo) (?_ : K _ _ _ _ _ _))
    iterate 3 refine hK _ _ _ _ _ _ (?_ : K _ _ _ _ _ _)
    refine hK _ _ _ _ _ _ (And.intro (fun _ => ?_) (fun c9 => absurd ((lg_cmp_eq _ _).mpr rfl) c9))
    iterate 3 refine hK _ _ _ _ _ _ (?_ : K _ _ _ _ _ _)
    show K 28 ((5, .int (nI (5 * j) + nI 5)) :: _) _ _ _ _
    rw [nI_add (5 * j) 5, show 5 * j + 5 = 5 * (j + 1) by omega]
    exact hW _ _ [(5, .int (nI (5 * (j + 1)))), (4, .ref 32), (3, .ref 31), (2, .ref 24), (1, .ref 1), (0, .ref 0)] _ _ _ _ (by simp) (ih _ _ _ _ _ _ _ _ _ _ _ _ _ _ _ _ _ _ _ _ _ _ hJ hA2 hR2 (by omega) (by omega))

set_option maxRecDepth 10000 in
/-- case 1: take -/
theorem lc_take {S : Nat × (Nat → Int32)} {d : Nat} {Q : eQ} {K : eK} (hK : ∀ (pc : Nat) (ls : eL) (st : List Value) (h : eH) (kc ks : Nat), eStep S MT (okCall S MT (d + 9)) ML_law (d + 9 + 1) Q K pc ls st h kc ks → K pc ls st h kc ks) (hW : ∀ (pc : Nat) (ls ls2 : eL) (st : List Value) (h : eH) (kc ks : Nat), (∀ q ∈ ls2, q ∈ ls) → K pc ls2 st h kc ks → K pc ls st h kc ks) {j : Nat} (h5 : 5 * j + 5 ≤ S.1) (hS : S.1 ≤ 2560) (ih : LN K (j + 1)) {b : Bool} {P : Nat → Nat → Bool} {R u v w : Nat → Bool} {kb : Nat → Nat} {f g e : Nat → Int32} {A mk ro nx pi : Nat → Int32} {kp : Nat → Int64} {km th : Int32} {oo : Nat → Int64} {od : Nat → UInt64} {kc ks : Nat} (hI : IvC P R) (hA : MI P A) (hR : RI R ro) (hkc : kc ≤ 42 + 7 * j) (hks : ks ≤ 1715 + 42 * j) : K 292 [(5, .int (nI (5 * j))), (4, .ref 32), (3, .ref 31), (2, .ref 24), (1, .ref 1), (0, .ref 0)] [] (b, LW P R u v w kb f g e A mk ro nx pi kp km th oo od) kc ks := by
  iterate 5 refine hK _ _ _ _ _ _ (?_ : K _ _ _ _ _ _)
  refine hK _ _ _ _ _ _ (r_sld rfl (i := 5 * j + 1) (nI_add _ _) (by omega) (by omega) (?_ : K _ _ _ _ _ _))
  iterate 4 refine hK _ _ _ _ _ _ (?_ : K _ _ _ _ _ _)
  refine hK _ _ _ _ _ _ (r_sld rfl (i := 5 * j + 2) (nI_add _ _) (by omega) (by omega) (?_ : K _ _ _ _ _ _))
  iterate 1 refine hK _ _ _ _ _ _ (?_ : K _ _ _ _ _ _)
  rcases ho : o_take P R (S.2 (5 * j + 1)) (S.2 (5 * j + 2)) with E | ⟨r9, P2, R2⟩
  · skip
    refine hK _ _ _ _ _ _ (r_callN rfl (fun _ => rfl) ⟨rfl, by show kc + 3 ≤ 601024; omega, by show ks + 18 ≤ 7293034; omega⟩ (kL_take hI ho (fun u v w kb f g e => ?_)))
    show K 309 _ [.int (nI (cmA E))] (false, LW P R u v w kb f g e A mk ro nx pi kp km th oo od) (kc + 3) (ks + 18)
    iterate 6 refine hK _ _ _ _ _ _ (?_ : K _ _ _ _ _ _)
    refine hK _ _ _ _ _ _ (r_sld rfl (i := 5 * j + 1) (nI_add _ _) (by omega) (by omega) (?_ : K _ _ _ _ _ _))
    iterate 4 refine hK _ _ _ _ _ _ (?_ : K _ _ _ _ _ _)
    refine hK _ _ _ _ _ _ (r_sld rfl (i := 5 * j + 2) (nI_add _ _) (by omega) (by omega) (?_ : K _ _ _ _ _ _))
    refine hK _ _ _ _ _ _ (r_callV rfl (fun _ => rfl) rfl ⟨rfl, by show kc + 3 + 0 ≤ 601024; omega, by show ks + 18 + 0 ≤ 7293034; omega⟩ (kX7_take (X := wX P R u v w kb f g e) hI hA hR (mqe ho (fun mk nx pi kp km => ?_))))
    show K 327 _ [.int (nI 0)] (false, LW P R u v w kb f g e A mk ro nx pi kp km (nI (cmA E)) oo od) (kc + 3) (ks + 18)
    iterate 2 refine hK _ _ _ _ _ _ (?_ : K _ _ _ _ _ _)
    refine hK _ _ _ _ _ _ (r_callV rfl (fun _ => rfl) rfl ⟨rfl, by show kc + 3 + 0 ≤ 601024; omega, by show ks + 18 + 0 ≤ 7293034; omega⟩ (kX7_thrown (X := wX P R u v w kb f g e) ?_))
    show K 333 _ [.int (nI (cmA E))] (false, LW P R u v w kb f g e A mk ro nx pi kp km (nI (cmA E)) oo od) (kc + 3) (ks + 18)
    iterate 1 refine hK _ _ _ _ _ _ (?_ : K _ _ _ _ _ _)
    refine hK _ _ _ _ _ _ (And.intro (fun _ => ?_) (fun c9 => absurd (rfl) c9))
    iterate 1 refine hK _ _ _ _ _ _ (?_ : K _ _ _ _ _ _)
    refine hK _ _ _ _ _ _ (And.intro (fun c9 => absurd c9 (cmA_n E)) (fun _ => ?_))
    iterate 3 refine hK _ _ _ _ _ _ (?_ : K _ _ _ _ _ _)
    show K 28 ((5, .int (nI (5 * j) + nI 5)) :: _) _ _ _ _
    rw [nI_add (5 * j) 5, show 5 * j + 5 = 5 * (j + 1) by omega]
    exact hW _ _ [(5, .int (nI (5 * (j + 1)))), (4, .ref 32), (3, .ref 31), (2, .ref 24), (1, .ref 1), (0, .ref 0)] _ _ _ _ (by simp) (ih _ _ _ _ _ _ _ _ _ _ _ _ _ _ _ _ _ _ _ _ _ _ hI hA hR (by omega) (by omega))
  · skip
    have hk := oK_take (P := P) (R := R) (x := S.2 (5 * j + 1)) (y := S.2 (5 * j + 2))
    rw [ho] at hk
    obtain ⟨x9, rfl⟩ := hk
    have hJ := oJ_take hI (x := S.2 (5 * j + 1)) (y := S.2 (5 * j + 2))
    rw [ho] at hJ
    have hJ : IvC P2 R2 := hJ
    refine hK _ _ _ _ _ _ (r_callN rfl (fun _ => rfl) ⟨rfl, by show kc + 3 ≤ 601024; omega, by show ks + 18 ≤ 7293034; omega⟩ (kL_take hI ho (fun u v w kb f g e oo2 hoo => ?_)))
    show K 309 _ [.int (nI 0)] (b, LW P2 R2 u v w kb f g e A mk ro nx pi kp km th oo2 od) (kc + 3) (ks + 18)
    iterate 6 refine hK _ _ _ _ _ _ (?_ : K _ _ _ _ _ _)
    refine hK _ _ _ _ _ _ (r_sld rfl (i := 5 * j + 1) (nI_add _ _) (by omega) (by omega) (?_ : K _ _ _ _ _ _))
    iterate 4 refine hK _ _ _ _ _ _ (?_ : K _ _ _ _ _ _)
    refine hK _ _ _ _ _ _ (r_sld rfl (i := 5 * j + 2) (nI_add _ _) (by omega) (by omega) (?_ : K _ _ _ _ _ _))
    refine hK _ _ _ _ _ _ (r_callV rfl (fun _ => rfl) rfl ⟨rfl, by show kc + 3 + 0 ≤ 601024; omega, by show ks + 18 + 0 ≤ 7293034; omega⟩ (kX7_take (X := wX P2 R2 u v w kb f g e) hI hA hR (mqe ho (fun A2 mk ro2 nx pi kp km hA2 hR2 => ?_))))
    show K 327 _ [.int x9] (b, LW P2 R2 u v w kb f g e A2 mk ro2 nx pi kp km (nI 0) oo2 od) (kc + 3) (ks + 18)
    iterate 2 refine hK _ _ _ _ _ _ (?_ : K _ _ _ _ _ _)
    refine hK _ _ _ _ _ _ (r_callV rfl (fun _ => rfl) rfl ⟨rfl, by show kc + 3 + 0 ≤ 601024; omega, by show ks + 18 + 0 ≤ 7293034; omega⟩ (kX7_thrown (X := wX P2 R2 u v w kb f g e) ?_))
    show K 333 _ [.int (nI 0)] (b, LW P2 R2 u v w kb f g e A2 mk ro2 nx pi kp km (nI 0) oo2 od) (kc + 3) (ks + 18)
    iterate 1 refine hK _ _ _ _ _ _ (?_ : K _ _ _ _ _ _)
    refine hK _ _ _ _ _ _ (And.intro (fun _ => ?_) (fun c9 => absurd (rfl) c9))
    iterate 1 refine hK _ _ _ _ _ _ (?_ : K _ _ _ _ _ _)
    refine hK _ _ _ _ _ _ (And.intro (fun _ => ?_) (fun c9 => absurd (rfl) c9))
    iterate 2 refine hK _ _ _ _ _ _ (?_ : K _ _ _ _ _ _)
    refine hK _ _ _ _ _ _ (r_lald' (v := x9.toInt64) rfl (N := 1) (f := oo2) rfl (vp_in_nI (by decide) (by decide)) (by rw [nI_clamp (by decide)]; exact hoo) (?_ : K _ _ _ _ _ _))
    iterate 3 refine hK _ _ _ _ _ _ (?_ : K _ _ _ _ _ _)
    refine hK _ _ _ _ _ _ (And.intro (fun _ => ?_) (fun c9 => absurd ((lg_cmp_eq _ _).mpr rfl) c9))
    iterate 3 refine hK _ _ _ _ _ _ (?_ : K _ _ _ _ _ _)
    show K 28 ((5, .int (nI (5 * j) + nI 5)) :: _) _ _ _ _
    rw [nI_add (5 * j) 5, show 5 * j + 5 = 5 * (j + 1) by omega]
    exact hW _ _ [(5, .int (nI (5 * (j + 1)))), (4, .ref 32), (3, .ref 31), (2, .ref 24), (1, .ref 1), (0, .ref 0)] _ _ _ _ (by simp) (ih _ _ _ _ _ _ _ _ _ _ _ _ _ _ _ _ _ _ _ _ _ _ hJ hA2 hR2 (by omega) (by omega))

set_option maxRecDepth 10000 in
/-- case 2: clear -/
theorem lc_clear {S : Nat × (Nat → Int32)} {d : Nat} {Q : eQ} {K : eK} (hK : ∀ (pc : Nat) (ls : eL) (st : List Value) (h : eH) (kc ks : Nat), eStep S MT (okCall S MT (d + 9)) ML_law (d + 9 + 1) Q K pc ls st h kc ks → K pc ls st h kc ks) (hW : ∀ (pc : Nat) (ls ls2 : eL) (st : List Value) (h : eH) (kc ks : Nat), (∀ q ∈ ls2, q ∈ ls) → K pc ls2 st h kc ks → K pc ls st h kc ks) {j : Nat} (h5 : 5 * j + 5 ≤ S.1) (hS : S.1 ≤ 2560) (ih : LN K (j + 1)) {b : Bool} {P : Nat → Nat → Bool} {R u v w : Nat → Bool} {kb : Nat → Nat} {f g e : Nat → Int32} {A mk ro nx pi : Nat → Int32} {kp : Nat → Int64} {km th : Int32} {oo : Nat → Int64} {od : Nat → UInt64} {kc ks : Nat} (hI : IvC P R) (hA : MI P A) (hR : RI R ro) (hkc : kc ≤ 42 + 7 * j) (hks : ks ≤ 1715 + 42 * j) : K 360 [(5, .int (nI (5 * j))), (4, .ref 32), (3, .ref 31), (2, .ref 24), (1, .ref 1), (0, .ref 0)] [] (b, LW P R u v w kb f g e A mk ro nx pi kp km th oo od) kc ks := by
  iterate 5 refine hK _ _ _ _ _ _ (?_ : K _ _ _ _ _ _)
  refine hK _ _ _ _ _ _ (r_sld rfl (i := 5 * j + 1) (nI_add _ _) (by omega) (by omega) (?_ : K _ _ _ _ _ _))
  iterate 1 refine hK _ _ _ _ _ _ (?_ : K _ _ _ _ _ _)
  rcases ho : o_clear P R (S.2 (5 * j + 1)) with E | ⟨r9, P2, R2⟩
  · skip
    refine hK _ _ _ _ _ _ (r_callN rfl (fun _ => rfl) ⟨rfl, by show kc + 1 ≤ 601024; omega, by show ks + 6 ≤ 7293034; omega⟩ (kL_clear hI ho (fun u v w kb f g e => ?_)))
    show K 371 _ [.int (nI (cmA E))] (false, LW P R u v w kb f g e A mk ro nx pi kp km th oo od) (kc + 1) (ks + 6)
    iterate 6 refine hK _ _ _ _ _ _ (?_ : K _ _ _ _ _ _)
    refine hK _ _ _ _ _ _ (r_sld rfl (i := 5 * j + 1) (nI_add _ _) (by omega) (by omega) (?_ : K _ _ _ _ _ _))
    refine hK _ _ _ _ _ _ (r_callV rfl (fun _ => rfl) rfl ⟨rfl, by show kc + 1 + 0 ≤ 601024; omega, by show ks + 6 + 0 ≤ 7293034; omega⟩ (kX7_clear (X := wX P R u v w kb f g e) hI hA hR (mqe ho (fun mk nx pi kp km => ?_))))
    show K 383 _ [.int (nI 0)] (false, LW P R u v w kb f g e A mk ro nx pi kp km (nI (cmA E)) oo od) (kc + 1) (ks + 6)
    iterate 2 refine hK _ _ _ _ _ _ (?_ : K _ _ _ _ _ _)
    refine hK _ _ _ _ _ _ (r_callV rfl (fun _ => rfl) rfl ⟨rfl, by show kc + 1 + 0 ≤ 601024; omega, by show ks + 6 + 0 ≤ 7293034; omega⟩ (kX7_thrown (X := wX P R u v w kb f g e) ?_))
    show K 389 _ [.int (nI (cmA E))] (false, LW P R u v w kb f g e A mk ro nx pi kp km (nI (cmA E)) oo od) (kc + 1) (ks + 6)
    iterate 1 refine hK _ _ _ _ _ _ (?_ : K _ _ _ _ _ _)
    refine hK _ _ _ _ _ _ (And.intro (fun _ => ?_) (fun c9 => absurd (rfl) c9))
    iterate 1 refine hK _ _ _ _ _ _ (?_ : K _ _ _ _ _ _)
    refine hK _ _ _ _ _ _ (And.intro (fun c9 => absurd c9 (cmA_n E)) (fun _ => ?_))
    iterate 3 refine hK _ _ _ _ _ _ (?_ : K _ _ _ _ _ _)
    show K 28 ((5, .int (nI (5 * j) + nI 5)) :: _) _ _ _ _
    rw [nI_add (5 * j) 5, show 5 * j + 5 = 5 * (j + 1) by omega]
    exact hW _ _ [(5, .int (nI (5 * (j + 1)))), (4, .ref 32), (3, .ref 31), (2, .ref 24), (1, .ref 1), (0, .ref 0)] _ _ _ _ (by simp) (ih _ _ _ _ _ _ _ _ _ _ _ _ _ _ _ _ _ _ _ _ _ _ hI hA hR (by omega) (by omega))
  · skip
    have hk := oK_clear (P := P) (R := R) (x := S.2 (5 * j + 1))
    rw [ho] at hk
    obtain ⟨x9, rfl⟩ := hk
    have hJ := oJ_clear hI (x := S.2 (5 * j + 1))
    rw [ho] at hJ
    have hJ : IvC P2 R2 := hJ
    refine hK _ _ _ _ _ _ (r_callN rfl (fun _ => rfl) ⟨rfl, by show kc + 1 ≤ 601024; omega, by show ks + 6 ≤ 7293034; omega⟩ (kL_clear hI ho (fun u v w kb f g e oo2 hoo => ?_)))
    show K 371 _ [.int (nI 0)] (b, LW P2 R2 u v w kb f g e A mk ro nx pi kp km th oo2 od) (kc + 1) (ks + 6)
    iterate 6 refine hK _ _ _ _ _ _ (?_ : K _ _ _ _ _ _)
    refine hK _ _ _ _ _ _ (r_sld rfl (i := 5 * j + 1) (nI_add _ _) (by omega) (by omega) (?_ : K _ _ _ _ _ _))
    refine hK _ _ _ _ _ _ (r_callV rfl (fun _ => rfl) rfl ⟨rfl, by show kc + 1 + 0 ≤ 601024; omega, by show ks + 6 + 0 ≤ 7293034; omega⟩ (kX7_clear (X := wX P2 R2 u v w kb f g e) hI hA hR (mqe ho (fun A2 mk ro2 nx pi kp km hA2 hR2 => ?_))))
    show K 383 _ [.int x9] (b, LW P2 R2 u v w kb f g e A2 mk ro2 nx pi kp km (nI 0) oo2 od) (kc + 1) (ks + 6)
    iterate 2 refine hK _ _ _ _ _ _ (?_ : K _ _ _ _ _ _)
    refine hK _ _ _ _ _ _ (r_callV rfl (fun _ => rfl) rfl ⟨rfl, by show kc + 1 + 0 ≤ 601024; omega, by show ks + 6 + 0 ≤ 7293034; omega⟩ (kX7_thrown (X := wX P2 R2 u v w kb f g e) ?_))
    show K 389 _ [.int (nI 0)] (b, LW P2 R2 u v w kb f g e A2 mk ro2 nx pi kp km (nI 0) oo2 od) (kc + 1) (ks + 6)
    iterate 1 refine hK _ _ _ _ _ _ (?_ : K _ _ _ _ _ _)
    refine hK _ _ _ _ _ _ (And.intro (fun _ => ?_) (fun c9 => absurd (rfl) c9))
    iterate 1 refine hK _ _ _ _ _ _ (?_ : K _ _ _ _ _ _)
    refine hK _ _ _ _ _ _ (And.intro (fun _ => ?_) (fun c9 => absurd (rfl) c9))
    iterate 2 refine hK _ _ _ _ _ _ (?_ : K _ _ _ _ _ _)
    refine hK _ _ _ _ _ _ (r_lald' (v := x9.toInt64) rfl (N := 1) (f := oo2) rfl (vp_in_nI (by decide) (by decide)) (by rw [nI_clamp (by decide)]; exact hoo) (?_ : K _ _ _ _ _ _))
    iterate 3 refine hK _ _ _ _ _ _ (?_ : K _ _ _ _ _ _)
    refine hK _ _ _ _ _ _ (And.intro (fun _ => ?_) (fun c9 => absurd ((lg_cmp_eq _ _).mpr rfl) c9))
    iterate 3 refine hK _ _ _ _ _ _ (?_ : K _ _ _ _ _ _)
    show K 28 ((5, .int (nI (5 * j) + nI 5)) :: _) _ _ _ _
    rw [nI_add (5 * j) 5, show 5 * j + 5 = 5 * (j + 1) by omega]
    exact hW _ _ [(5, .int (nI (5 * (j + 1)))), (4, .ref 32), (3, .ref 31), (2, .ref 24), (1, .ref 1), (0, .ref 0)] _ _ _ _ (by simp) (ih _ _ _ _ _ _ _ _ _ _ _ _ _ _ _ _ _ _ _ _ _ _ hJ hA2 hR2 (by omega) (by omega))

set_option maxRecDepth 10000 in
/-- case 3: copy -/
theorem lc_copy {S : Nat × (Nat → Int32)} {d : Nat} {Q : eQ} {K : eK} (hK : ∀ (pc : Nat) (ls : eL) (st : List Value) (h : eH) (kc ks : Nat), eStep S MT (okCall S MT (d + 9)) ML_law (d + 9 + 1) Q K pc ls st h kc ks → K pc ls st h kc ks) (hW : ∀ (pc : Nat) (ls ls2 : eL) (st : List Value) (h : eH) (kc ks : Nat), (∀ q ∈ ls2, q ∈ ls) → K pc ls2 st h kc ks → K pc ls st h kc ks) {j : Nat} (h5 : 5 * j + 5 ≤ S.1) (hS : S.1 ≤ 2560) (ih : LN K (j + 1)) {b : Bool} {P : Nat → Nat → Bool} {R u v w : Nat → Bool} {kb : Nat → Nat} {f g e : Nat → Int32} {A mk ro nx pi : Nat → Int32} {kp : Nat → Int64} {km th : Int32} {oo : Nat → Int64} {od : Nat → UInt64} {kc ks : Nat} (hI : IvC P R) (hA : MI P A) (hR : RI R ro) (hkc : kc ≤ 42 + 7 * j) (hks : ks ≤ 1715 + 42 * j) : K 416 [(5, .int (nI (5 * j))), (4, .ref 32), (3, .ref 31), (2, .ref 24), (1, .ref 1), (0, .ref 0)] [] (b, LW P R u v w kb f g e A mk ro nx pi kp km th oo od) kc ks := by
  iterate 5 refine hK _ _ _ _ _ _ (?_ : K _ _ _ _ _ _)
  refine hK _ _ _ _ _ _ (r_sld rfl (i := 5 * j + 1) (nI_add _ _) (by omega) (by omega) (?_ : K _ _ _ _ _ _))
  iterate 4 refine hK _ _ _ _ _ _ (?_ : K _ _ _ _ _ _)
  refine hK _ _ _ _ _ _ (r_sld rfl (i := 5 * j + 2) (nI_add _ _) (by omega) (by omega) (?_ : K _ _ _ _ _ _))
  iterate 1 refine hK _ _ _ _ _ _ (?_ : K _ _ _ _ _ _)
  rcases ho : o_copy P R (S.2 (5 * j + 1)) (S.2 (5 * j + 2)) with E | ⟨r9, P2, R2⟩
  · skip
    refine hK _ _ _ _ _ _ (r_callN rfl (fun _ => rfl) ⟨rfl, by show kc + 2 ≤ 601024; omega, by show ks + 12 ≤ 7293034; omega⟩ (kL_copy hI ho (fun u v w kb f g e => ?_)))
    show K 433 _ [.int (nI (cmA E))] (false, LW P R u v w kb f g e A mk ro nx pi kp km th oo od) (kc + 2) (ks + 12)
    iterate 6 refine hK _ _ _ _ _ _ (?_ : K _ _ _ _ _ _)
    refine hK _ _ _ _ _ _ (r_sld rfl (i := 5 * j + 1) (nI_add _ _) (by omega) (by omega) (?_ : K _ _ _ _ _ _))
    iterate 4 refine hK _ _ _ _ _ _ (?_ : K _ _ _ _ _ _)
    refine hK _ _ _ _ _ _ (r_sld rfl (i := 5 * j + 2) (nI_add _ _) (by omega) (by omega) (?_ : K _ _ _ _ _ _))
    refine hK _ _ _ _ _ _ (r_callV rfl (fun _ => rfl) rfl ⟨rfl, by show kc + 2 + 0 ≤ 601024; omega, by show ks + 12 + 0 ≤ 7293034; omega⟩ (kX7_copy (X := wX P R u v w kb f g e) hI hA hR (mqe ho (fun mk nx pi kp km => ?_))))
    show K 451 _ [.int (nI 0)] (false, LW P R u v w kb f g e A mk ro nx pi kp km (nI (cmA E)) oo od) (kc + 2) (ks + 12)
    iterate 2 refine hK _ _ _ _ _ _ (?_ : K _ _ _ _ _ _)
    refine hK _ _ _ _ _ _ (r_callV rfl (fun _ => rfl) rfl ⟨rfl, by show kc + 2 + 0 ≤ 601024; omega, by show ks + 12 + 0 ≤ 7293034; omega⟩ (kX7_thrown (X := wX P R u v w kb f g e) ?_))
    show K 457 _ [.int (nI (cmA E))] (false, LW P R u v w kb f g e A mk ro nx pi kp km (nI (cmA E)) oo od) (kc + 2) (ks + 12)
    iterate 1 refine hK _ _ _ _ _ _ (?_ : K _ _ _ _ _ _)
    refine hK _ _ _ _ _ _ (And.intro (fun _ => ?_) (fun c9 => absurd (rfl) c9))
    iterate 1 refine hK _ _ _ _ _ _ (?_ : K _ _ _ _ _ _)
    refine hK _ _ _ _ _ _ (And.intro (fun c9 => absurd c9 (cmA_n E)) (fun _ => ?_))
    iterate 3 refine hK _ _ _ _ _ _ (?_ : K _ _ _ _ _ _)
    show K 28 ((5, .int (nI (5 * j) + nI 5)) :: _) _ _ _ _
    rw [nI_add (5 * j) 5, show 5 * j + 5 = 5 * (j + 1) by omega]
    exact hW _ _ [(5, .int (nI (5 * (j + 1)))), (4, .ref 32), (3, .ref 31), (2, .ref 24), (1, .ref 1), (0, .ref 0)] _ _ _ _ (by simp) (ih _ _ _ _ _ _ _ _ _ _ _ _ _ _ _ _ _ _ _ _ _ _ hI hA hR (by omega) (by omega))
  · skip
    have hk := oK_copy (P := P) (R := R) (x := S.2 (5 * j + 1)) (y := S.2 (5 * j + 2))
    rw [ho] at hk
    obtain ⟨x9, rfl⟩ := hk
    have hJ := oJ_copy hI (x := S.2 (5 * j + 1)) (y := S.2 (5 * j + 2))
    rw [ho] at hJ
    have hJ : IvC P2 R2 := hJ
    refine hK _ _ _ _ _ _ (r_callN rfl (fun _ => rfl) ⟨rfl, by show kc + 2 ≤ 601024; omega, by show ks + 12 ≤ 7293034; omega⟩ (kL_copy hI ho (fun u v w kb f g e oo2 hoo => ?_)))
    show K 433 _ [.int (nI 0)] (b, LW P2 R2 u v w kb f g e A mk ro nx pi kp km th oo2 od) (kc + 2) (ks + 12)
    iterate 6 refine hK _ _ _ _ _ _ (?_ : K _ _ _ _ _ _)
    refine hK _ _ _ _ _ _ (r_sld rfl (i := 5 * j + 1) (nI_add _ _) (by omega) (by omega) (?_ : K _ _ _ _ _ _))
    iterate 4 refine hK _ _ _ _ _ _ (?_ : K _ _ _ _ _ _)
    refine hK _ _ _ _ _ _ (r_sld rfl (i := 5 * j + 2) (nI_add _ _) (by omega) (by omega) (?_ : K _ _ _ _ _ _))
    refine hK _ _ _ _ _ _ (r_callV rfl (fun _ => rfl) rfl ⟨rfl, by show kc + 2 + 0 ≤ 601024; omega, by show ks + 12 + 0 ≤ 7293034; omega⟩ (kX7_copy (X := wX P2 R2 u v w kb f g e) hI hA hR (mqe ho (fun A2 mk ro2 nx pi kp km hA2 hR2 => ?_))))
    show K 451 _ [.int x9] (b, LW P2 R2 u v w kb f g e A2 mk ro2 nx pi kp km (nI 0) oo2 od) (kc + 2) (ks + 12)
    iterate 2 refine hK _ _ _ _ _ _ (?_ : K _ _ _ _ _ _)
    refine hK _ _ _ _ _ _ (r_callV rfl (fun _ => rfl) rfl ⟨rfl, by show kc + 2 + 0 ≤ 601024; omega, by show ks + 12 + 0 ≤ 7293034; omega⟩ (kX7_thrown (X := wX P2 R2 u v w kb f g e) ?_))
    show K 457 _ [.int (nI 0)] (b, LW P2 R2 u v w kb f g e A2 mk ro2 nx pi kp km (nI 0) oo2 od) (kc + 2) (ks + 12)
    iterate 1 refine hK _ _ _ _ _ _ (?_ : K _ _ _ _ _ _)
    refine hK _ _ _ _ _ _ (And.intro (fun _ => ?_) (fun c9 => absurd (rfl) c9))
    iterate 1 refine hK _ _ _ _ _ _ (?_ : K _ _ _ _ _ _)
    refine hK _ _ _ _ _ _ (And.intro (fun _ => ?_) (fun c9 => absurd (rfl) c9))
    iterate 2 refine hK _ _ _ _ _ _ (?_ : K _ _ _ _ _ _)
    refine hK _ _ _ _ _ _ (r_lald' (v := x9.toInt64) rfl (N := 1) (f := oo2) rfl (vp_in_nI (by decide) (by decide)) (by rw [nI_clamp (by decide)]; exact hoo) (?_ : K _ _ _ _ _ _))
    iterate 3 refine hK _ _ _ _ _ _ (?_ : K _ _ _ _ _ _)
    refine hK _ _ _ _ _ _ (And.intro (fun _ => ?_) (fun c9 => absurd ((lg_cmp_eq _ _).mpr rfl) c9))
    iterate 3 refine hK _ _ _ _ _ _ (?_ : K _ _ _ _ _ _)
    show K 28 ((5, .int (nI (5 * j) + nI 5)) :: _) _ _ _ _
    rw [nI_add (5 * j) 5, show 5 * j + 5 = 5 * (j + 1) by omega]
    exact hW _ _ [(5, .int (nI (5 * (j + 1)))), (4, .ref 32), (3, .ref 31), (2, .ref 24), (1, .ref 1), (0, .ref 0)] _ _ _ _ (by simp) (ih _ _ _ _ _ _ _ _ _ _ _ _ _ _ _ _ _ _ _ _ _ _ hJ hA2 hR2 (by omega) (by omega))

set_option maxRecDepth 10000 in
/-- case 4: unite -/
theorem lc_unite {S : Nat × (Nat → Int32)} {d : Nat} {Q : eQ} {K : eK} (hK : ∀ (pc : Nat) (ls : eL) (st : List Value) (h : eH) (kc ks : Nat), eStep S MT (okCall S MT (d + 9)) ML_law (d + 9 + 1) Q K pc ls st h kc ks → K pc ls st h kc ks) (hW : ∀ (pc : Nat) (ls ls2 : eL) (st : List Value) (h : eH) (kc ks : Nat), (∀ q ∈ ls2, q ∈ ls) → K pc ls2 st h kc ks → K pc ls st h kc ks) {j : Nat} (h5 : 5 * j + 5 ≤ S.1) (hS : S.1 ≤ 2560) (ih : LN K (j + 1)) {b : Bool} {P : Nat → Nat → Bool} {R u v w : Nat → Bool} {kb : Nat → Nat} {f g e : Nat → Int32} {A mk ro nx pi : Nat → Int32} {kp : Nat → Int64} {km th : Int32} {oo : Nat → Int64} {od : Nat → UInt64} {kc ks : Nat} (hI : IvC P R) (hA : MI P A) (hR : RI R ro) (hkc : kc ≤ 42 + 7 * j) (hks : ks ≤ 1715 + 42 * j) : K 484 [(5, .int (nI (5 * j))), (4, .ref 32), (3, .ref 31), (2, .ref 24), (1, .ref 1), (0, .ref 0)] [] (b, LW P R u v w kb f g e A mk ro nx pi kp km th oo od) kc ks := by
  iterate 5 refine hK _ _ _ _ _ _ (?_ : K _ _ _ _ _ _)
  refine hK _ _ _ _ _ _ (r_sld rfl (i := 5 * j + 1) (nI_add _ _) (by omega) (by omega) (?_ : K _ _ _ _ _ _))
  iterate 4 refine hK _ _ _ _ _ _ (?_ : K _ _ _ _ _ _)
  refine hK _ _ _ _ _ _ (r_sld rfl (i := 5 * j + 2) (nI_add _ _) (by omega) (by omega) (?_ : K _ _ _ _ _ _))
  iterate 4 refine hK _ _ _ _ _ _ (?_ : K _ _ _ _ _ _)
  refine hK _ _ _ _ _ _ (r_sld rfl (i := 5 * j + 3) (nI_add _ _) (by omega) (by omega) (?_ : K _ _ _ _ _ _))
  iterate 1 refine hK _ _ _ _ _ _ (?_ : K _ _ _ _ _ _)
  rcases ho : o_unite P R (S.2 (5 * j + 1)) (S.2 (5 * j + 2)) (S.2 (5 * j + 3)) with E | ⟨r9, P2, R2⟩
  · skip
    refine hK _ _ _ _ _ _ (r_callN rfl (fun _ => rfl) ⟨rfl, by show kc + 3 ≤ 601024; omega, by show ks + 18 ≤ 7293034; omega⟩ (kL_unite hI ho (fun u v w kb f g e => ?_)))
    show K 507 _ [.int (nI (cmA E))] (false, LW P R u v w kb f g e A mk ro nx pi kp km th oo od) (kc + 3) (ks + 18)
    iterate 6 refine hK _ _ _ _ _ _ (?_ : K _ _ _ _ _ _)
    refine hK _ _ _ _ _ _ (r_sld rfl (i := 5 * j + 1) (nI_add _ _) (by omega) (by omega) (?_ : K _ _ _ _ _ _))
    iterate 4 refine hK _ _ _ _ _ _ (?_ : K _ _ _ _ _ _)
    refine hK _ _ _ _ _ _ (r_sld rfl (i := 5 * j + 2) (nI_add _ _) (by omega) (by omega) (?_ : K _ _ _ _ _ _))
    iterate 4 refine hK _ _ _ _ _ _ (?_ : K _ _ _ _ _ _)
    refine hK _ _ _ _ _ _ (r_sld rfl (i := 5 * j + 3) (nI_add _ _) (by omega) (by omega) (?_ : K _ _ _ _ _ _))
    refine hK _ _ _ _ _ _ (r_callV rfl (fun _ => rfl) rfl ⟨rfl, by show kc + 3 + 0 ≤ 601024; omega, by show ks + 18 + 0 ≤ 7293034; omega⟩ (kX7_unite (X := wX P R u v w kb f g e) hI hA hR (mqe ho (fun mk nx pi kp km => ?_))))
    show K 531 _ [.int (nI 0)] (false, LW P R u v w kb f g e A mk ro nx pi kp km (nI (cmA E)) oo od) (kc + 3) (ks + 18)
    iterate 2 refine hK _ _ _ _ _ _ (?_ : K _ _ _ _ _ _)
    refine hK _ _ _ _ _ _ (r_callV rfl (fun _ => rfl) rfl ⟨rfl, by show kc + 3 + 0 ≤ 601024; omega, by show ks + 18 + 0 ≤ 7293034; omega⟩ (kX7_thrown (X := wX P R u v w kb f g e) ?_))
    show K 537 _ [.int (nI (cmA E))] (false, LW P R u v w kb f g e A mk ro nx pi kp km (nI (cmA E)) oo od) (kc + 3) (ks + 18)
    iterate 1 refine hK _ _ _ _ _ _ (?_ : K _ _ _ _ _ _)
    refine hK _ _ _ _ _ _ (And.intro (fun _ => ?_) (fun c9 => absurd (rfl) c9))
    iterate 1 refine hK _ _ _ _ _ _ (?_ : K _ _ _ _ _ _)
    refine hK _ _ _ _ _ _ (And.intro (fun c9 => absurd c9 (cmA_n E)) (fun _ => ?_))
    iterate 3 refine hK _ _ _ _ _ _ (?_ : K _ _ _ _ _ _)
    show K 28 ((5, .int (nI (5 * j) + nI 5)) :: _) _ _ _ _
    rw [nI_add (5 * j) 5, show 5 * j + 5 = 5 * (j + 1) by omega]
    exact hW _ _ [(5, .int (nI (5 * (j + 1)))), (4, .ref 32), (3, .ref 31), (2, .ref 24), (1, .ref 1), (0, .ref 0)] _ _ _ _ (by simp) (ih _ _ _ _ _ _ _ _ _ _ _ _ _ _ _ _ _ _ _ _ _ _ hI hA hR (by omega) (by omega))
  · skip
    have hk := oK_unite (P := P) (R := R) (x := S.2 (5 * j + 1)) (y := S.2 (5 * j + 2)) (z := S.2 (5 * j + 3))
    rw [ho] at hk
    obtain ⟨x9, rfl⟩ := hk
    have hJ := oJ_unite hI (x := S.2 (5 * j + 1)) (y := S.2 (5 * j + 2)) (z := S.2 (5 * j + 3))
    rw [ho] at hJ
    have hJ : IvC P2 R2 := hJ
    refine hK _ _ _ _ _ _ (r_callN rfl (fun _ => rfl) ⟨rfl, by show kc + 3 ≤ 601024; omega, by show ks + 18 ≤ 7293034; omega⟩ (kL_unite hI ho (fun u v w kb f g e oo2 hoo => ?_)))
    show K 507 _ [.int (nI 0)] (b, LW P2 R2 u v w kb f g e A mk ro nx pi kp km th oo2 od) (kc + 3) (ks + 18)
    iterate 6 refine hK _ _ _ _ _ _ (?_ : K _ _ _ _ _ _)
    refine hK _ _ _ _ _ _ (r_sld rfl (i := 5 * j + 1) (nI_add _ _) (by omega) (by omega) (?_ : K _ _ _ _ _ _))
    iterate 4 refine hK _ _ _ _ _ _ (?_ : K _ _ _ _ _ _)
    refine hK _ _ _ _ _ _ (r_sld rfl (i := 5 * j + 2) (nI_add _ _) (by omega) (by omega) (?_ : K _ _ _ _ _ _))
    iterate 4 refine hK _ _ _ _ _ _ (?_ : K _ _ _ _ _ _)
    refine hK _ _ _ _ _ _ (r_sld rfl (i := 5 * j + 3) (nI_add _ _) (by omega) (by omega) (?_ : K _ _ _ _ _ _))
    refine hK _ _ _ _ _ _ (r_callV rfl (fun _ => rfl) rfl ⟨rfl, by show kc + 3 + 0 ≤ 601024; omega, by show ks + 18 + 0 ≤ 7293034; omega⟩ (kX7_unite (X := wX P2 R2 u v w kb f g e) hI hA hR (mqe ho (fun A2 mk ro2 nx pi kp km hA2 hR2 => ?_))))
    show K 531 _ [.int x9] (b, LW P2 R2 u v w kb f g e A2 mk ro2 nx pi kp km (nI 0) oo2 od) (kc + 3) (ks + 18)
    iterate 2 refine hK _ _ _ _ _ _ (?_ : K _ _ _ _ _ _)
    refine hK _ _ _ _ _ _ (r_callV rfl (fun _ => rfl) rfl ⟨rfl, by show kc + 3 + 0 ≤ 601024; omega, by show ks + 18 + 0 ≤ 7293034; omega⟩ (kX7_thrown (X := wX P2 R2 u v w kb f g e) ?_))
    show K 537 _ [.int (nI 0)] (b, LW P2 R2 u v w kb f g e A2 mk ro2 nx pi kp km (nI 0) oo2 od) (kc + 3) (ks + 18)
    iterate 1 refine hK _ _ _ _ _ _ (?_ : K _ _ _ _ _ _)
    refine hK _ _ _ _ _ _ (And.intro (fun _ => ?_) (fun c9 => absurd (rfl) c9))
    iterate 1 refine hK _ _ _ _ _ _ (?_ : K _ _ _ _ _ _)
    refine hK _ _ _ _ _ _ (And.intro (fun _ => ?_) (fun c9 => absurd (rfl) c9))
    iterate 2 refine hK _ _ _ _ _ _ (?_ : K _ _ _ _ _ _)
    refine hK _ _ _ _ _ _ (r_lald' (v := x9.toInt64) rfl (N := 1) (f := oo2) rfl (vp_in_nI (by decide) (by decide)) (by rw [nI_clamp (by decide)]; exact hoo) (?_ : K _ _ _ _ _ _))
    iterate 3 refine hK _ _ _ _ _ _ (?_ : K _ _ _ _ _ _)
    refine hK _ _ _ _ _ _ (And.intro (fun _ => ?_) (fun c9 => absurd ((lg_cmp_eq _ _).mpr rfl) c9))
    iterate 3 refine hK _ _ _ _ _ _ (?_ : K _ _ _ _ _ _)
    show K 28 ((5, .int (nI (5 * j) + nI 5)) :: _) _ _ _ _
    rw [nI_add (5 * j) 5, show 5 * j + 5 = 5 * (j + 1) by omega]
    exact hW _ _ [(5, .int (nI (5 * (j + 1)))), (4, .ref 32), (3, .ref 31), (2, .ref 24), (1, .ref 1), (0, .ref 0)] _ _ _ _ (by simp) (ih _ _ _ _ _ _ _ _ _ _ _ _ _ _ _ _ _ _ _ _ _ _ hJ hA2 hR2 (by omega) (by omega))

set_option maxRecDepth 10000 in
/-- case 5: meet -/
theorem lc_meet {S : Nat × (Nat → Int32)} {d : Nat} {Q : eQ} {K : eK} (hK : ∀ (pc : Nat) (ls : eL) (st : List Value) (h : eH) (kc ks : Nat), eStep S MT (okCall S MT (d + 9)) ML_law (d + 9 + 1) Q K pc ls st h kc ks → K pc ls st h kc ks) (hW : ∀ (pc : Nat) (ls ls2 : eL) (st : List Value) (h : eH) (kc ks : Nat), (∀ q ∈ ls2, q ∈ ls) → K pc ls2 st h kc ks → K pc ls st h kc ks) {j : Nat} (h5 : 5 * j + 5 ≤ S.1) (hS : S.1 ≤ 2560) (ih : LN K (j + 1)) {b : Bool} {P : Nat → Nat → Bool} {R u v w : Nat → Bool} {kb : Nat → Nat} {f g e : Nat → Int32} {A mk ro nx pi : Nat → Int32} {kp : Nat → Int64} {km th : Int32} {oo : Nat → Int64} {od : Nat → UInt64} {kc ks : Nat} (hI : IvC P R) (hA : MI P A) (hR : RI R ro) (hkc : kc ≤ 42 + 7 * j) (hks : ks ≤ 1715 + 42 * j) : K 564 [(5, .int (nI (5 * j))), (4, .ref 32), (3, .ref 31), (2, .ref 24), (1, .ref 1), (0, .ref 0)] [] (b, LW P R u v w kb f g e A mk ro nx pi kp km th oo od) kc ks := by
  iterate 5 refine hK _ _ _ _ _ _ (?_ : K _ _ _ _ _ _)
  refine hK _ _ _ _ _ _ (r_sld rfl (i := 5 * j + 1) (nI_add _ _) (by omega) (by omega) (?_ : K _ _ _ _ _ _))
  iterate 4 refine hK _ _ _ _ _ _ (?_ : K _ _ _ _ _ _)
  refine hK _ _ _ _ _ _ (r_sld rfl (i := 5 * j + 2) (nI_add _ _) (by omega) (by omega) (?_ : K _ _ _ _ _ _))
  iterate 4 refine hK _ _ _ _ _ _ (?_ : K _ _ _ _ _ _)
  refine hK _ _ _ _ _ _ (r_sld rfl (i := 5 * j + 3) (nI_add _ _) (by omega) (by omega) (?_ : K _ _ _ _ _ _))
  iterate 1 refine hK _ _ _ _ _ _ (?_ : K _ _ _ _ _ _)
  rcases ho : o_meet P R (S.2 (5 * j + 1)) (S.2 (5 * j + 2)) (S.2 (5 * j + 3)) with E | ⟨r9, P2, R2⟩
  · skip
    refine hK _ _ _ _ _ _ (r_callN rfl (fun _ => rfl) ⟨rfl, by show kc + 3 ≤ 601024; omega, by show ks + 18 ≤ 7293034; omega⟩ (kL_meet hI ho (fun u v w kb f g e => ?_)))
    show K 587 _ [.int (nI (cmA E))] (false, LW P R u v w kb f g e A mk ro nx pi kp km th oo od) (kc + 3) (ks + 18)
    iterate 6 refine hK _ _ _ _ _ _ (?_ : K _ _ _ _ _ _)
    refine hK _ _ _ _ _ _ (r_sld rfl (i := 5 * j + 1) (nI_add _ _) (by omega) (by omega) (?_ : K _ _ _ _ _ _))
    iterate 4 refine hK _ _ _ _ _ _ (?_ : K _ _ _ _ _ _)
    refine hK _ _ _ _ _ _ (r_sld rfl (i := 5 * j + 2) (nI_add _ _) (by omega) (by omega) (?_ : K _ _ _ _ _ _))
    iterate 4 refine hK _ _ _ _ _ _ (?_ : K _ _ _ _ _ _)
    refine hK _ _ _ _ _ _ (r_sld rfl (i := 5 * j + 3) (nI_add _ _) (by omega) (by omega) (?_ : K _ _ _ _ _ _))
    refine hK _ _ _ _ _ _ (r_callV rfl (fun _ => rfl) rfl ⟨rfl, by show kc + 3 + 0 ≤ 601024; omega, by show ks + 18 + 0 ≤ 7293034; omega⟩ (kX7_meet (X := wX P R u v w kb f g e) hI hA hR (mqe ho (fun mk nx pi kp km => ?_))))
    show K 611 _ [.int (nI 0)] (false, LW P R u v w kb f g e A mk ro nx pi kp km (nI (cmA E)) oo od) (kc + 3) (ks + 18)
    iterate 2 refine hK _ _ _ _ _ _ (?_ : K _ _ _ _ _ _)
    refine hK _ _ _ _ _ _ (r_callV rfl (fun _ => rfl) rfl ⟨rfl, by show kc + 3 + 0 ≤ 601024; omega, by show ks + 18 + 0 ≤ 7293034; omega⟩ (kX7_thrown (X := wX P R u v w kb f g e) ?_))
    show K 617 _ [.int (nI (cmA E))] (false, LW P R u v w kb f g e A mk ro nx pi kp km (nI (cmA E)) oo od) (kc + 3) (ks + 18)
    iterate 1 refine hK _ _ _ _ _ _ (?_ : K _ _ _ _ _ _)
    refine hK _ _ _ _ _ _ (And.intro (fun _ => ?_) (fun c9 => absurd (rfl) c9))
    iterate 1 refine hK _ _ _ _ _ _ (?_ : K _ _ _ _ _ _)
    refine hK _ _ _ _ _ _ (And.intro (fun c9 => absurd c9 (cmA_n E)) (fun _ => ?_))
    iterate 3 refine hK _ _ _ _ _ _ (?_ : K _ _ _ _ _ _)
    show K 28 ((5, .int (nI (5 * j) + nI 5)) :: _) _ _ _ _
    rw [nI_add (5 * j) 5, show 5 * j + 5 = 5 * (j + 1) by omega]
    exact hW _ _ [(5, .int (nI (5 * (j + 1)))), (4, .ref 32), (3, .ref 31), (2, .ref 24), (1, .ref 1), (0, .ref 0)] _ _ _ _ (by simp) (ih _ _ _ _ _ _ _ _ _ _ _ _ _ _ _ _ _ _ _ _ _ _ hI hA hR (by omega) (by omega))
  · skip
    have hk := oK_meet (P := P) (R := R) (x := S.2 (5 * j + 1)) (y := S.2 (5 * j + 2)) (z := S.2 (5 * j + 3))
    rw [ho] at hk
    obtain ⟨x9, rfl⟩ := hk
    have hJ := oJ_meet hI (x := S.2 (5 * j + 1)) (y := S.2 (5 * j + 2)) (z := S.2 (5 * j + 3))
    rw [ho] at hJ
    have hJ : IvC P2 R2 := hJ
    refine hK _ _ _ _ _ _ (r_callN rfl (fun _ => rfl) ⟨rfl, by show kc + 3 ≤ 601024; omega, by show ks + 18 ≤ 7293034; omega⟩ (kL_meet hI ho (fun u v w kb f g e oo2 hoo => ?_)))
    show K 587 _ [.int (nI 0)] (b, LW P2 R2 u v w kb f g e A mk ro nx pi kp km th oo2 od) (kc + 3) (ks + 18)
    iterate 6 refine hK _ _ _ _ _ _ (?_ : K _ _ _ _ _ _)
    refine hK _ _ _ _ _ _ (r_sld rfl (i := 5 * j + 1) (nI_add _ _) (by omega) (by omega) (?_ : K _ _ _ _ _ _))
    iterate 4 refine hK _ _ _ _ _ _ (?_ : K _ _ _ _ _ _)
    refine hK _ _ _ _ _ _ (r_sld rfl (i := 5 * j + 2) (nI_add _ _) (by omega) (by omega) (?_ : K _ _ _ _ _ _))
    iterate 4 refine hK _ _ _ _ _ _ (?_ : K _ _ _ _ _ _)
    refine hK _ _ _ _ _ _ (r_sld rfl (i := 5 * j + 3) (nI_add _ _) (by omega) (by omega) (?_ : K _ _ _ _ _ _))
    refine hK _ _ _ _ _ _ (r_callV rfl (fun _ => rfl) rfl ⟨rfl, by show kc + 3 + 0 ≤ 601024; omega, by show ks + 18 + 0 ≤ 7293034; omega⟩ (kX7_meet (X := wX P2 R2 u v w kb f g e) hI hA hR (mqe ho (fun A2 mk ro2 nx pi kp km hA2 hR2 => ?_))))
    show K 611 _ [.int x9] (b, LW P2 R2 u v w kb f g e A2 mk ro2 nx pi kp km (nI 0) oo2 od) (kc + 3) (ks + 18)
    iterate 2 refine hK _ _ _ _ _ _ (?_ : K _ _ _ _ _ _)
    refine hK _ _ _ _ _ _ (r_callV rfl (fun _ => rfl) rfl ⟨rfl, by show kc + 3 + 0 ≤ 601024; omega, by show ks + 18 + 0 ≤ 7293034; omega⟩ (kX7_thrown (X := wX P2 R2 u v w kb f g e) ?_))
    show K 617 _ [.int (nI 0)] (b, LW P2 R2 u v w kb f g e A2 mk ro2 nx pi kp km (nI 0) oo2 od) (kc + 3) (ks + 18)
    iterate 1 refine hK _ _ _ _ _ _ (?_ : K _ _ _ _ _ _)
    refine hK _ _ _ _ _ _ (And.intro (fun _ => ?_) (fun c9 => absurd (rfl) c9))
    iterate 1 refine hK _ _ _ _ _ _ (?_ : K _ _ _ _ _ _)
    refine hK _ _ _ _ _ _ (And.intro (fun _ => ?_) (fun c9 => absurd (rfl) c9))
    iterate 2 refine hK _ _ _ _ _ _ (?_ : K _ _ _ _ _ _)
    refine hK _ _ _ _ _ _ (r_lald' (v := x9.toInt64) rfl (N := 1) (f := oo2) rfl (vp_in_nI (by decide) (by decide)) (by rw [nI_clamp (by decide)]; exact hoo) (?_ : K _ _ _ _ _ _))
    iterate 3 refine hK _ _ _ _ _ _ (?_ : K _ _ _ _ _ _)
    refine hK _ _ _ _ _ _ (And.intro (fun _ => ?_) (fun c9 => absurd ((lg_cmp_eq _ _).mpr rfl) c9))
    iterate 3 refine hK _ _ _ _ _ _ (?_ : K _ _ _ _ _ _)
    show K 28 ((5, .int (nI (5 * j) + nI 5)) :: _) _ _ _ _
    rw [nI_add (5 * j) 5, show 5 * j + 5 = 5 * (j + 1) by omega]
    exact hW _ _ [(5, .int (nI (5 * (j + 1)))), (4, .ref 32), (3, .ref 31), (2, .ref 24), (1, .ref 1), (0, .ref 0)] _ _ _ _ (by simp) (ih _ _ _ _ _ _ _ _ _ _ _ _ _ _ _ _ _ _ _ _ _ _ hJ hA2 hR2 (by omega) (by omega))

set_option maxRecDepth 10000 in
/-- case 6: full -/
theorem lc_full {S : Nat × (Nat → Int32)} {d : Nat} {Q : eQ} {K : eK} (hK : ∀ (pc : Nat) (ls : eL) (st : List Value) (h : eH) (kc ks : Nat), eStep S MT (okCall S MT (d + 9)) ML_law (d + 9 + 1) Q K pc ls st h kc ks → K pc ls st h kc ks) (hW : ∀ (pc : Nat) (ls ls2 : eL) (st : List Value) (h : eH) (kc ks : Nat), (∀ q ∈ ls2, q ∈ ls) → K pc ls2 st h kc ks → K pc ls st h kc ks) {j : Nat} (h5 : 5 * j + 5 ≤ S.1) (hS : S.1 ≤ 2560) (ih : LN K (j + 1)) {b : Bool} {P : Nat → Nat → Bool} {R u v w : Nat → Bool} {kb : Nat → Nat} {f g e : Nat → Int32} {A mk ro nx pi : Nat → Int32} {kp : Nat → Int64} {km th : Int32} {oo : Nat → Int64} {od : Nat → UInt64} {kc ks : Nat} (hI : IvC P R) (hA : MI P A) (hR : RI R ro) (hkc : kc ≤ 42 + 7 * j) (hks : ks ≤ 1715 + 42 * j) : K 644 [(5, .int (nI (5 * j))), (4, .ref 32), (3, .ref 31), (2, .ref 24), (1, .ref 1), (0, .ref 0)] [] (b, LW P R u v w kb f g e A mk ro nx pi kp km th oo od) kc ks := by
  iterate 5 refine hK _ _ _ _ _ _ (?_ : K _ _ _ _ _ _)
  refine hK _ _ _ _ _ _ (r_sld rfl (i := 5 * j + 1) (nI_add _ _) (by omega) (by omega) (?_ : K _ _ _ _ _ _))
  iterate 4 refine hK _ _ _ _ _ _ (?_ : K _ _ _ _ _ _)
  refine hK _ _ _ _ _ _ (r_sld rfl (i := 5 * j + 2) (nI_add _ _) (by omega) (by omega) (?_ : K _ _ _ _ _ _))
  refine hK _ _ _ _ _ _ (And.intro (fun ra => ?_) (fun ra => ?_))
  · skip
    iterate 5 refine hK _ _ _ _ _ _ (?_ : K _ _ _ _ _ _)
    refine hK _ _ _ _ _ _ (r_sld rfl (i := 5 * j + 3) (nI_add _ _) (by omega) (by omega) (?_ : K _ _ _ _ _ _))
    iterate 1 refine hK _ _ _ _ _ _ (?_ : K _ _ _ _ _ _)
    rcases ho : o_full P R (S.2 (5 * j + 1)) false (S.2 (5 * j + 3)) with E | ⟨r9, P2, R2⟩
    · skip
      refine hK _ _ _ _ _ _ (r_callN rfl (fun _ => rfl) ⟨rfl, by show kc + 2 ≤ 601024; omega, by show ks + 12 ≤ 7293034; omega⟩ (kL_full (r := false) hI ho (fun u v w kb f g e => ?_)))
      show K 675 _ [.int (nI (cmA E))] (false, LW P R u v w kb f g e A mk ro nx pi kp km th oo od) (kc + 2) (ks + 12)
      iterate 6 refine hK _ _ _ _ _ _ (?_ : K _ _ _ _ _ _)
      refine hK _ _ _ _ _ _ (r_sld rfl (i := 5 * j + 1) (nI_add _ _) (by omega) (by omega) (?_ : K _ _ _ _ _ _))
      iterate 4 refine hK _ _ _ _ _ _ (?_ : K _ _ _ _ _ _)
      refine hK _ _ _ _ _ _ (r_sld rfl (i := 5 * j + 2) (nI_add _ _) (by omega) (by omega) (?_ : K _ _ _ _ _ _))
      refine hK _ _ _ _ _ _ (And.intro (fun _ => ?_) (fun c9 => absurd (ra) c9))
      iterate 5 refine hK _ _ _ _ _ _ (?_ : K _ _ _ _ _ _)
      refine hK _ _ _ _ _ _ (r_sld rfl (i := 5 * j + 3) (nI_add _ _) (by omega) (by omega) (?_ : K _ _ _ _ _ _))
      refine hK _ _ _ _ _ _ (r_callV rfl (fun _ => rfl) rfl ⟨rfl, by show kc + 2 + 0 ≤ 601024; omega, by show ks + 12 + 0 ≤ 7293034; omega⟩ (kX7_full (r := false) (X := wX P R u v w kb f g e) hI hA hR (mqe ho (fun mk nx pi kp km => ?_))))
      show K 707 _ [.int (nI 0)] (false, LW P R u v w kb f g e A mk ro nx pi kp km (nI (cmA E)) oo od) (kc + 2) (ks + 12)
      iterate 2 refine hK _ _ _ _ _ _ (?_ : K _ _ _ _ _ _)
      refine hK _ _ _ _ _ _ (r_callV rfl (fun _ => rfl) rfl ⟨rfl, by show kc + 2 + 0 ≤ 601024; omega, by show ks + 12 + 0 ≤ 7293034; omega⟩ (kX7_thrown (X := wX P R u v w kb f g e) ?_))
      show K 713 _ [.int (nI (cmA E))] (false, LW P R u v w kb f g e A mk ro nx pi kp km (nI (cmA E)) oo od) (kc + 2) (ks + 12)
      iterate 1 refine hK _ _ _ _ _ _ (?_ : K _ _ _ _ _ _)
      refine hK _ _ _ _ _ _ (And.intro (fun _ => ?_) (fun c9 => absurd (rfl) c9))
      iterate 1 refine hK _ _ _ _ _ _ (?_ : K _ _ _ _ _ _)
      refine hK _ _ _ _ _ _ (And.intro (fun c9 => absurd c9 (cmA_n E)) (fun _ => ?_))
      iterate 3 refine hK _ _ _ _ _ _ (?_ : K _ _ _ _ _ _)
      show K 28 ((5, .int (nI (5 * j) + nI 5)) :: _) _ _ _ _
      rw [nI_add (5 * j) 5, show 5 * j + 5 = 5 * (j + 1) by omega]
      exact hW _ _ [(5, .int (nI (5 * (j + 1)))), (4, .ref 32), (3, .ref 31), (2, .ref 24), (1, .ref 1), (0, .ref 0)] _ _ _ _ (by simp) (ih _ _ _ _ _ _ _ _ _ _ _ _ _ _ _ _ _ _ _ _ _ _ hI hA hR (by omega) (by omega))
    · skip
      have hk := oK_full (P := P) (R := R) (x := S.2 (5 * j + 1)) (r := false) (z := S.2 (5 * j + 3))
      rw [ho] at hk
      obtain ⟨x9, rfl⟩ := hk
      have hJ := oJ_full hI (x := S.2 (5 * j + 1)) (r := false) (z := S.2 (5 * j + 3))
      rw [ho] at hJ
      have hJ : IvC P2 R2 := hJ
      refine hK _ _ _ _ _ _ (r_callN rfl (fun _ => rfl) ⟨rfl, by show kc + 2 ≤ 601024; omega, by show ks + 12 ≤ 7293034; omega⟩ (kL_full (r := false) hI ho (fun u v w kb f g e oo2 hoo => ?_)))
      show K 675 _ [.int (nI 0)] (b, LW P2 R2 u v w kb f g e A mk ro nx pi kp km th oo2 od) (kc + 2) (ks + 12)
      iterate 6 refine hK _ _ _ _ _ _ (?_ : K _ _ _ _ _ _)
      refine hK _ _ _ _ _ _ (r_sld rfl (i := 5 * j + 1) (nI_add _ _) (by omega) (by omega) (?_ : K _ _ _ _ _ _))
      iterate 4 refine hK _ _ _ _ _ _ (?_ : K _ _ _ _ _ _)
      refine hK _ _ _ _ _ _ (r_sld rfl (i := 5 * j + 2) (nI_add _ _) (by omega) (by omega) (?_ : K _ _ _ _ _ _))
      refine hK _ _ _ _ _ _ (And.intro (fun _ => ?_) (fun c9 => absurd (ra) c9))
      iterate 5 refine hK _ _ _ _ _ _ (?_ : K _ _ _ _ _ _)
      refine hK _ _ _ _ _ _ (r_sld rfl (i := 5 * j + 3) (nI_add _ _) (by omega) (by omega) (?_ : K _ _ _ _ _ _))
      refine hK _ _ _ _ _ _ (r_callV rfl (fun _ => rfl) rfl ⟨rfl, by show kc + 2 + 0 ≤ 601024; omega, by show ks + 12 + 0 ≤ 7293034; omega⟩ (kX7_full (r := false) (X := wX P2 R2 u v w kb f g e) hI hA hR (mqe ho (fun A2 mk ro2 nx pi kp km hA2 hR2 => ?_))))
      show K 707 _ [.int x9] (b, LW P2 R2 u v w kb f g e A2 mk ro2 nx pi kp km (nI 0) oo2 od) (kc + 2) (ks + 12)
      iterate 2 refine hK _ _ _ _ _ _ (?_ : K _ _ _ _ _ _)
      refine hK _ _ _ _ _ _ (r_callV rfl (fun _ => rfl) rfl ⟨rfl, by show kc + 2 + 0 ≤ 601024; omega, by show ks + 12 + 0 ≤ 7293034; omega⟩ (kX7_thrown (X := wX P2 R2 u v w kb f g e) ?_))
      show K 713 _ [.int (nI 0)] (b, LW P2 R2 u v w kb f g e A2 mk ro2 nx pi kp km (nI 0) oo2 od) (kc + 2) (ks + 12)
      iterate 1 refine hK _ _ _ _ _ _ (?_ : K _ _ _ _ _ _)
      refine hK _ _ _ _ _ _ (And.intro (fun _ => ?_) (fun c9 => absurd (rfl) c9))
      iterate 1 refine hK _ _ _ _ _ _ (?_ : K _ _ _ _ _ _)
      refine hK _ _ _ _ _ _ (And.intro (fun _ => ?_) (fun c9 => absurd (rfl) c9))
      iterate 2 refine hK _ _ _ _ _ _ (?_ : K _ _ _ _ _ _)
      refine hK _ _ _ _ _ _ (r_lald' (v := x9.toInt64) rfl (N := 1) (f := oo2) rfl (vp_in_nI (by decide) (by decide)) (by rw [nI_clamp (by decide)]; exact hoo) (?_ : K _ _ _ _ _ _))
      iterate 3 refine hK _ _ _ _ _ _ (?_ : K _ _ _ _ _ _)
      refine hK _ _ _ _ _ _ (And.intro (fun _ => ?_) (fun c9 => absurd ((lg_cmp_eq _ _).mpr rfl) c9))
      iterate 3 refine hK _ _ _ _ _ _ (?_ : K _ _ _ _ _ _)
      show K 28 ((5, .int (nI (5 * j) + nI 5)) :: _) _ _ _ _
      rw [nI_add (5 * j) 5, show 5 * j + 5 = 5 * (j + 1) by omega]
      exact hW _ _ [(5, .int (nI (5 * (j + 1)))), (4, .ref 32), (3, .ref 31), (2, .ref 24), (1, .ref 1), (0, .ref 0)] _ _ _ _ (by simp) (ih _ _ _ _ _ _ _ _ _ _ _ _ _ _ _ _ _ _ _ _ _ _ hJ hA2 hR2 (by omega) (by omega))
  · skip
    iterate 6 refine hK _ _ _ _ _ _ (?_ : K _ _ _ _ _ _)
    refine hK _ _ _ _ _ _ (r_sld rfl (i := 5 * j + 3) (nI_add _ _) (by omega) (by omega) (?_ : K _ _ _ _ _ _))
    iterate 1 refine hK _ _ _ _ _ _ (?_ : K _ _ _ _ _ _)
    rcases ho : o_full P R (S.2 (5 * j + 1)) true (S.2 (5 * j + 3)) with E | ⟨r9, P2, R2⟩
    · skip
      refine hK _ _ _ _ _ _ (r_callN rfl (fun _ => rfl) ⟨rfl, by show kc + 2 ≤ 601024; omega, by show ks + 12 ≤ 7293034; omega⟩ (kL_full (r := true) hI ho (fun u v w kb f g e => ?_)))
      show K 675 _ [.int (nI (cmA E))] (false, LW P R u v w kb f g e A mk ro nx pi kp km th oo od) (kc + 2) (ks + 12)
      iterate 6 refine hK _ _ _ _ _ _ (?_ : K _ _ _ _ _ _)
      refine hK _ _ _ _ _ _ (r_sld rfl (i := 5 * j + 1) (nI_add _ _) (by omega) (by omega) (?_ : K _ _ _ _ _ _))
      iterate 4 refine hK _ _ _ _ _ _ (?_ : K _ _ _ _ _ _)
      refine hK _ _ _ _ _ _ (r_sld rfl (i := 5 * j + 2) (nI_add _ _) (by omega) (by omega) (?_ : K _ _ _ _ _ _))
      refine hK _ _ _ _ _ _ (And.intro (fun c9 => absurd c9 (ra)) (fun _ => ?_))
      iterate 6 refine hK _ _ _ _ _ _ (?_ : K _ _ _ _ _ _)
      refine hK _ _ _ _ _ _ (r_sld rfl (i := 5 * j + 3) (nI_add _ _) (by omega) (by omega) (?_ : K _ _ _ _ _ _))
      refine hK _ _ _ _ _ _ (r_callV rfl (fun _ => rfl) rfl ⟨rfl, by show kc + 2 + 0 ≤ 601024; omega, by show ks + 12 + 0 ≤ 7293034; omega⟩ (kX7_full (r := true) (X := wX P R u v w kb f g e) hI hA hR (mqe ho (fun mk nx pi kp km => ?_))))
      show K 707 _ [.int (nI 0)] (false, LW P R u v w kb f g e A mk ro nx pi kp km (nI (cmA E)) oo od) (kc + 2) (ks + 12)
      iterate 2 refine hK _ _ _ _ _ _ (?_ : K _ _ _ _ _ _)
      refine hK _ _ _ _ _ _ (r_callV rfl (fun _ => rfl) rfl ⟨rfl, by show kc + 2 + 0 ≤ 601024; omega, by show ks + 12 + 0 ≤ 7293034; omega⟩ (kX7_thrown (X := wX P R u v w kb f g e) ?_))
      show K 713 _ [.int (nI (cmA E))] (false, LW P R u v w kb f g e A mk ro nx pi kp km (nI (cmA E)) oo od) (kc + 2) (ks + 12)
      iterate 1 refine hK _ _ _ _ _ _ (?_ : K _ _ _ _ _ _)
      refine hK _ _ _ _ _ _ (And.intro (fun _ => ?_) (fun c9 => absurd (rfl) c9))
      iterate 1 refine hK _ _ _ _ _ _ (?_ : K _ _ _ _ _ _)
      refine hK _ _ _ _ _ _ (And.intro (fun c9 => absurd c9 (cmA_n E)) (fun _ => ?_))
      iterate 3 refine hK _ _ _ _ _ _ (?_ : K _ _ _ _ _ _)
      show K 28 ((5, .int (nI (5 * j) + nI 5)) :: _) _ _ _ _
      rw [nI_add (5 * j) 5, show 5 * j + 5 = 5 * (j + 1) by omega]
      exact hW _ _ [(5, .int (nI (5 * (j + 1)))), (4, .ref 32), (3, .ref 31), (2, .ref 24), (1, .ref 1), (0, .ref 0)] _ _ _ _ (by simp) (ih _ _ _ _ _ _ _ _ _ _ _ _ _ _ _ _ _ _ _ _ _ _ hI hA hR (by omega) (by omega))
    · skip
      have hk := oK_full (P := P) (R := R) (x := S.2 (5 * j + 1)) (r := true) (z := S.2 (5 * j + 3))
      rw [ho] at hk
      obtain ⟨x9, rfl⟩ := hk
      have hJ := oJ_full hI (x := S.2 (5 * j + 1)) (r := true) (z := S.2 (5 * j + 3))
      rw [ho] at hJ
      have hJ : IvC P2 R2 := hJ
      refine hK _ _ _ _ _ _ (r_callN rfl (fun _ => rfl) ⟨rfl, by show kc + 2 ≤ 601024; omega, by show ks + 12 ≤ 7293034; omega⟩ (kL_full (r := true) hI ho (fun u v w kb f g e oo2 hoo => ?_)))
      show K 675 _ [.int (nI 0)] (b, LW P2 R2 u v w kb f g e A mk ro nx pi kp km th oo2 od) (kc + 2) (ks + 12)
      iterate 6 refine hK _ _ _ _ _ _ (?_ : K _ _ _ _ _ _)
      refine hK _ _ _ _ _ _ (r_sld rfl (i := 5 * j + 1) (nI_add _ _) (by omega) (by omega) (?_ : K _ _ _ _ _ _))
      iterate 4 refine hK _ _ _ _ _ _ (?_ : K _ _ _ _ _ _)
      refine hK _ _ _ _ _ _ (r_sld rfl (i := 5 * j + 2) (nI_add _ _) (by omega) (by omega) (?_ : K _ _ _ _ _ _))
      refine hK _ _ _ _ _ _ (And.intro (fun c9 => absurd c9 (ra)) (fun _ => ?_))
      iterate 6 refine hK _ _ _ _ _ _ (?_ : K _ _ _ _ _ _)
      refine hK _ _ _ _ _ _ (r_sld rfl (i := 5 * j + 3) (nI_add _ _) (by omega) (by omega) (?_ : K _ _ _ _ _ _))
      refine hK _ _ _ _ _ _ (r_callV rfl (fun _ => rfl) rfl ⟨rfl, by show kc + 2 + 0 ≤ 601024; omega, by show ks + 12 + 0 ≤ 7293034; omega⟩ (kX7_full (r := true) (X := wX P2 R2 u v w kb f g e) hI hA hR (mqe ho (fun A2 mk ro2 nx pi kp km hA2 hR2 => ?_))))
      show K 707 _ [.int x9] (b, LW P2 R2 u v w kb f g e A2 mk ro2 nx pi kp km (nI 0) oo2 od) (kc + 2) (ks + 12)
      iterate 2 refine hK _ _ _ _ _ _ (?_ : K _ _ _ _ _ _)
      refine hK _ _ _ _ _ _ (r_callV rfl (fun _ => rfl) rfl ⟨rfl, by show kc + 2 + 0 ≤ 601024; omega, by show ks + 12 + 0 ≤ 7293034; omega⟩ (kX7_thrown (X := wX P2 R2 u v w kb f g e) ?_))
      show K 713 _ [.int (nI 0)] (b, LW P2 R2 u v w kb f g e A2 mk ro2 nx pi kp km (nI 0) oo2 od) (kc + 2) (ks + 12)
      iterate 1 refine hK _ _ _ _ _ _ (?_ : K _ _ _ _ _ _)
      refine hK _ _ _ _ _ _ (And.intro (fun _ => ?_) (fun c9 => absurd (rfl) c9))
      iterate 1 refine hK _ _ _ _ _ _ (?_ : K _ _ _ _ _ _)
      refine hK _ _ _ _ _ _ (And.intro (fun _ => ?_) (fun c9 => absurd (rfl) c9))
      iterate 2 refine hK _ _ _ _ _ _ (?_ : K _ _ _ _ _ _)
      refine hK _ _ _ _ _ _ (r_lald' (v := x9.toInt64) rfl (N := 1) (f := oo2) rfl (vp_in_nI (by decide) (by decide)) (by rw [nI_clamp (by decide)]; exact hoo) (?_ : K _ _ _ _ _ _))
      iterate 3 refine hK _ _ _ _ _ _ (?_ : K _ _ _ _ _ _)
      refine hK _ _ _ _ _ _ (And.intro (fun _ => ?_) (fun c9 => absurd ((lg_cmp_eq _ _).mpr rfl) c9))
      iterate 3 refine hK _ _ _ _ _ _ (?_ : K _ _ _ _ _ _)
      show K 28 ((5, .int (nI (5 * j) + nI 5)) :: _) _ _ _ _
      rw [nI_add (5 * j) 5, show 5 * j + 5 = 5 * (j + 1) by omega]
      exact hW _ _ [(5, .int (nI (5 * (j + 1)))), (4, .ref 32), (3, .ref 31), (2, .ref 24), (1, .ref 1), (0, .ref 0)] _ _ _ _ (by simp) (ih _ _ _ _ _ _ _ _ _ _ _ _ _ _ _ _ _ _ _ _ _ _ hJ hA2 hR2 (by omega) (by omega))

set_option maxRecDepth 10000 in
/-- case 7: low -/
theorem lc_low {S : Nat × (Nat → Int32)} {d : Nat} {Q : eQ} {K : eK} (hK : ∀ (pc : Nat) (ls : eL) (st : List Value) (h : eH) (kc ks : Nat), eStep S MT (okCall S MT (d + 9)) ML_law (d + 9 + 1) Q K pc ls st h kc ks → K pc ls st h kc ks) (hW : ∀ (pc : Nat) (ls ls2 : eL) (st : List Value) (h : eH) (kc ks : Nat), (∀ q ∈ ls2, q ∈ ls) → K pc ls2 st h kc ks → K pc ls st h kc ks) {j : Nat} (h5 : 5 * j + 5 ≤ S.1) (hS : S.1 ≤ 2560) (ih : LN K (j + 1)) {b : Bool} {P : Nat → Nat → Bool} {R u v w : Nat → Bool} {kb : Nat → Nat} {f g e : Nat → Int32} {A mk ro nx pi : Nat → Int32} {kp : Nat → Int64} {km th : Int32} {oo : Nat → Int64} {od : Nat → UInt64} {kc ks : Nat} (hI : IvC P R) (hA : MI P A) (hR : RI R ro) (hkc : kc ≤ 42 + 7 * j) (hks : ks ≤ 1715 + 42 * j) : K 740 [(5, .int (nI (5 * j))), (4, .ref 32), (3, .ref 31), (2, .ref 24), (1, .ref 1), (0, .ref 0)] [] (b, LW P R u v w kb f g e A mk ro nx pi kp km th oo od) kc ks := by
  iterate 5 refine hK _ _ _ _ _ _ (?_ : K _ _ _ _ _ _)
  refine hK _ _ _ _ _ _ (r_sld rfl (i := 5 * j + 1) (nI_add _ _) (by omega) (by omega) (?_ : K _ _ _ _ _ _))
  iterate 4 refine hK _ _ _ _ _ _ (?_ : K _ _ _ _ _ _)
  refine hK _ _ _ _ _ _ (r_sld rfl (i := 5 * j + 2) (nI_add _ _) (by omega) (by omega) (?_ : K _ _ _ _ _ _))
  iterate 4 refine hK _ _ _ _ _ _ (?_ : K _ _ _ _ _ _)
  refine hK _ _ _ _ _ _ (r_sld rfl (i := 5 * j + 3) (nI_add _ _) (by omega) (by omega) (?_ : K _ _ _ _ _ _))
  iterate 1 refine hK _ _ _ _ _ _ (?_ : K _ _ _ _ _ _)
  rcases ho : o_low P R (S.2 (5 * j + 1)) (S.2 (5 * j + 2)) (S.2 (5 * j + 3)) with E | ⟨r9, P2, R2⟩
  · skip
    refine hK _ _ _ _ _ _ (r_callN rfl (fun _ => rfl) ⟨rfl, by show kc + 3 ≤ 601024; omega, by show ks + 18 ≤ 7293034; omega⟩ (kL_low hI ho (fun u v w kb f g e => ?_)))
    show K 763 _ [.int (nI (cmA E))] (false, LW P R u v w kb f g e A mk ro nx pi kp km th oo od) (kc + 3) (ks + 18)
    iterate 6 refine hK _ _ _ _ _ _ (?_ : K _ _ _ _ _ _)
    refine hK _ _ _ _ _ _ (r_sld rfl (i := 5 * j + 1) (nI_add _ _) (by omega) (by omega) (?_ : K _ _ _ _ _ _))
    iterate 4 refine hK _ _ _ _ _ _ (?_ : K _ _ _ _ _ _)
    refine hK _ _ _ _ _ _ (r_sld rfl (i := 5 * j + 2) (nI_add _ _) (by omega) (by omega) (?_ : K _ _ _ _ _ _))
    iterate 4 refine hK _ _ _ _ _ _ (?_ : K _ _ _ _ _ _)
    refine hK _ _ _ _ _ _ (r_sld rfl (i := 5 * j + 3) (nI_add _ _) (by omega) (by omega) (?_ : K _ _ _ _ _ _))
    refine hK _ _ _ _ _ _ (r_callV rfl (fun _ => rfl) rfl ⟨rfl, by show kc + 3 + 0 ≤ 601024; omega, by show ks + 18 + 0 ≤ 7293034; omega⟩ (kX7_low (X := wX P R u v w kb f g e) hI hA hR (mqe ho (fun mk nx pi kp km => ?_))))
    show K 787 _ [.int (nI 0)] (false, LW P R u v w kb f g e A mk ro nx pi kp km (nI (cmA E)) oo od) (kc + 3) (ks + 18)
    iterate 2 refine hK _ _ _ _ _ _ (?_ : K _ _ _ _ _ _)
    refine hK _ _ _ _ _ _ (r_callV rfl (fun _ => rfl) rfl ⟨rfl, by show kc + 3 + 0 ≤ 601024; omega, by show ks + 18 + 0 ≤ 7293034; omega⟩ (kX7_thrown (X := wX P R u v w kb f g e) ?_))
    show K 793 _ [.int (nI (cmA E))] (false, LW P R u v w kb f g e A mk ro nx pi kp km (nI (cmA E)) oo od) (kc + 3) (ks + 18)
    iterate 1 refine hK _ _ _ _ _ _ (?_ : K _ _ _ _ _ _)
    refine hK _ _ _ _ _ _ (And.intro (fun _ => ?_) (fun c9 => absurd (rfl) c9))
    iterate 1 refine hK _ _ _ _ _ _ (?_ : K _ _ _ _ _ _)
    refine hK _ _ _ _ _ _ (And.intro (fun c9 => absurd c9 (cmA_n E)) (fun _ => ?_))
    iterate 3 refine hK _ _ _ _ _ _ (?_ : K _ _ _ _ _ _)
    show K 28 ((5, .int (nI (5 * j) + nI 5)) :: _) _ _ _ _
    rw [nI_add (5 * j) 5, show 5 * j + 5 = 5 * (j + 1) by omega]
    exact hW _ _ [(5, .int (nI (5 * (j + 1)))), (4, .ref 32), (3, .ref 31), (2, .ref 24), (1, .ref 1), (0, .ref 0)] _ _ _ _ (by simp) (ih _ _ _ _ _ _ _ _ _ _ _ _ _ _ _ _ _ _ _ _ _ _ hI hA hR (by omega) (by omega))
  · skip
    have hk := oK_low (P := P) (R := R) (x := S.2 (5 * j + 1)) (y := S.2 (5 * j + 2)) (z := S.2 (5 * j + 3))
    rw [ho] at hk
    obtain ⟨x9, rfl⟩ := hk
    have hJ := oJ_low hI (x := S.2 (5 * j + 1)) (y := S.2 (5 * j + 2)) (z := S.2 (5 * j + 3))
    rw [ho] at hJ
    have hJ : IvC P2 R2 := hJ
    refine hK _ _ _ _ _ _ (r_callN rfl (fun _ => rfl) ⟨rfl, by show kc + 3 ≤ 601024; omega, by show ks + 18 ≤ 7293034; omega⟩ (kL_low hI ho (fun u v w kb f g e oo2 hoo => ?_)))
    show K 763 _ [.int (nI 0)] (b, LW P2 R2 u v w kb f g e A mk ro nx pi kp km th oo2 od) (kc + 3) (ks + 18)
    iterate 6 refine hK _ _ _ _ _ _ (?_ : K _ _ _ _ _ _)
    refine hK _ _ _ _ _ _ (r_sld rfl (i := 5 * j + 1) (nI_add _ _) (by omega) (by omega) (?_ : K _ _ _ _ _ _))
    iterate 4 refine hK _ _ _ _ _ _ (?_ : K _ _ _ _ _ _)
    refine hK _ _ _ _ _ _ (r_sld rfl (i := 5 * j + 2) (nI_add _ _) (by omega) (by omega) (?_ : K _ _ _ _ _ _))
    iterate 4 refine hK _ _ _ _ _ _ (?_ : K _ _ _ _ _ _)
    refine hK _ _ _ _ _ _ (r_sld rfl (i := 5 * j + 3) (nI_add _ _) (by omega) (by omega) (?_ : K _ _ _ _ _ _))
    refine hK _ _ _ _ _ _ (r_callV rfl (fun _ => rfl) rfl ⟨rfl, by show kc + 3 + 0 ≤ 601024; omega, by show ks + 18 + 0 ≤ 7293034; omega⟩ (kX7_low (X := wX P2 R2 u v w kb f g e) hI hA hR (mqe ho (fun A2 mk ro2 nx pi kp km hA2 hR2 => ?_))))
    show K 787 _ [.int x9] (b, LW P2 R2 u v w kb f g e A2 mk ro2 nx pi kp km (nI 0) oo2 od) (kc + 3) (ks + 18)
    iterate 2 refine hK _ _ _ _ _ _ (?_ : K _ _ _ _ _ _)
    refine hK _ _ _ _ _ _ (r_callV rfl (fun _ => rfl) rfl ⟨rfl, by show kc + 3 + 0 ≤ 601024; omega, by show ks + 18 + 0 ≤ 7293034; omega⟩ (kX7_thrown (X := wX P2 R2 u v w kb f g e) ?_))
    show K 793 _ [.int (nI 0)] (b, LW P2 R2 u v w kb f g e A2 mk ro2 nx pi kp km (nI 0) oo2 od) (kc + 3) (ks + 18)
    iterate 1 refine hK _ _ _ _ _ _ (?_ : K _ _ _ _ _ _)
    refine hK _ _ _ _ _ _ (And.intro (fun _ => ?_) (fun c9 => absurd (rfl) c9))
    iterate 1 refine hK _ _ _ _ _ _ (?_ : K _ _ _ _ _ _)
    refine hK _ _ _ _ _ _ (And.intro (fun _ => ?_) (fun c9 => absurd (rfl) c9))
    iterate 2 refine hK _ _ _ _ _ _ (?_ : K _ _ _ _ _ _)
    refine hK _ _ _ _ _ _ (r_lald' (v := x9.toInt64) rfl (N := 1) (f := oo2) rfl (vp_in_nI (by decide) (by decide)) (by rw [nI_clamp (by decide)]; exact hoo) (?_ : K _ _ _ _ _ _))
    iterate 3 refine hK _ _ _ _ _ _ (?_ : K _ _ _ _ _ _)
    refine hK _ _ _ _ _ _ (And.intro (fun _ => ?_) (fun c9 => absurd ((lg_cmp_eq _ _).mpr rfl) c9))
    iterate 3 refine hK _ _ _ _ _ _ (?_ : K _ _ _ _ _ _)
    show K 28 ((5, .int (nI (5 * j) + nI 5)) :: _) _ _ _ _
    rw [nI_add (5 * j) 5, show 5 * j + 5 = 5 * (j + 1) by omega]
    exact hW _ _ [(5, .int (nI (5 * (j + 1)))), (4, .ref 32), (3, .ref 31), (2, .ref 24), (1, .ref 1), (0, .ref 0)] _ _ _ _ (by simp) (ih _ _ _ _ _ _ _ _ _ _ _ _ _ _ _ _ _ _ _ _ _ _ hJ hA2 hR2 (by omega) (by omega))

set_option maxRecDepth 10000 in
/-- case 8: about -/
theorem lc_about {S : Nat × (Nat → Int32)} {d : Nat} {Q : eQ} {K : eK} (hK : ∀ (pc : Nat) (ls : eL) (st : List Value) (h : eH) (kc ks : Nat), eStep S MT (okCall S MT (d + 9)) ML_law (d + 9 + 1) Q K pc ls st h kc ks → K pc ls st h kc ks) (hW : ∀ (pc : Nat) (ls ls2 : eL) (st : List Value) (h : eH) (kc ks : Nat), (∀ q ∈ ls2, q ∈ ls) → K pc ls2 st h kc ks → K pc ls st h kc ks) {j : Nat} (h5 : 5 * j + 5 ≤ S.1) (hS : S.1 ≤ 2560) (ih : LN K (j + 1)) {b : Bool} {P : Nat → Nat → Bool} {R u v w : Nat → Bool} {kb : Nat → Nat} {f g e : Nat → Int32} {A mk ro nx pi : Nat → Int32} {kp : Nat → Int64} {km th : Int32} {oo : Nat → Int64} {od : Nat → UInt64} {kc ks : Nat} (hI : IvC P R) (hA : MI P A) (hR : RI R ro) (hkc : kc ≤ 42 + 7 * j) (hks : ks ≤ 1715 + 42 * j) : K 820 [(5, .int (nI (5 * j))), (4, .ref 32), (3, .ref 31), (2, .ref 24), (1, .ref 1), (0, .ref 0)] [] (b, LW P R u v w kb f g e A mk ro nx pi kp km th oo od) kc ks := by
  iterate 5 refine hK _ _ _ _ _ _ (?_ : K _ _ _ _ _ _)
  refine hK _ _ _ _ _ _ (r_sld rfl (i := 5 * j + 1) (nI_add _ _) (by omega) (by omega) (?_ : K _ _ _ _ _ _))
  iterate 4 refine hK _ _ _ _ _ _ (?_ : K _ _ _ _ _ _)
  refine hK _ _ _ _ _ _ (r_sld rfl (i := 5 * j + 2) (nI_add _ _) (by omega) (by omega) (?_ : K _ _ _ _ _ _))
  iterate 4 refine hK _ _ _ _ _ _ (?_ : K _ _ _ _ _ _)
  refine hK _ _ _ _ _ _ (r_sld rfl (i := 5 * j + 3) (nI_add _ _) (by omega) (by omega) (?_ : K _ _ _ _ _ _))
  refine hK _ _ _ _ _ _ (And.intro (fun ra => ?_) (fun ra => ?_))
  · skip
    iterate 5 refine hK _ _ _ _ _ _ (?_ : K _ _ _ _ _ _)
    refine hK _ _ _ _ _ _ (r_sld rfl (i := 5 * j + 4) (nI_add _ _) (by omega) (by omega) (?_ : K _ _ _ _ _ _))
    iterate 1 refine hK _ _ _ _ _ _ (?_ : K _ _ _ _ _ _)
    rcases ho : o_about P R (S.2 (5 * j + 1)) (S.2 (5 * j + 2)) false (S.2 (5 * j + 4)) with E | ⟨r9, P2, R2⟩
    · skip
      refine hK _ _ _ _ _ _ (r_callN rfl (fun _ => rfl) ⟨rfl, by show kc + 4 ≤ 601024; omega, by show ks + 24 ≤ 7293034; omega⟩ (kL_about (r := false) hI ho (fun u v w kb f g e => ?_)))
      show K 857 _ [.int (nI (cmA E))] (false, LW P R u v w kb f g e A mk ro nx pi kp km th oo od) (kc + 4) (ks + 24)
      iterate 6 refine hK _ _ _ _ _ _ (?_ : K _ _ _ _ _ _)
      refine hK _ _ _ _ _ _ (r_sld rfl (i := 5 * j + 1) (nI_add _ _) (by omega) (by omega) (?_ : K _ _ _ _ _ _))
      iterate 4 refine hK _ _ _ _ _ _ (?_ : K _ _ _ _ _ _)
      refine hK _ _ _ _ _ _ (r_sld rfl (i := 5 * j + 2) (nI_add _ _) (by omega) (by omega) (?_ : K _ _ _ _ _ _))
      iterate 4 refine hK _ _ _ _ _ _ (?_ : K _ _ _ _ _ _)
      refine hK _ _ _ _ _ _ (r_sld rfl (i := 5 * j + 3) (nI_add _ _) (by omega) (by omega) (?_ : K _ _ _ _ _ _))
      refine hK _ _ _ _ _ _ (And.intro (fun _ => ?_) (fun c9 => absurd (ra) c9))
      iterate 5 refine hK _ _ _ _ _ _ (?_ : K _ _ _ _ _ _)
      refine hK _ _ _ _ _ _ (r_sld rfl (i := 5 * j + 4) (nI_add _ _) (by omega) (by omega) (?_ : K _ _ _ _ _ _))
      refine hK _ _ _ _ _ _ (r_callV rfl (fun _ => rfl) rfl ⟨rfl, by show kc + 4 + 0 ≤ 601024; omega, by show ks + 24 + 0 ≤ 7293034; omega⟩ (kX7_about (r := false) (X := wX P R u v w kb f g e) hI hA hR (mqe ho (fun mk nx pi kp km => ?_))))
      show K 895 _ [.int (nI 0)] (false, LW P R u v w kb f g e A mk ro nx pi kp km (nI (cmA E)) oo od) (kc + 4) (ks + 24)
      iterate 2 refine hK _ _ _ _ _ _ (?_ : K _ _ _ _ _ _)
      refine hK _ _ _ _ _ _ (r_callV rfl (fun _ => rfl) rfl ⟨rfl, by show kc + 4 + 0 ≤ 601024; omega, by show ks + 24 + 0 ≤ 7293034; omega⟩ (kX7_thrown (X := wX P R u v w kb f g e) ?_))
      show K 901 _ [.int (nI (cmA E))] (false, LW P R u v w kb f g e A mk ro nx pi kp km (nI (cmA E)) oo od) (kc + 4) (ks + 24)
      iterate 1 refine hK _ _ _ _ _ _ (?_ : K _ _ _ _ _ _)
      refine hK _ _ _ _ _ _ (And.intro (fun _ => ?_) (fun c9 => absurd (rfl) c9))
      iterate 1 refine hK _ _ _ _ _ _ (?_ : K _ _ _ _ _ _)
      refine hK _ _ _ _ _ _ (And.intro (fun c9 => absurd c9 (cmA_n E)) (fun _ => ?_))
      iterate 3 refine hK _ _ _ _ _ _ (?_ : K _ _ _ _ _ _)
      show K 28 ((5, .int (nI (5 * j) + nI 5)) :: _) _ _ _ _
      rw [nI_add (5 * j) 5, show 5 * j + 5 = 5 * (j + 1) by omega]
      exact hW _ _ [(5, .int (nI (5 * (j + 1)))), (4, .ref 32), (3, .ref 31), (2, .ref 24), (1, .ref 1), (0, .ref 0)] _ _ _ _ (by simp) (ih _ _ _ _ _ _ _ _ _ _ _ _ _ _ _ _ _ _ _ _ _ _ hI hA hR (by omega) (by omega))
    · skip
      have hk := oK_about (P := P) (R := R) (x := S.2 (5 * j + 1)) (y := S.2 (5 * j + 2)) (r := false) (z := S.2 (5 * j + 4))
      rw [ho] at hk
      obtain ⟨x9, rfl⟩ := hk
      have hJ := oJ_about hI (x := S.2 (5 * j + 1)) (y := S.2 (5 * j + 2)) (r := false) (z := S.2 (5 * j + 4))
      rw [ho] at hJ
      have hJ : IvC P2 R2 := hJ
      refine hK _ _ _ _ _ _ (r_callN rfl (fun _ => rfl) ⟨rfl, by show kc + 4 ≤ 601024; omega, by show ks + 24 ≤ 7293034; omega⟩ (kL_about (r := false) hI ho (fun u v w kb f g e oo2 hoo => ?_)))
      show K 857 _ [.int (nI 0)] (b, LW P2 R2 u v w kb f g e A mk ro nx pi kp km th oo2 od) (kc + 4) (ks + 24)
      iterate 6 refine hK _ _ _ _ _ _ (?_ : K _ _ _ _ _ _)
      refine hK _ _ _ _ _ _ (r_sld rfl (i := 5 * j + 1) (nI_add _ _) (by omega) (by omega) (?_ : K _ _ _ _ _ _))
      iterate 4 refine hK _ _ _ _ _ _ (?_ : K _ _ _ _ _ _)
      refine hK _ _ _ _ _ _ (r_sld rfl (i := 5 * j + 2) (nI_add _ _) (by omega) (by omega) (?_ : K _ _ _ _ _ _))
      iterate 4 refine hK _ _ _ _ _ _ (?_ : K _ _ _ _ _ _)
      refine hK _ _ _ _ _ _ (r_sld rfl (i := 5 * j + 3) (nI_add _ _) (by omega) (by omega) (?_ : K _ _ _ _ _ _))
      refine hK _ _ _ _ _ _ (And.intro (fun _ => ?_) (fun c9 => absurd (ra) c9))
      iterate 5 refine hK _ _ _ _ _ _ (?_ : K _ _ _ _ _ _)
      refine hK _ _ _ _ _ _ (r_sld rfl (i := 5 * j + 4) (nI_add _ _) (by omega) (by omega) (?_ : K _ _ _ _ _ _))
      refine hK _ _ _ _ _ _ (r_callV rfl (fun _ => rfl) rfl ⟨rfl, by show kc + 4 + 0 ≤ 601024; omega, by show ks + 24 + 0 ≤ 7293034; omega⟩ (kX7_about (r := false) (X := wX P2 R2 u v w kb f g e) hI hA hR (mqe ho (fun A2 mk ro2 nx pi kp km hA2 hR2 => ?_))))
      show K 895 _ [.int x9] (b, LW P2 R2 u v w kb f g e A2 mk ro2 nx pi kp km (nI 0) oo2 od) (kc + 4) (ks + 24)
      iterate 2 refine hK _ _ _ _ _ _ (?_ : K _ _ _ _ _ _)
      refine hK _ _ _ _ _ _ (r_callV rfl (fun _ => rfl) rfl ⟨rfl, by show kc + 4 + 0 ≤ 601024; omega, by show ks + 24 + 0 ≤ 7293034; omega⟩ (kX7_thrown (X := wX P2 R2 u v w kb f g e) ?_))
      show K 901 _ [.int (nI 0)] (b, LW P2 R2 u v w kb f g e A2 mk ro2 nx pi kp km (nI 0) oo2 od) (kc + 4) (ks + 24)
      iterate 1 refine hK _ _ _ _ _ _ (?_ : K _ _ _ _ _ _)
      refine hK _ _ _ _ _ _ (And.intro (fun _ => ?_) (fun c9 => absurd (rfl) c9))
      iterate 1 refine hK _ _ _ _ _ _ (?_ : K _ _ _ _ _ _)
      refine hK _ _ _ _ _ _ (And.intro (fun _ => ?_) (fun c9 => absurd (rfl) c9))
      iterate 2 refine hK _ _ _ _ _ _ (?_ : K _ _ _ _ _ _)
      refine hK _ _ _ _ _ _ (r_lald' (v := x9.toInt64) rfl (N := 1) (f := oo2) rfl (vp_in_nI (by decide) (by decide)) (by rw [nI_clamp (by decide)]; exact hoo) (?_ : K _ _ _ _ _ _))
      iterate 3 refine hK _ _ _ _ _ _ (?_ : K _ _ _ _ _ _)
      refine hK _ _ _ _ _ _ (And.intro (fun _ => ?_) (fun c9 => absurd ((lg_cmp_eq _ _).mpr rfl) c9))
      iterate 3 refine hK _ _ _ _ _ _ (?_ : K _ _ _ _ _ _)
      show K 28 ((5, .int (nI (5 * j) + nI 5)) :: _) _ _ _ _
      rw [nI_add (5 * j) 5, show 5 * j + 5 = 5 * (j + 1) by omega]
      exact hW _ _ [(5, .int (nI (5 * (j + 1)))), (4, .ref 32), (3, .ref 31), (2, .ref 24), (1, .ref 1), (0, .ref 0)] _ _ _ _ (by simp) (ih _ _ _ _ _ _ _ _ _ _ _ _ _ _ _ _ _ _ _ _ _ _ hJ hA2 hR2 (by omega) (by omega))
  · skip
    iterate 6 refine hK _ _ _ _ _ _ (?_ : K _ _ _ _ _ _)
    refine hK _ _ _ _ _ _ (r_sld rfl (i := 5 * j + 4) (nI_add _ _) (by omega) (by omega) (?_ : K _ _ _ _ _ _))
    iterate 1 refine hK _ _ _ _ _ _ (?_ : K _ _ _ _ _ _)
    rcases ho : o_about P R (S.2 (5 * j + 1)) (S.2 (5 * j + 2)) true (S.2 (5 * j + 4)) with E | ⟨r9, P2, R2⟩
    · skip
      refine hK _ _ _ _ _ _ (r_callN rfl (fun _ => rfl) ⟨rfl, by show kc + 4 ≤ 601024; omega, by show ks + 24 ≤ 7293034; omega⟩ (kL_about (r := true) hI ho (fun u v w kb f g e => ?_)))
      show K 857 _ [.int (nI (cmA E))] (false, LW P R u v w kb f g e A mk ro nx pi kp km th oo od) (kc + 4) (ks + 24)
      iterate 6 refine hK _ _ _ _ _ _ (?_ : K _ _ _ _ _ _)
      refine hK _ _ _ _ _ _ (r_sld rfl (i := 5 * j + 1) (nI_add _ _) (by omega) (by omega) (?_ : K _ _ _ _ _ _))
      iterate 4 refine hK _ _ _ _ _ _ (?_ : K _ _ _ _ _ _)
      refine hK _ _ _ _ _ _ (r_sld rfl (i := 5 * j + 2) (nI_add _ _) (by omega) (by omega) (?_ : K _ _ _ _ _ _))
      iterate 4 refine hK _ _ _ _ _ _ (?_ : K _ _ _ _ _ _)
      refine hK _ _ _ _ _ _ (r_sld rfl (i := 5 * j + 3) (nI_add _ _) (by omega) (by omega) (?_ : K _ _ _ _ _ _))
      refine hK _ _ _ _ _ _ (And.intro (fun c9 => absurd c9 (ra)) (fun _ => ?_))
      iterate 6 refine hK _ _ _ _ _ _ (?_ : K _ _ _ _ _ _)
      refine hK _ _ _ _ _ _ (r_sld rfl (i := 5 * j + 4) (nI_add _ _) (by omega) (by omega) (?_ : K _ _ _ _ _ _))
      refine hK _ _ _ _ _ _ (r_callV rfl (fun _ => rfl) rfl ⟨rfl, by show kc + 4 + 0 ≤ 601024; omega, by show ks + 24 + 0 ≤ 7293034; omega⟩ (kX7_about (r := true) (X := wX P R u v w kb f g e) hI hA hR (mqe ho (fun mk nx pi kp km => ?_))))
      show K 895 _ [.int (nI 0)] (false, LW P R u v w kb f g e A mk ro nx pi kp km (nI (cmA E)) oo od) (kc + 4) (ks + 24)
      iterate 2 refine hK _ _ _ _ _ _ (?_ : K _ _ _ _ _ _)
      refine hK _ _ _ _ _ _ (r_callV rfl (fun _ => rfl) rfl ⟨rfl, by show kc + 4 + 0 ≤ 601024; omega, by show ks + 24 + 0 ≤ 7293034; omega⟩ (kX7_thrown (X := wX P R u v w kb f g e) ?_))
      show K 901 _ [.int (nI (cmA E))] (false, LW P R u v w kb f g e A mk ro nx pi kp km (nI (cmA E)) oo od) (kc + 4) (ks + 24)
      iterate 1 refine hK _ _ _ _ _ _ (?_ : K _ _ _ _ _ _)
      refine hK _ _ _ _ _ _ (And.intro (fun _ => ?_) (fun c9 => absurd (rfl) c9))
      iterate 1 refine hK _ _ _ _ _ _ (?_ : K _ _ _ _ _ _)
      refine hK _ _ _ _ _ _ (And.intro (fun c9 => absurd c9 (cmA_n E)) (fun _ => ?_))
      iterate 3 refine hK _ _ _ _ _ _ (?_ : K _ _ _ _ _ _)
      show K 28 ((5, .int (nI (5 * j) + nI 5)) :: _) _ _ _ _
      rw [nI_add (5 * j) 5, show 5 * j + 5 = 5 * (j + 1) by omega]
      exact hW _ _ [(5, .int (nI (5 * (j + 1)))), (4, .ref 32), (3, .ref 31), (2, .ref 24), (1, .ref 1), (0, .ref 0)] _ _ _ _ (by simp) (ih _ _ _ _ _ _ _ _ _ _ _ _ _ _ _ _ _ _ _ _ _ _ hI hA hR (by omega) (by omega))
    · skip
      have hk := oK_about (P := P) (R := R) (x := S.2 (5 * j + 1)) (y := S.2 (5 * j + 2)) (r := true) (z := S.2 (5 * j + 4))
      rw [ho] at hk
      obtain ⟨x9, rfl⟩ := hk
      have hJ := oJ_about hI (x := S.2 (5 * j + 1)) (y := S.2 (5 * j + 2)) (r := true) (z := S.2 (5 * j + 4))
      rw [ho] at hJ
      have hJ : IvC P2 R2 := hJ
      refine hK _ _ _ _ _ _ (r_callN rfl (fun _ => rfl) ⟨rfl, by show kc + 4 ≤ 601024; omega, by show ks + 24 ≤ 7293034; omega⟩ (kL_about (r := true) hI ho (fun u v w kb f g e oo2 hoo => ?_)))
      show K 857 _ [.int (nI 0)] (b, LW P2 R2 u v w kb f g e A mk ro nx pi kp km th oo2 od) (kc + 4) (ks + 24)
      iterate 6 refine hK _ _ _ _ _ _ (?_ : K _ _ _ _ _ _)
      refine hK _ _ _ _ _ _ (r_sld rfl (i := 5 * j + 1) (nI_add _ _) (by omega) (by omega) (?_ : K _ _ _ _ _ _))
      iterate 4 refine hK _ _ _ _ _ _ (?_ : K _ _ _ _ _ _)
      refine hK _ _ _ _ _ _ (r_sld rfl (i := 5 * j + 2) (nI_add _ _) (by omega) (by omega) (?_ : K _ _ _ _ _ _))
      iterate 4 refine hK _ _ _ _ _ _ (?_ : K _ _ _ _ _ _)
      refine hK _ _ _ _ _ _ (r_sld rfl (i := 5 * j + 3) (nI_add _ _) (by omega) (by omega) (?_ : K _ _ _ _ _ _))
      refine hK _ _ _ _ _ _ (And.intro (fun c9 => absurd c9 (ra)) (fun _ => ?_))
      iterate 6 refine hK _ _ _ _ _ _ (?_ : K _ _ _ _ _ _)
      refine hK _ _ _ _ _ _ (r_sld rfl (i := 5 * j + 4) (nI_add _ _) (by omega) (by omega) (?_ : K _ _ _ _ _ _))
      refine hK _ _ _ _ _ _ (r_callV rfl (fun _ => rfl) rfl ⟨rfl, by show kc + 4 + 0 ≤ 601024; omega, by show ks + 24 + 0 ≤ 7293034; omega⟩ (kX7_about (r := true) (X := wX P2 R2 u v w kb f g e) hI hA hR (mqe ho (fun A2 mk ro2 nx pi kp km hA2 hR2 => ?_))))
      show K 895 _ [.int x9] (b, LW P2 R2 u v w kb f g e A2 mk ro2 nx pi kp km (nI 0) oo2 od) (kc + 4) (ks + 24)
      iterate 2 refine hK _ _ _ _ _ _ (?_ : K _ _ _ _ _ _)
      refine hK _ _ _ _ _ _ (r_callV rfl (fun _ => rfl) rfl ⟨rfl, by show kc + 4 + 0 ≤ 601024; omega, by show ks + 24 + 0 ≤ 7293034; omega⟩ (kX7_thrown (X := wX P2 R2 u v w kb f g e) ?_))
      show K 901 _ [.int (nI 0)] (b, LW P2 R2 u v w kb f g e A2 mk ro2 nx pi kp km (nI 0) oo2 od) (kc + 4) (ks + 24)
      iterate 1 refine hK _ _ _ _ _ _ (?_ : K _ _ _ _ _ _)
      refine hK _ _ _ _ _ _ (And.intro (fun _ => ?_) (fun c9 => absurd (rfl) c9))
      iterate 1 refine hK _ _ _ _ _ _ (?_ : K _ _ _ _ _ _)
      refine hK _ _ _ _ _ _ (And.intro (fun _ => ?_) (fun c9 => absurd (rfl) c9))
      iterate 2 refine hK _ _ _ _ _ _ (?_ : K _ _ _ _ _ _)
      refine hK _ _ _ _ _ _ (r_lald' (v := x9.toInt64) rfl (N := 1) (f := oo2) rfl (vp_in_nI (by decide) (by decide)) (by rw [nI_clamp (by decide)]; exact hoo) (?_ : K _ _ _ _ _ _))
      iterate 3 refine hK _ _ _ _ _ _ (?_ : K _ _ _ _ _ _)
      refine hK _ _ _ _ _ _ (And.intro (fun _ => ?_) (fun c9 => absurd ((lg_cmp_eq _ _).mpr rfl) c9))
      iterate 3 refine hK _ _ _ _ _ _ (?_ : K _ _ _ _ _ _)
      show K 28 ((5, .int (nI (5 * j) + nI 5)) :: _) _ _ _ _
      rw [nI_add (5 * j) 5, show 5 * j + 5 = 5 * (j + 1) by omega]
      exact hW _ _ [(5, .int (nI (5 * (j + 1)))), (4, .ref 32), (3, .ref 31), (2, .ref 24), (1, .ref 1), (0, .ref 0)] _ _ _ _ (by simp) (ih _ _ _ _ _ _ _ _ _ _ _ _ _ _ _ _ _ _ _ _ _ _ hJ hA2 hR2 (by omega) (by omega))

set_option maxRecDepth 10000 in
/-- case 9: cone -/
theorem lc_cone {S : Nat × (Nat → Int32)} {d : Nat} {Q : eQ} {K : eK} (hK : ∀ (pc : Nat) (ls : eL) (st : List Value) (h : eH) (kc ks : Nat), eStep S MT (okCall S MT (d + 9)) ML_law (d + 9 + 1) Q K pc ls st h kc ks → K pc ls st h kc ks) (hW : ∀ (pc : Nat) (ls ls2 : eL) (st : List Value) (h : eH) (kc ks : Nat), (∀ q ∈ ls2, q ∈ ls) → K pc ls2 st h kc ks → K pc ls st h kc ks) {j : Nat} (h5 : 5 * j + 5 ≤ S.1) (hS : S.1 ≤ 2560) (ih : LN K (j + 1)) {b : Bool} {P : Nat → Nat → Bool} {R u v w : Nat → Bool} {kb : Nat → Nat} {f g e : Nat → Int32} {A mk ro nx pi : Nat → Int32} {kp : Nat → Int64} {km th : Int32} {oo : Nat → Int64} {od : Nat → UInt64} {kc ks : Nat} (hI : IvC P R) (hA : MI P A) (hR : RI R ro) (hkc : kc ≤ 42 + 7 * j) (hks : ks ≤ 1715 + 42 * j) : K 928 [(5, .int (nI (5 * j))), (4, .ref 32), (3, .ref 31), (2, .ref 24), (1, .ref 1), (0, .ref 0)] [] (b, LW P R u v w kb f g e A mk ro nx pi kp km th oo od) kc ks := by
  iterate 5 refine hK _ _ _ _ _ _ (?_ : K _ _ _ _ _ _)
  refine hK _ _ _ _ _ _ (r_sld rfl (i := 5 * j + 1) (nI_add _ _) (by omega) (by omega) (?_ : K _ _ _ _ _ _))
  iterate 4 refine hK _ _ _ _ _ _ (?_ : K _ _ _ _ _ _)
  refine hK _ _ _ _ _ _ (r_sld rfl (i := 5 * j + 2) (nI_add _ _) (by omega) (by omega) (?_ : K _ _ _ _ _ _))
  iterate 4 refine hK _ _ _ _ _ _ (?_ : K _ _ _ _ _ _)
  refine hK _ _ _ _ _ _ (r_sld rfl (i := 5 * j + 3) (nI_add _ _) (by omega) (by omega) (?_ : K _ _ _ _ _ _))
  iterate 1 refine hK _ _ _ _ _ _ (?_ : K _ _ _ _ _ _)
  rcases ho : o_cone P R (S.2 (5 * j + 1)) (S.2 (5 * j + 2)) (S.2 (5 * j + 3)) with E | ⟨r9, P2, R2⟩
  · skip
    refine hK _ _ _ _ _ _ (r_callN rfl (fun _ => rfl) ⟨rfl, by show kc + 4 ≤ 601024; omega, by show ks + 24 ≤ 7293034; omega⟩ (kL_cone hI ho (fun u v w kb f g e => ?_)))
    show K 951 _ [.int (nI (cmA E))] (false, LW P R u v w kb f g e A mk ro nx pi kp km th oo od) (kc + 4) (ks + 24)
    iterate 6 refine hK _ _ _ _ _ _ (?_ : K _ _ _ _ _ _)
    refine hK _ _ _ _ _ _ (r_sld rfl (i := 5 * j + 1) (nI_add _ _) (by omega) (by omega) (?_ : K _ _ _ _ _ _))
    iterate 4 refine hK _ _ _ _ _ _ (?_ : K _ _ _ _ _ _)
    refine hK _ _ _ _ _ _ (r_sld rfl (i := 5 * j + 2) (nI_add _ _) (by omega) (by omega) (?_ : K _ _ _ _ _ _))
    iterate 4 refine hK _ _ _ _ _ _ (?_ : K _ _ _ _ _ _)
    refine hK _ _ _ _ _ _ (r_sld rfl (i := 5 * j + 3) (nI_add _ _) (by omega) (by omega) (?_ : K _ _ _ _ _ _))
    refine hK _ _ _ _ _ _ (r_callV rfl (fun _ => rfl) rfl ⟨rfl, by show kc + 4 + 0 ≤ 601024; omega, by show ks + 24 + 0 ≤ 7293034; omega⟩ (kX7_cone (X := wX P R u v w kb f g e) hI hA hR (mqe ho (fun mk nx pi kp km => ?_))))
    show K 975 _ [.int (nI 0)] (false, LW P R u v w kb f g e A mk ro nx pi kp km (nI (cmA E)) oo od) (kc + 4) (ks + 24)
    iterate 2 refine hK _ _ _ _ _ _ (?_ : K _ _ _ _ _ _)
    refine hK _ _ _ _ _ _ (r_callV rfl (fun _ => rfl) rfl ⟨rfl, by show kc + 4 + 0 ≤ 601024; omega, by show ks + 24 + 0 ≤ 7293034; omega⟩ (kX7_thrown (X := wX P R u v w kb f g e) ?_))
    show K 981 _ [.int (nI (cmA E))] (false, LW P R u v w kb f g e A mk ro nx pi kp km (nI (cmA E)) oo od) (kc + 4) (ks + 24)
    iterate 1 refine hK _ _ _ _ _ _ (?_ : K _ _ _ _ _ _)
    refine hK _ _ _ _ _ _ (And.intro (fun _ => ?_) (fun c9 => absurd (rfl) c9))
    iterate 1 refine hK _ _ _ _ _ _ (?_ : K _ _ _ _ _ _)
    refine hK _ _ _ _ _ _ (And.intro (fun c9 => absurd c9 (cmA_n E)) (fun _ => ?_))
    iterate 3 refine hK _ _ _ _ _ _ (?_ : K _ _ _ _ _ _)
    show K 28 ((5, .int (nI (5 * j) + nI 5)) :: _) _ _ _ _
    rw [nI_add (5 * j) 5, show 5 * j + 5 = 5 * (j + 1) by omega]
    exact hW _ _ [(5, .int (nI (5 * (j + 1)))), (4, .ref 32), (3, .ref 31), (2, .ref 24), (1, .ref 1), (0, .ref 0)] _ _ _ _ (by simp) (ih _ _ _ _ _ _ _ _ _ _ _ _ _ _ _ _ _ _ _ _ _ _ hI hA hR (by omega) (by omega))
  · skip
    have hk := oK_cone (P := P) (R := R) (x := S.2 (5 * j + 1)) (y := S.2 (5 * j + 2)) (z := S.2 (5 * j + 3))
    rw [ho] at hk
    obtain ⟨x9, rfl⟩ := hk
    have hJ := oJ_cone hI (x := S.2 (5 * j + 1)) (y := S.2 (5 * j + 2)) (z := S.2 (5 * j + 3))
    rw [ho] at hJ
    have hJ : IvC P2 R2 := hJ
    refine hK _ _ _ _ _ _ (r_callN rfl (fun _ => rfl) ⟨rfl, by show kc + 4 ≤ 601024; omega, by show ks + 24 ≤ 7293034; omega⟩ (kL_cone hI ho (fun u v w kb f g e oo2 hoo => ?_)))
    show K 951 _ [.int (nI 0)] (b, LW P2 R2 u v w kb f g e A mk ro nx pi kp km th oo2 od) (kc + 4) (ks + 24)
    iterate 6 refine hK _ _ _ _ _ _ (?_ : K _ _ _ _ _ _)
    refine hK _ _ _ _ _ _ (r_sld rfl (i := 5 * j + 1) (nI_add _ _) (by omega) (by omega) (?_ : K _ _ _ _ _ _))
    iterate 4 refine hK _ _ _ _ _ _ (?_ : K _ _ _ _ _ _)
    refine hK _ _ _ _ _ _ (r_sld rfl (i := 5 * j + 2) (nI_add _ _) (by omega) (by omega) (?_ : K _ _ _ _ _ _))
    iterate 4 refine hK _ _ _ _ _ _ (?_ : K _ _ _ _ _ _)
    refine hK _ _ _ _ _ _ (r_sld rfl (i := 5 * j + 3) (nI_add _ _) (by omega) (by omega) (?_ : K _ _ _ _ _ _))
    refine hK _ _ _ _ _ _ (r_callV rfl (fun _ => rfl) rfl ⟨rfl, by show kc + 4 + 0 ≤ 601024; omega, by show ks + 24 + 0 ≤ 7293034; omega⟩ (kX7_cone (X := wX P2 R2 u v w kb f g e) hI hA hR (mqe ho (fun A2 mk ro2 nx pi kp km hA2 hR2 => ?_))))
    show K 975 _ [.int x9] (b, LW P2 R2 u v w kb f g e A2 mk ro2 nx pi kp km (nI 0) oo2 od) (kc + 4) (ks + 24)
    iterate 2 refine hK _ _ _ _ _ _ (?_ : K _ _ _ _ _ _)
    refine hK _ _ _ _ _ _ (r_callV rfl (fun _ => rfl) rfl ⟨rfl, by show kc + 4 + 0 ≤ 601024; omega, by show ks + 24 + 0 ≤ 7293034; omega⟩ (kX7_thrown (X := wX P2 R2 u v w kb f g e) ?_))
    show K 981 _ [.int (nI 0)] (b, LW P2 R2 u v w kb f g e A2 mk ro2 nx pi kp km (nI 0) oo2 od) (kc + 4) (ks + 24)
    iterate 1 refine hK _ _ _ _ _ _ (?_ : K _ _ _ _ _ _)
    refine hK _ _ _ _ _ _ (And.intro (fun _ => ?_) (fun c9 => absurd (rfl) c9))
    iterate 1 refine hK _ _ _ _ _ _ (?_ : K _ _ _ _ _ _)
    refine hK _ _ _ _ _ _ (And.intro (fun _ => ?_) (fun c9 => absurd (rfl) c9))
    iterate 2 refine hK _ _ _ _ _ _ (?_ : K _ _ _ _ _ _)
    refine hK _ _ _ _ _ _ (r_lald' (v := x9.toInt64) rfl (N := 1) (f := oo2) rfl (vp_in_nI (by decide) (by decide)) (by rw [nI_clamp (by decide)]; exact hoo) (?_ : K _ _ _ _ _ _))
    iterate 3 refine hK _ _ _ _ _ _ (?_ : K _ _ _ _ _ _)
    refine hK _ _ _ _ _ _ (And.intro (fun _ => ?_) (fun c9 => absurd ((lg_cmp_eq _ _).mpr rfl) c9))
    iterate 3 refine hK _ _ _ _ _ _ (?_ : K _ _ _ _ _ _)
    show K 28 ((5, .int (nI (5 * j) + nI 5)) :: _) _ _ _ _
    rw [nI_add (5 * j) 5, show 5 * j + 5 = 5 * (j + 1) by omega]
    exact hW _ _ [(5, .int (nI (5 * (j + 1)))), (4, .ref 32), (3, .ref 31), (2, .ref 24), (1, .ref 1), (0, .ref 0)] _ _ _ _ (by simp) (ih _ _ _ _ _ _ _ _ _ _ _ _ _ _ _ _ _ _ _ _ _ _ hJ hA2 hR2 (by omega) (by omega))

set_option maxRecDepth 10000 in
/-- case 10: lift -/
theorem lc_lift {S : Nat × (Nat → Int32)} {d : Nat} {Q : eQ} {K : eK} (hK : ∀ (pc : Nat) (ls : eL) (st : List Value) (h : eH) (kc ks : Nat), eStep S MT (okCall S MT (d + 9)) ML_law (d + 9 + 1) Q K pc ls st h kc ks → K pc ls st h kc ks) (hW : ∀ (pc : Nat) (ls ls2 : eL) (st : List Value) (h : eH) (kc ks : Nat), (∀ q ∈ ls2, q ∈ ls) → K pc ls2 st h kc ks → K pc ls st h kc ks) {j : Nat} (h5 : 5 * j + 5 ≤ S.1) (hS : S.1 ≤ 2560) (ih : LN K (j + 1)) {b : Bool} {P : Nat → Nat → Bool} {R u v w : Nat → Bool} {kb : Nat → Nat} {f g e : Nat → Int32} {A mk ro nx pi : Nat → Int32} {kp : Nat → Int64} {km th : Int32} {oo : Nat → Int64} {od : Nat → UInt64} {kc ks : Nat} (hI : IvC P R) (hA : MI P A) (hR : RI R ro) (hkc : kc ≤ 42 + 7 * j) (hks : ks ≤ 1715 + 42 * j) : K 1008 [(5, .int (nI (5 * j))), (4, .ref 32), (3, .ref 31), (2, .ref 24), (1, .ref 1), (0, .ref 0)] [] (b, LW P R u v w kb f g e A mk ro nx pi kp km th oo od) kc ks := by
  iterate 5 refine hK _ _ _ _ _ _ (?_ : K _ _ _ _ _ _)
  refine hK _ _ _ _ _ _ (r_sld rfl (i := 5 * j + 1) (nI_add _ _) (by omega) (by omega) (?_ : K _ _ _ _ _ _))
  iterate 4 refine hK _ _ _ _ _ _ (?_ : K _ _ _ _ _ _)
  refine hK _ _ _ _ _ _ (r_sld rfl (i := 5 * j + 2) (nI_add _ _) (by omega) (by omega) (?_ : K _ _ _ _ _ _))
  iterate 4 refine hK _ _ _ _ _ _ (?_ : K _ _ _ _ _ _)
  refine hK _ _ _ _ _ _ (r_sld rfl (i := 5 * j + 3) (nI_add _ _) (by omega) (by omega) (?_ : K _ _ _ _ _ _))
  iterate 4 refine hK _ _ _ _ _ _ (?_ : K _ _ _ _ _ _)
  refine hK _ _ _ _ _ _ (r_sld rfl (i := 5 * j + 4) (nI_add _ _) (by omega) (by omega) (?_ : K _ _ _ _ _ _))
  iterate 1 refine hK _ _ _ _ _ _ (?_ : K _ _ _ _ _ _)
  rcases ho : o_lift P R (S.2 (5 * j + 1)) (S.2 (5 * j + 2)) (S.2 (5 * j + 3)) (S.2 (5 * j + 4)) with E | ⟨r9, P2, R2⟩
  · skip
    refine hK _ _ _ _ _ _ (r_callN rfl (fun _ => rfl) ⟨rfl, by show kc + 7 ≤ 601024; omega, by show ks + 42 ≤ 7293034; omega⟩ (kL_lift hI ho (fun u v w kb f g e => ?_)))
    show K 1037 _ [.int (nI (cmA E))] (false, LW P R u v w kb f g e A mk ro nx pi kp km th oo od) (kc + 7) (ks + 42)
    iterate 6 refine hK _ _ _ _ _ _ (?_ : K _ _ _ _ _ _)
    refine hK _ _ _ _ _ _ (r_sld rfl (i := 5 * j + 1) (nI_add _ _) (by omega) (by omega) (?_ : K _ _ _ _ _ _))
    iterate 4 refine hK _ _ _ _ _ _ (?_ : K _ _ _ _ _ _)
    refine hK _ _ _ _ _ _ (r_sld rfl (i := 5 * j + 2) (nI_add _ _) (by omega) (by omega) (?_ : K _ _ _ _ _ _))
    iterate 4 refine hK _ _ _ _ _ _ (?_ : K _ _ _ _ _ _)
    refine hK _ _ _ _ _ _ (r_sld rfl (i := 5 * j + 3) (nI_add _ _) (by omega) (by omega) (?_ : K _ _ _ _ _ _))
    iterate 4 refine hK _ _ _ _ _ _ (?_ : K _ _ _ _ _ _)
    refine hK _ _ _ _ _ _ (r_sld rfl (i := 5 * j + 4) (nI_add _ _) (by omega) (by omega) (?_ : K _ _ _ _ _ _))
    refine hK _ _ _ _ _ _ (r_callV rfl (fun _ => rfl) rfl ⟨rfl, by show kc + 7 + 0 ≤ 601024; omega, by show ks + 42 + 0 ≤ 7293034; omega⟩ (kX7_lift (X := wX P R u v w kb f g e) hI hA hR (mqe ho (fun mk nx pi kp km => ?_))))
    show K 1067 _ [.int (nI 0)] (false, LW P R u v w kb f g e A mk ro nx pi kp km (nI (cmA E)) oo od) (kc + 7) (ks + 42)
    iterate 2 refine hK _ _ _ _ _ _ (?_ : K _ _ _ _ _ _)
    refine hK _ _ _ _ _ _ (r_callV rfl (fun _ => rfl) rfl ⟨rfl, by show kc + 7 + 0 ≤ 601024; omega, by show ks + 42 + 0 ≤ 7293034; omega⟩ (kX7_thrown (X := wX P R u v w kb f g e) ?_))
    show K 1073 _ [.int (nI (cmA E))] (false, LW P R u v w kb f g e A mk ro nx pi kp km (nI (cmA E)) oo od) (kc + 7) (ks + 42)
    iterate 1 refine hK _ _ _ _ _ _ (?_ : K _ _ _ _ _ _)
    refine hK _ _ _ _ _ _ (And.intro (fun _ => ?_) (fun c9 => absurd (rfl) c9))
    iterate 1 refine hK _ _ _ _ _ _ (?_ : K _ _ _ _ _ _)
    refine hK _ _ _ _ _ _ (And.intro (fun c9 => absurd c9 (cmA_n E)) (fun _ => ?_))
    iterate 3 refine hK _ _ _ _ _ _ (?_ : K _ _ _ _ _ _)
    show K 28 ((5, .int (nI (5 * j) + nI 5)) :: _) _ _ _ _
    rw [nI_add (5 * j) 5, show 5 * j + 5 = 5 * (j + 1) by omega]
    exact hW _ _ [(5, .int (nI (5 * (j + 1)))), (4, .ref 32), (3, .ref 31), (2, .ref 24), (1, .ref 1), (0, .ref 0)] _ _ _ _ (by simp) (ih _ _ _ _ _ _ _ _ _ _ _ _ _ _ _ _ _ _ _ _ _ _ hI hA hR (by omega) (by omega))
  · skip
    have hk := oK_lift (P := P) (R := R) (x := S.2 (5 * j + 1)) (y := S.2 (5 * j + 2)) (z := S.2 (5 * j + 3)) (s := S.2 (5 * j + 4))
    rw [ho] at hk
    obtain ⟨x9, rfl⟩ := hk
    have hJ := oJ_lift hI (x := S.2 (5 * j + 1)) (y := S.2 (5 * j + 2)) (z := S.2 (5 * j + 3)) (s := S.2 (5 * j + 4))
    rw [ho] at hJ
    have hJ : IvC P2 R2 := hJ
    refine hK _ _ _ _ _ _ (r_callN rfl (fun _ => rfl) ⟨rfl, by show kc + 7 ≤ 601024; omega, by show ks + 42 ≤ 7293034; omega⟩ (kL_lift hI ho (fun u v w kb f g e oo2 hoo => ?_)))
    show K 1037 _ [.int (nI 0)] (b, LW P2 R2 u v w kb f g e A mk ro nx pi kp km th oo2 od) (kc + 7) (ks + 42)
    iterate 6 refine hK _ _ _ _ _ _ (?_ : K _ _ _ _ _ _)
    refine hK _ _ _ _ _ _ (r_sld rfl (i := 5 * j + 1) (nI_add _ _) (by omega) (by omega) (?_ : K _ _ _ _ _ _))
    iterate 4 refine hK _ _ _ _ _ _ (?_ : K _ _ _ _ _ _)
    refine hK _ _ _ _ _ _ (r_sld rfl (i := 5 * j + 2) (nI_add _ _) (by omega) (by omega) (?_ : K _ _ _ _ _ _))
    iterate 4 refine hK _ _ _ _ _ _ (?_ : K _ _ _ _ _ _)
    refine hK _ _ _ _ _ _ (r_sld rfl (i := 5 * j + 3) (nI_add _ _) (by omega) (by omega) (?_ : K _ _ _ _ _ _))
    iterate 4 refine hK _ _ _ _ _ _ (?_ : K _ _ _ _ _ _)
    refine hK _ _ _ _ _ _ (r_sld rfl (i := 5 * j + 4) (nI_add _ _) (by omega) (by omega) (?_ : K _ _ _ _ _ _))
    refine hK _ _ _ _ _ _ (r_callV rfl (fun _ => rfl) rfl ⟨rfl, by show kc + 7 + 0 ≤ 601024; omega, by show ks + 42 + 0 ≤ 7293034; omega⟩ (kX7_lift (X := wX P2 R2 u v w kb f g e) hI hA hR (mqe ho (fun A2 mk ro2 nx pi kp km hA2 hR2 => ?_))))
    show K 1067 _ [.int x9] (b, LW P2 R2 u v w kb f g e A2 mk ro2 nx pi kp km (nI 0) oo2 od) (kc + 7) (ks + 42)
    iterate 2 refine hK _ _ _ _ _ _ (?_ : K _ _ _ _ _ _)
    refine hK _ _ _ _ _ _ (r_callV rfl (fun _ => rfl) rfl ⟨rfl, by show kc + 7 + 0 ≤ 601024; omega, by show ks + 42 + 0 ≤ 7293034; omega⟩ (kX7_thrown (X := wX P2 R2 u v w kb f g e) ?_))
    show K 1073 _ [.int (nI 0)] (b, LW P2 R2 u v w kb f g e A2 mk ro2 nx pi kp km (nI 0) oo2 od) (kc + 7) (ks + 42)
    iterate 1 refine hK _ _ _ _ _ _ (?_ : K _ _ _ _ _ _)
    refine hK _ _ _ _ _ _ (And.intro (fun _ => ?_) (fun c9 => absurd (rfl) c9))
    iterate 1 refine hK _ _ _ _ _ _ (?_ : K _ _ _ _ _ _)
    refine hK _ _ _ _ _ _ (And.intro (fun _ => ?_) (fun c9 => absurd (rfl) c9))
    iterate 2 refine hK _ _ _ _ _ _ (?_ : K _ _ _ _ _ _)
    refine hK _ _ _ _ _ _ (r_lald' (v := x9.toInt64) rfl (N := 1) (f := oo2) rfl (vp_in_nI (by decide) (by decide)) (by rw [nI_clamp (by decide)]; exact hoo) (?_ : K _ _ _ _ _ _))
    iterate 3 refine hK _ _ _ _ _ _ (?_ : K _ _ _ _ _ _)
    refine hK _ _ _ _ _ _ (And.intro (fun _ => ?_) (fun c9 => absurd ((lg_cmp_eq _ _).mpr rfl) c9))
    iterate 3 refine hK _ _ _ _ _ _ (?_ : K _ _ _ _ _ _)
    show K 28 ((5, .int (nI (5 * j) + nI 5)) :: _) _ _ _ _
    rw [nI_add (5 * j) 5, show 5 * j + 5 = 5 * (j + 1) by omega]
    exact hW _ _ [(5, .int (nI (5 * (j + 1)))), (4, .ref 32), (3, .ref 31), (2, .ref 24), (1, .ref 1), (0, .ref 0)] _ _ _ _ (by simp) (ih _ _ _ _ _ _ _ _ _ _ _ _ _ _ _ _ _ _ _ _ _ _ hJ hA2 hR2 (by omega) (by omega))

set_option maxRecDepth 10000 in
/-- case 11: other -/
theorem lc_other {S : Nat × (Nat → Int32)} {d : Nat} {Q : eQ} {K : eK} (hK : ∀ (pc : Nat) (ls : eL) (st : List Value) (h : eH) (kc ks : Nat), eStep S MT (okCall S MT (d + 9)) ML_law (d + 9 + 1) Q K pc ls st h kc ks → K pc ls st h kc ks) (hW : ∀ (pc : Nat) (ls ls2 : eL) (st : List Value) (h : eH) (kc ks : Nat), (∀ q ∈ ls2, q ∈ ls) → K pc ls2 st h kc ks → K pc ls st h kc ks) {j : Nat} (h5 : 5 * j + 5 ≤ S.1) (hS : S.1 ≤ 2560) (ih : LN K (j + 1)) {b : Bool} {P : Nat → Nat → Bool} {R u v w : Nat → Bool} {kb : Nat → Nat} {f g e : Nat → Int32} {A mk ro nx pi : Nat → Int32} {kp : Nat → Int64} {km th : Int32} {oo : Nat → Int64} {od : Nat → UInt64} {kc ks : Nat} (hI : IvC P R) (hA : MI P A) (hR : RI R ro) (hkc : kc ≤ 42 + 7 * j) (hks : ks ≤ 1715 + 42 * j) : K 1100 [(5, .int (nI (5 * j))), (4, .ref 32), (3, .ref 31), (2, .ref 24), (1, .ref 1), (0, .ref 0)] [] (b, LW P R u v w kb f g e A mk ro nx pi kp km th oo od) kc ks := by
  iterate 5 refine hK _ _ _ _ _ _ (?_ : K _ _ _ _ _ _)
  refine hK _ _ _ _ _ _ (r_sld rfl (i := 5 * j + 1) (nI_add _ _) (by omega) (by omega) (?_ : K _ _ _ _ _ _))
  iterate 4 refine hK _ _ _ _ _ _ (?_ : K _ _ _ _ _ _)
  refine hK _ _ _ _ _ _ (r_sld rfl (i := 5 * j + 2) (nI_add _ _) (by omega) (by omega) (?_ : K _ _ _ _ _ _))
  iterate 4 refine hK _ _ _ _ _ _ (?_ : K _ _ _ _ _ _)
  refine hK _ _ _ _ _ _ (r_sld rfl (i := 5 * j + 3) (nI_add _ _) (by omega) (by omega) (?_ : K _ _ _ _ _ _))
  iterate 1 refine hK _ _ _ _ _ _ (?_ : K _ _ _ _ _ _)
  rcases ho : o_other P R (S.2 (5 * j + 1)) (S.2 (5 * j + 2)) (S.2 (5 * j + 3)) with E | ⟨r9, P2, R2⟩
  · skip
    refine hK _ _ _ _ _ _ (r_callN rfl (fun _ => rfl) ⟨rfl, by show kc + 4 ≤ 601024; omega, by show ks + 24 ≤ 7293034; omega⟩ (kL_other hI ho (fun u v w kb f g e => ?_)))
    show K 1123 _ [.int (nI (cmA E))] (false, LW P R u v w kb f g e A mk ro nx pi kp km th oo od) (kc + 4) (ks + 24)
    iterate 6 refine hK _ _ _ _ _ _ (?_ : K _ _ _ _ _ _)
    refine hK _ _ _ _ _ _ (r_sld rfl (i := 5 * j + 1) (nI_add _ _) (by omega) (by omega) (?_ : K _ _ _ _ _ _))
    iterate 4 refine hK _ _ _ _ _ _ (?_ : K _ _ _ _ _ _)
    refine hK _ _ _ _ _ _ (r_sld rfl (i := 5 * j + 2) (nI_add _ _) (by omega) (by omega) (?_ : K _ _ _ _ _ _))
    iterate 4 refine hK _ _ _ _ _ _ (?_ : K _ _ _ _ _ _)
    refine hK _ _ _ _ _ _ (r_sld rfl (i := 5 * j + 3) (nI_add _ _) (by omega) (by omega) (?_ : K _ _ _ _ _ _))
    refine hK _ _ _ _ _ _ (r_callV rfl (fun _ => rfl) rfl ⟨rfl, by show kc + 4 + 0 ≤ 601024; omega, by show ks + 24 + 0 ≤ 7293034; omega⟩ (kX7_other (X := wX P R u v w kb f g e) hI hA hR (mqe ho (fun mk nx pi kp km => ?_))))
    show K 1147 _ [.int (nI 0)] (false, LW P R u v w kb f g e A mk ro nx pi kp km (nI (cmA E)) oo od) (kc + 4) (ks + 24)
    iterate 2 refine hK _ _ _ _ _ _ (?_ : K _ _ _ _ _ _)
    refine hK _ _ _ _ _ _ (r_callV rfl (fun _ => rfl) rfl ⟨rfl, by show kc + 4 + 0 ≤ 601024; omega, by show ks + 24 + 0 ≤ 7293034; omega⟩ (kX7_thrown (X := wX P R u v w kb f g e) ?_))
    show K 1153 _ [.int (nI (cmA E))] (false, LW P R u v w kb f g e A mk ro nx pi kp km (nI (cmA E)) oo od) (kc + 4) (ks + 24)
    iterate 1 refine hK _ _ _ _ _ _ (?_ : K _ _ _ _ _ _)
    refine hK _ _ _ _ _ _ (And.intro (fun _ => ?_) (fun c9 => absurd (rfl) c9))
    iterate 1 refine hK _ _ _ _ _ _ (?_ : K _ _ _ _ _ _)
    refine hK _ _ _ _ _ _ (And.intro (fun c9 => absurd c9 (cmA_n E)) (fun _ => ?_))
    iterate 3 refine hK _ _ _ _ _ _ (?_ : K _ _ _ _ _ _)
    show K 28 ((5, .int (nI (5 * j) + nI 5)) :: _) _ _ _ _
    rw [nI_add (5 * j) 5, show 5 * j + 5 = 5 * (j + 1) by omega]
    exact hW _ _ [(5, .int (nI (5 * (j + 1)))), (4, .ref 32), (3, .ref 31), (2, .ref 24), (1, .ref 1), (0, .ref 0)] _ _ _ _ (by simp) (ih _ _ _ _ _ _ _ _ _ _ _ _ _ _ _ _ _ _ _ _ _ _ hI hA hR (by omega) (by omega))
  · skip
    have hk := oK_other (P := P) (R := R) (x := S.2 (5 * j + 1)) (y := S.2 (5 * j + 2)) (z := S.2 (5 * j + 3))
    rw [ho] at hk
    obtain ⟨x9, rfl⟩ := hk
    have hJ := oJ_other hI (x := S.2 (5 * j + 1)) (y := S.2 (5 * j + 2)) (z := S.2 (5 * j + 3))
    rw [ho] at hJ
    have hJ : IvC P2 R2 := hJ
    refine hK _ _ _ _ _ _ (r_callN rfl (fun _ => rfl) ⟨rfl, by show kc + 4 ≤ 601024; omega, by show ks + 24 ≤ 7293034; omega⟩ (kL_other hI ho (fun u v w kb f g e oo2 hoo => ?_)))
    show K 1123 _ [.int (nI 0)] (b, LW P2 R2 u v w kb f g e A mk ro nx pi kp km th oo2 od) (kc + 4) (ks + 24)
    iterate 6 refine hK _ _ _ _ _ _ (?_ : K _ _ _ _ _ _)
    refine hK _ _ _ _ _ _ (r_sld rfl (i := 5 * j + 1) (nI_add _ _) (by omega) (by omega) (?_ : K _ _ _ _ _ _))
    iterate 4 refine hK _ _ _ _ _ _ (?_ : K _ _ _ _ _ _)
    refine hK _ _ _ _ _ _ (r_sld rfl (i := 5 * j + 2) (nI_add _ _) (by omega) (by omega) (?_ : K _ _ _ _ _ _))
    iterate 4 refine hK _ _ _ _ _ _ (?_ : K _ _ _ _ _ _)
    refine hK _ _ _ _ _ _ (r_sld rfl (i := 5 * j + 3) (nI_add _ _) (by omega) (by omega) (?_ : K _ _ _ _ _ _))
    refine hK _ _ _ _ _ _ (r_callV rfl (fun _ => rfl) rfl ⟨rfl, by show kc + 4 + 0 ≤ 601024; omega, by show ks + 24 + 0 ≤ 7293034; omega⟩ (kX7_other (X := wX P2 R2 u v w kb f g e) hI hA hR (mqe ho (fun A2 mk ro2 nx pi kp km hA2 hR2 => ?_))))
    show K 1147 _ [.int x9] (b, LW P2 R2 u v w kb f g e A2 mk ro2 nx pi kp km (nI 0) oo2 od) (kc + 4) (ks + 24)
    iterate 2 refine hK _ _ _ _ _ _ (?_ : K _ _ _ _ _ _)
    refine hK _ _ _ _ _ _ (r_callV rfl (fun _ => rfl) rfl ⟨rfl, by show kc + 4 + 0 ≤ 601024; omega, by show ks + 24 + 0 ≤ 7293034; omega⟩ (kX7_thrown (X := wX P2 R2 u v w kb f g e) ?_))
    show K 1153 _ [.int (nI 0)] (b, LW P2 R2 u v w kb f g e A2 mk ro2 nx pi kp km (nI 0) oo2 od) (kc + 4) (ks + 24)
    iterate 1 refine hK _ _ _ _ _ _ (?_ : K _ _ _ _ _ _)
    refine hK _ _ _ _ _ _ (And.intro (fun _ => ?_) (fun c9 => absurd (rfl) c9))
    iterate 1 refine hK _ _ _ _ _ _ (?_ : K _ _ _ _ _ _)
    refine hK _ _ _ _ _ _ (And.intro (fun _ => ?_) (fun c9 => absurd (rfl) c9))
    iterate 2 refine hK _ _ _ _ _ _ (?_ : K _ _ _ _ _ _)
    refine hK _ _ _ _ _ _ (r_lald' (v := x9.toInt64) rfl (N := 1) (f := oo2) rfl (vp_in_nI (by decide) (by decide)) (by rw [nI_clamp (by decide)]; exact hoo) (?_ : K _ _ _ _ _ _))
    iterate 3 refine hK _ _ _ _ _ _ (?_ : K _ _ _ _ _ _)
    refine hK _ _ _ _ _ _ (And.intro (fun _ => ?_) (fun c9 => absurd ((lg_cmp_eq _ _).mpr rfl) c9))
    iterate 3 refine hK _ _ _ _ _ _ (?_ : K _ _ _ _ _ _)
    show K 28 ((5, .int (nI (5 * j) + nI 5)) :: _) _ _ _ _
    rw [nI_add (5 * j) 5, show 5 * j + 5 = 5 * (j + 1) by omega]
    exact hW _ _ [(5, .int (nI (5 * (j + 1)))), (4, .ref 32), (3, .ref 31), (2, .ref 24), (1, .ref 1), (0, .ref 0)] _ _ _ _ (by simp) (ih _ _ _ _ _ _ _ _ _ _ _ _ _ _ _ _ _ _ _ _ _ _ hJ hA2 hR2 (by omega) (by omega))

set_option maxRecDepth 10000 in
/-- case 12: exchange -/
theorem lc_exchange {S : Nat × (Nat → Int32)} {d : Nat} {Q : eQ} {K : eK} (hK : ∀ (pc : Nat) (ls : eL) (st : List Value) (h : eH) (kc ks : Nat), eStep S MT (okCall S MT (d + 9)) ML_law (d + 9 + 1) Q K pc ls st h kc ks → K pc ls st h kc ks) (hW : ∀ (pc : Nat) (ls ls2 : eL) (st : List Value) (h : eH) (kc ks : Nat), (∀ q ∈ ls2, q ∈ ls) → K pc ls2 st h kc ks → K pc ls st h kc ks) {j : Nat} (h5 : 5 * j + 5 ≤ S.1) (hS : S.1 ≤ 2560) (ih : LN K (j + 1)) {b : Bool} {P : Nat → Nat → Bool} {R u v w : Nat → Bool} {kb : Nat → Nat} {f g e : Nat → Int32} {A mk ro nx pi : Nat → Int32} {kp : Nat → Int64} {km th : Int32} {oo : Nat → Int64} {od : Nat → UInt64} {kc ks : Nat} (hI : IvC P R) (hA : MI P A) (hR : RI R ro) (hkc : kc ≤ 42 + 7 * j) (hks : ks ≤ 1715 + 42 * j) : K 1180 [(5, .int (nI (5 * j))), (4, .ref 32), (3, .ref 31), (2, .ref 24), (1, .ref 1), (0, .ref 0)] [] (b, LW P R u v w kb f g e A mk ro nx pi kp km th oo od) kc ks := by
  iterate 5 refine hK _ _ _ _ _ _ (?_ : K _ _ _ _ _ _)
  refine hK _ _ _ _ _ _ (r_sld rfl (i := 5 * j + 1) (nI_add _ _) (by omega) (by omega) (?_ : K _ _ _ _ _ _))
  iterate 4 refine hK _ _ _ _ _ _ (?_ : K _ _ _ _ _ _)
  refine hK _ _ _ _ _ _ (r_sld rfl (i := 5 * j + 2) (nI_add _ _) (by omega) (by omega) (?_ : K _ _ _ _ _ _))
  iterate 4 refine hK _ _ _ _ _ _ (?_ : K _ _ _ _ _ _)
  refine hK _ _ _ _ _ _ (r_sld rfl (i := 5 * j + 3) (nI_add _ _) (by omega) (by omega) (?_ : K _ _ _ _ _ _))
  iterate 4 refine hK _ _ _ _ _ _ (?_ : K _ _ _ _ _ _)
  refine hK _ _ _ _ _ _ (r_sld rfl (i := 5 * j + 4) (nI_add _ _) (by omega) (by omega) (?_ : K _ _ _ _ _ _))
  iterate 1 refine hK _ _ _ _ _ _ (?_ : K _ _ _ _ _ _)
  rcases ho : o_exchange P R (S.2 (5 * j + 1)) (S.2 (5 * j + 2)) (S.2 (5 * j + 3)) (S.2 (5 * j + 4)) with E | ⟨r9, P2, R2⟩
  · skip
    refine hK _ _ _ _ _ _ (r_callN rfl (fun _ => rfl) ⟨rfl, by show kc + 4 ≤ 601024; omega, by show ks + 24 ≤ 7293034; omega⟩ (kL_exchange hI ho (fun u v w kb f g e => ?_)))
    show K 1209 _ [.int (nI (cmA E))] (false, LW P R u v w kb f g e A mk ro nx pi kp km th oo od) (kc + 4) (ks + 24)
    iterate 6 refine hK _ _ _ _ _ _ (?_ : K _ _ _ _ _ _)
    refine hK _ _ _ _ _ _ (r_sld rfl (i := 5 * j + 1) (nI_add _ _) (by omega) (by omega) (?_ : K _ _ _ _ _ _))
    iterate 4 refine hK _ _ _ _ _ _ (?_ : K _ _ _ _ _ _)
    refine hK _ _ _ _ _ _ (r_sld rfl (i := 5 * j + 2) (nI_add _ _) (by omega) (by omega) (?_ : K _ _ _ _ _ _))
    iterate 4 refine hK _ _ _ _ _ _ (?_ : K _ _ _ _ _ _)
    refine hK _ _ _ _ _ _ (r_sld rfl (i := 5 * j + 3) (nI_add _ _) (by omega) (by omega) (?_ : K _ _ _ _ _ _))
    iterate 4 refine hK _ _ _ _ _ _ (?_ : K _ _ _ _ _ _)
    refine hK _ _ _ _ _ _ (r_sld rfl (i := 5 * j + 4) (nI_add _ _) (by omega) (by omega) (?_ : K _ _ _ _ _ _))
    refine hK _ _ _ _ _ _ (r_callV rfl (fun _ => rfl) rfl ⟨rfl, by show kc + 4 + 0 ≤ 601024; omega, by show ks + 24 + 0 ≤ 7293034; omega⟩ (kX7_exchange (X := wX P R u v w kb f g e) hI hA hR (mqe ho (fun mk nx pi kp km => ?_))))
    show K 1239 _ [.int (nI 0)] (false, LW P R u v w kb f g e A mk ro nx pi kp km (nI (cmA E)) oo od) (kc + 4) (ks + 24)
    iterate 2 refine hK _ _ _ _ _ _ (?_ : K _ _ _ _ _ _)
    refine hK _ _ _ _ _ _ (r_callV rfl (fun _ => rfl) rfl ⟨rfl, by show kc + 4 + 0 ≤ 601024; omega, by show ks + 24 + 0 ≤ 7293034; omega⟩ (kX7_thrown (X := wX P R u v w kb f g e) ?_))
    show K 1245 _ [.int (nI (cmA E))] (false, LW P R u v w kb f g e A mk ro nx pi kp km (nI (cmA E)) oo od) (kc + 4) (ks + 24)
    iterate 1 refine hK _ _ _ _ _ _ (?_ : K _ _ _ _ _ _)
    refine hK _ _ _ _ _ _ (And.intro (fun _ => ?_) (fun c9 => absurd (rfl) c9))
    iterate 1 refine hK _ _ _ _ _ _ (?_ : K _ _ _ _ _ _)
    refine hK _ _ _ _ _ _ (And.intro (fun c9 => absurd c9 (cmA_n E)) (fun _ => ?_))
    iterate 3 refine hK _ _ _ _ _ _ (?_ : K _ _ _ _ _ _)
    show K 28 ((5, .int (nI (5 * j) + nI 5)) :: _) _ _ _ _
    rw [nI_add (5 * j) 5, show 5 * j + 5 = 5 * (j + 1) by omega]
    exact hW _ _ [(5, .int (nI (5 * (j + 1)))), (4, .ref 32), (3, .ref 31), (2, .ref 24), (1, .ref 1), (0, .ref 0)] _ _ _ _ (by simp) (ih _ _ _ _ _ _ _ _ _ _ _ _ _ _ _ _ _ _ _ _ _ _ hI hA hR (by omega) (by omega))
  · skip
    have hk := oK_exchange (P := P) (R := R) (x := S.2 (5 * j + 1)) (y := S.2 (5 * j + 2)) (z := S.2 (5 * j + 3)) (s := S.2 (5 * j + 4))
    rw [ho] at hk
    obtain ⟨x9, rfl⟩ := hk
    have hJ := oJ_exchange hI (x := S.2 (5 * j + 1)) (y := S.2 (5 * j + 2)) (z := S.2 (5 * j + 3)) (s := S.2 (5 * j + 4))
    rw [ho] at hJ
    have hJ : IvC P2 R2 := hJ
    refine hK _ _ _ _ _ _ (r_callN rfl (fun _ => rfl) ⟨rfl, by show kc + 4 ≤ 601024; omega, by show ks + 24 ≤ 7293034; omega⟩ (kL_exchange hI ho (fun u v w kb f g e oo2 hoo => ?_)))
    show K 1209 _ [.int (nI 0)] (b, LW P2 R2 u v w kb f g e A mk ro nx pi kp km th oo2 od) (kc + 4) (ks + 24)
    iterate 6 refine hK _ _ _ _ _ _ (?_ : K _ _ _ _ _ _)
    refine hK _ _ _ _ _ _ (r_sld rfl (i := 5 * j + 1) (nI_add _ _) (by omega) (by omega) (?_ : K _ _ _ _ _ _))
    iterate 4 refine hK _ _ _ _ _ _ (?_ : K _ _ _ _ _ _)
    refine hK _ _ _ _ _ _ (r_sld rfl (i := 5 * j + 2) (nI_add _ _) (by omega) (by omega) (?_ : K _ _ _ _ _ _))
    iterate 4 refine hK _ _ _ _ _ _ (?_ : K _ _ _ _ _ _)
    refine hK _ _ _ _ _ _ (r_sld rfl (i := 5 * j + 3) (nI_add _ _) (by omega) (by omega) (?_ : K _ _ _ _ _ _))
    iterate 4 refine hK _ _ _ _ _ _ (?_ : K _ _ _ _ _ _)
    refine hK _ _ _ _ _ _ (r_sld rfl (i := 5 * j + 4) (nI_add _ _) (by omega) (by omega) (?_ : K _ _ _ _ _ _))
    refine hK _ _ _ _ _ _ (r_callV rfl (fun _ => rfl) rfl ⟨rfl, by show kc + 4 + 0 ≤ 601024; omega, by show ks + 24 + 0 ≤ 7293034; omega⟩ (kX7_exchange (X := wX P2 R2 u v w kb f g e) hI hA hR (mqe ho (fun A2 mk ro2 nx pi kp km hA2 hR2 => ?_))))
    show K 1239 _ [.int x9] (b, LW P2 R2 u v w kb f g e A2 mk ro2 nx pi kp km (nI 0) oo2 od) (kc + 4) (ks + 24)
    iterate 2 refine hK _ _ _ _ _ _ (?_ : K _ _ _ _ _ _)
    refine hK _ _ _ _ _ _ (r_callV rfl (fun _ => rfl) rfl ⟨rfl, by show kc + 4 + 0 ≤ 601024; omega, by show ks + 24 + 0 ≤ 7293034; omega⟩ (kX7_thrown (X := wX P2 R2 u v w kb f g e) ?_))
    show K 1245 _ [.int (nI 0)] (b, LW P2 R2 u v w kb f g e A2 mk ro2 nx pi kp km (nI 0) oo2 od) (kc + 4) (ks + 24)
    iterate 1 refine hK _ _ _ _ _ _ (?_ : K _ _ _ _ _ _)
    refine hK _ _ _ _ _ _ (And.intro (fun _ => ?_) (fun c9 => absurd (rfl) c9))
    iterate 1 refine hK _ _ _ _ _ _ (?_ : K _ _ _ _ _ _)
    refine hK _ _ _ _ _ _ (And.intro (fun _ => ?_) (fun c9 => absurd (rfl) c9))
    iterate 2 refine hK _ _ _ _ _ _ (?_ : K _ _ _ _ _ _)
    refine hK _ _ _ _ _ _ (r_lald' (v := x9.toInt64) rfl (N := 1) (f := oo2) rfl (vp_in_nI (by decide) (by decide)) (by rw [nI_clamp (by decide)]; exact hoo) (?_ : K _ _ _ _ _ _))
    iterate 3 refine hK _ _ _ _ _ _ (?_ : K _ _ _ _ _ _)
    refine hK _ _ _ _ _ _ (And.intro (fun _ => ?_) (fun c9 => absurd ((lg_cmp_eq _ _).mpr rfl) c9))
    iterate 3 refine hK _ _ _ _ _ _ (?_ : K _ _ _ _ _ _)
    show K 28 ((5, .int (nI (5 * j) + nI 5)) :: _) _ _ _ _
    rw [nI_add (5 * j) 5, show 5 * j + 5 = 5 * (j + 1) by omega]
    exact hW _ _ [(5, .int (nI (5 * (j + 1)))), (4, .ref 32), (3, .ref 31), (2, .ref 24), (1, .ref 1), (0, .ref 0)] _ _ _ _ (by simp) (ih _ _ _ _ _ _ _ _ _ _ _ _ _ _ _ _ _ _ _ _ _ _ hJ hA2 hR2 (by omega) (by omega))

set_option maxRecDepth 10000 in
/-- case 13: fold -/
theorem lc_fold {S : Nat × (Nat → Int32)} {d : Nat} {Q : eQ} {K : eK} (hK : ∀ (pc : Nat) (ls : eL) (st : List Value) (h : eH) (kc ks : Nat), eStep S MT (okCall S MT (d + 9)) ML_law (d + 9 + 1) Q K pc ls st h kc ks → K pc ls st h kc ks) (hW : ∀ (pc : Nat) (ls ls2 : eL) (st : List Value) (h : eH) (kc ks : Nat), (∀ q ∈ ls2, q ∈ ls) → K pc ls2 st h kc ks → K pc ls st h kc ks) {j : Nat} (h5 : 5 * j + 5 ≤ S.1) (hS : S.1 ≤ 2560) (ih : LN K (j + 1)) {b : Bool} {P : Nat → Nat → Bool} {R u v w : Nat → Bool} {kb : Nat → Nat} {f g e : Nat → Int32} {A mk ro nx pi : Nat → Int32} {kp : Nat → Int64} {km th : Int32} {oo : Nat → Int64} {od : Nat → UInt64} {kc ks : Nat} (hI : IvC P R) (hA : MI P A) (hR : RI R ro) (hkc : kc ≤ 42 + 7 * j) (hks : ks ≤ 1715 + 42 * j) : K 1272 [(5, .int (nI (5 * j))), (4, .ref 32), (3, .ref 31), (2, .ref 24), (1, .ref 1), (0, .ref 0)] [] (b, LW P R u v w kb f g e A mk ro nx pi kp km th oo od) kc ks := by
  iterate 5 refine hK _ _ _ _ _ _ (?_ : K _ _ _ _ _ _)
  refine hK _ _ _ _ _ _ (r_sld rfl (i := 5 * j + 1) (nI_add _ _) (by omega) (by omega) (?_ : K _ _ _ _ _ _))
  iterate 4 refine hK _ _ _ _ _ _ (?_ : K _ _ _ _ _ _)
  refine hK _ _ _ _ _ _ (r_sld rfl (i := 5 * j + 2) (nI_add _ _) (by omega) (by omega) (?_ : K _ _ _ _ _ _))
  iterate 1 refine hK _ _ _ _ _ _ (?_ : K _ _ _ _ _ _)
  rcases ho : o_fold P R (S.2 (5 * j + 1)) (S.2 (5 * j + 2)) with E | ⟨r9, P2, R2⟩
  · skip
    refine hK _ _ _ _ _ _ (r_callN rfl (fun _ => rfl) ⟨rfl, by show kc + 4 ≤ 601024; omega, by show ks + 24 ≤ 7293034; omega⟩ (kL_fold hI ho (fun u v w kb f g e => ?_)))
    show K 1289 _ [.int (nI (cmF E))] (false, LW P R u v w kb f g e A mk ro nx pi kp km th oo od) (kc + 4) (ks + 24)
    iterate 6 refine hK _ _ _ _ _ _ (?_ : K _ _ _ _ _ _)
    refine hK _ _ _ _ _ _ (r_sld rfl (i := 5 * j + 1) (nI_add _ _) (by omega) (by omega) (?_ : K _ _ _ _ _ _))
    iterate 4 refine hK _ _ _ _ _ _ (?_ : K _ _ _ _ _ _)
    refine hK _ _ _ _ _ _ (r_sld rfl (i := 5 * j + 2) (nI_add _ _) (by omega) (by omega) (?_ : K _ _ _ _ _ _))
    refine hK _ _ _ _ _ _ (r_callV rfl (fun _ => rfl) rfl ⟨rfl, by show kc + 4 + 0 ≤ 601024; omega, by show ks + 24 + 0 ≤ 7293034; omega⟩ (kX7_fold (X := wX P R u v w kb f g e) hI hA hR (mqe ho (fun mk nx pi kp km => ?_))))
    show K 1307 _ [.int (nI 0)] (false, LW P R u v w kb f g e A mk ro nx pi kp km (nI (cmF E)) oo od) (kc + 4) (ks + 24)
    iterate 2 refine hK _ _ _ _ _ _ (?_ : K _ _ _ _ _ _)
    refine hK _ _ _ _ _ _ (r_callV rfl (fun _ => rfl) rfl ⟨rfl, by show kc + 4 + 0 ≤ 601024; omega, by show ks + 24 + 0 ≤ 7293034; omega⟩ (kX7_thrown (X := wX P R u v w kb f g e) ?_))
    show K 1313 _ [.int (nI (cmF E))] (false, LW P R u v w kb f g e A mk ro nx pi kp km (nI (cmF E)) oo od) (kc + 4) (ks + 24)
    iterate 1 refine hK _ _ _ _ _ _ (?_ : K _ _ _ _ _ _)
    refine hK _ _ _ _ _ _ (And.intro (fun _ => ?_) (fun c9 => absurd (rfl) c9))
    iterate 1 refine hK _ _ _ _ _ _ (?_ : K _ _ _ _ _ _)
    refine hK _ _ _ _ _ _ (And.intro (fun c9 => absurd c9 (cmF_n E)) (fun _ => ?_))
    iterate 3 refine hK _ _ _ _ _ _ (?_ : K _ _ _ _ _ _)
    show K 28 ((5, .int (nI (5 * j) + nI 5)) :: _) _ _ _ _
    rw [nI_add (5 * j) 5, show 5 * j + 5 = 5 * (j + 1) by omega]
    exact hW _ _ [(5, .int (nI (5 * (j + 1)))), (4, .ref 32), (3, .ref 31), (2, .ref 24), (1, .ref 1), (0, .ref 0)] _ _ _ _ (by simp) (ih _ _ _ _ _ _ _ _ _ _ _ _ _ _ _ _ _ _ _ _ _ _ hI hA hR (by omega) (by omega))
  · skip
    have hk := oK_fold (P := P) (R := R) (x := S.2 (5 * j + 1)) (y := S.2 (5 * j + 2))
    rw [ho] at hk
    obtain ⟨x9, rfl⟩ := hk
    have hJ := oJ_fold hI (x := S.2 (5 * j + 1)) (y := S.2 (5 * j + 2))
    rw [ho] at hJ
    have hJ : IvC P2 R2 := hJ
    refine hK _ _ _ _ _ _ (r_callN rfl (fun _ => rfl) ⟨rfl, by show kc + 4 ≤ 601024; omega, by show ks + 24 ≤ 7293034; omega⟩ (kL_fold hI ho (fun u v w kb f g e oo2 hoo => ?_)))
    show K 1289 _ [.int (nI 0)] (b, LW P2 R2 u v w kb f g e A mk ro nx pi kp km th oo2 od) (kc + 4) (ks + 24)
    iterate 6 refine hK _ _ _ _ _ _ (?_ : K _ _ _ _ _ _)
    refine hK _ _ _ _ _ _ (r_sld rfl (i := 5 * j + 1) (nI_add _ _) (by omega) (by omega) (?_ : K _ _ _ _ _ _))
    iterate 4 refine hK _ _ _ _ _ _ (?_ : K _ _ _ _ _ _)
    refine hK _ _ _ _ _ _ (r_sld rfl (i := 5 * j + 2) (nI_add _ _) (by omega) (by omega) (?_ : K _ _ _ _ _ _))
    refine hK _ _ _ _ _ _ (r_callV rfl (fun _ => rfl) rfl ⟨rfl, by show kc + 4 + 0 ≤ 601024; omega, by show ks + 24 + 0 ≤ 7293034; omega⟩ (kX7_fold (X := wX P2 R2 u v w kb f g e) hI hA hR (mqe ho (fun A2 mk ro2 nx pi kp km hA2 hR2 => ?_))))
    show K 1307 _ [.int x9] (b, LW P2 R2 u v w kb f g e A2 mk ro2 nx pi kp km (nI 0) oo2 od) (kc + 4) (ks + 24)
    iterate 2 refine hK _ _ _ _ _ _ (?_ : K _ _ _ _ _ _)
    refine hK _ _ _ _ _ _ (r_callV rfl (fun _ => rfl) rfl ⟨rfl, by show kc + 4 + 0 ≤ 601024; omega, by show ks + 24 + 0 ≤ 7293034; omega⟩ (kX7_thrown (X := wX P2 R2 u v w kb f g e) ?_))
    show K 1313 _ [.int (nI 0)] (b, LW P2 R2 u v w kb f g e A2 mk ro2 nx pi kp km (nI 0) oo2 od) (kc + 4) (ks + 24)
    iterate 1 refine hK _ _ _ _ _ _ (?_ : K _ _ _ _ _ _)
    refine hK _ _ _ _ _ _ (And.intro (fun _ => ?_) (fun c9 => absurd (rfl) c9))
    iterate 1 refine hK _ _ _ _ _ _ (?_ : K _ _ _ _ _ _)
    refine hK _ _ _ _ _ _ (And.intro (fun _ => ?_) (fun c9 => absurd (rfl) c9))
    iterate 2 refine hK _ _ _ _ _ _ (?_ : K _ _ _ _ _ _)
    refine hK _ _ _ _ _ _ (r_lald' (v := x9.toInt64) rfl (N := 1) (f := oo2) rfl (vp_in_nI (by decide) (by decide)) (by rw [nI_clamp (by decide)]; exact hoo) (?_ : K _ _ _ _ _ _))
    iterate 3 refine hK _ _ _ _ _ _ (?_ : K _ _ _ _ _ _)
    refine hK _ _ _ _ _ _ (And.intro (fun _ => ?_) (fun c9 => absurd ((lg_cmp_eq _ _).mpr rfl) c9))
    iterate 3 refine hK _ _ _ _ _ _ (?_ : K _ _ _ _ _ _)
    show K 28 ((5, .int (nI (5 * j) + nI 5)) :: _) _ _ _ _
    rw [nI_add (5 * j) 5, show 5 * j + 5 = 5 * (j + 1) by omega]
    exact hW _ _ [(5, .int (nI (5 * (j + 1)))), (4, .ref 32), (3, .ref 31), (2, .ref 24), (1, .ref 1), (0, .ref 0)] _ _ _ _ (by simp) (ih _ _ _ _ _ _ _ _ _ _ _ _ _ _ _ _ _ _ _ _ _ _ hJ hA2 hR2 (by omega) (by omega))

set_option maxRecDepth 10000 in
/-- case 14: has -/
theorem lc_has {S : Nat × (Nat → Int32)} {d : Nat} {Q : eQ} {K : eK} (hK : ∀ (pc : Nat) (ls : eL) (st : List Value) (h : eH) (kc ks : Nat), eStep S MT (okCall S MT (d + 9)) ML_law (d + 9 + 1) Q K pc ls st h kc ks → K pc ls st h kc ks) (hW : ∀ (pc : Nat) (ls ls2 : eL) (st : List Value) (h : eH) (kc ks : Nat), (∀ q ∈ ls2, q ∈ ls) → K pc ls2 st h kc ks → K pc ls st h kc ks) {j : Nat} (h5 : 5 * j + 5 ≤ S.1) (hS : S.1 ≤ 2560) (ih : LN K (j + 1)) {b : Bool} {P : Nat → Nat → Bool} {R u v w : Nat → Bool} {kb : Nat → Nat} {f g e : Nat → Int32} {A mk ro nx pi : Nat → Int32} {kp : Nat → Int64} {km th : Int32} {oo : Nat → Int64} {od : Nat → UInt64} {kc ks : Nat} (hI : IvC P R) (hA : MI P A) (hR : RI R ro) (hkc : kc ≤ 42 + 7 * j) (hks : ks ≤ 1715 + 42 * j) : K 1340 [(5, .int (nI (5 * j))), (4, .ref 32), (3, .ref 31), (2, .ref 24), (1, .ref 1), (0, .ref 0)] [] (b, LW P R u v w kb f g e A mk ro nx pi kp km th oo od) kc ks := by
  iterate 5 refine hK _ _ _ _ _ _ (?_ : K _ _ _ _ _ _)
  refine hK _ _ _ _ _ _ (r_sld rfl (i := 5 * j + 1) (nI_add _ _) (by omega) (by omega) (?_ : K _ _ _ _ _ _))
  iterate 4 refine hK _ _ _ _ _ _ (?_ : K _ _ _ _ _ _)
  refine hK _ _ _ _ _ _ (r_sld rfl (i := 5 * j + 2) (nI_add _ _) (by omega) (by omega) (?_ : K _ _ _ _ _ _))
  iterate 1 refine hK _ _ _ _ _ _ (?_ : K _ _ _ _ _ _)
  rcases ho : o_has P R (S.2 (5 * j + 1)) (S.2 (5 * j + 2)) with E | ⟨r9, P2, R2⟩
  · skip
    refine hK _ _ _ _ _ _ (r_callN rfl (fun _ => rfl) ⟨rfl, by show kc + 2 ≤ 601024; omega, by show ks + 12 ≤ 7293034; omega⟩ (kL_has hI ho (fun u v w kb f g e => ?_)))
    show K 1357 _ [.int (nI (cmA E))] (false, LW P R u v w kb f g e A mk ro nx pi kp km th oo od) (kc + 2) (ks + 12)
    iterate 6 refine hK _ _ _ _ _ _ (?_ : K _ _ _ _ _ _)
    refine hK _ _ _ _ _ _ (r_sld rfl (i := 5 * j + 1) (nI_add _ _) (by omega) (by omega) (?_ : K _ _ _ _ _ _))
    iterate 4 refine hK _ _ _ _ _ _ (?_ : K _ _ _ _ _ _)
    refine hK _ _ _ _ _ _ (r_sld rfl (i := 5 * j + 2) (nI_add _ _) (by omega) (by omega) (?_ : K _ _ _ _ _ _))
    refine hK _ _ _ _ _ _ (r_callV rfl (fun _ => rfl) rfl ⟨rfl, by show kc + 2 + 0 ≤ 601024; omega, by show ks + 12 + 0 ≤ 7293034; omega⟩ (kX7_has (X := wX P R u v w kb f g e) hI hA hR (mqe ho (fun mk nx pi kp km => ?_))))
    show K 1375 _ [.int (nI 0)] (false, LW P R u v w kb f g e A mk ro nx pi kp km (nI (cmA E)) oo od) (kc + 2) (ks + 12)
    iterate 2 refine hK _ _ _ _ _ _ (?_ : K _ _ _ _ _ _)
    refine hK _ _ _ _ _ _ (r_callV rfl (fun _ => rfl) rfl ⟨rfl, by show kc + 2 + 0 ≤ 601024; omega, by show ks + 12 + 0 ≤ 7293034; omega⟩ (kX7_thrown (X := wX P R u v w kb f g e) ?_))
    show K 1381 _ [.int (nI (cmA E))] (false, LW P R u v w kb f g e A mk ro nx pi kp km (nI (cmA E)) oo od) (kc + 2) (ks + 12)
    iterate 1 refine hK _ _ _ _ _ _ (?_ : K _ _ _ _ _ _)
    refine hK _ _ _ _ _ _ (And.intro (fun _ => ?_) (fun c9 => absurd (rfl) c9))
    iterate 1 refine hK _ _ _ _ _ _ (?_ : K _ _ _ _ _ _)
    refine hK _ _ _ _ _ _ (And.intro (fun c9 => absurd c9 (cmA_n E)) (fun _ => ?_))
    iterate 3 refine hK _ _ _ _ _ _ (?_ : K _ _ _ _ _ _)
    show K 28 ((5, .int (nI (5 * j) + nI 5)) :: _) _ _ _ _
    rw [nI_add (5 * j) 5, show 5 * j + 5 = 5 * (j + 1) by omega]
    exact hW _ _ [(5, .int (nI (5 * (j + 1)))), (4, .ref 32), (3, .ref 31), (2, .ref 24), (1, .ref 1), (0, .ref 0)] _ _ _ _ (by simp) (ih _ _ _ _ _ _ _ _ _ _ _ _ _ _ _ _ _ _ _ _ _ _ hI hA hR (by omega) (by omega))
  · skip
    have hk := oK_has (P := P) (R := R) (x := S.2 (5 * j + 1)) (y := S.2 (5 * j + 2))
    rw [ho] at hk
    obtain ⟨z9, rfl⟩ := hk
    have hJ := oJ_has hI (x := S.2 (5 * j + 1)) (y := S.2 (5 * j + 2))
    rw [ho] at hJ
    have hJ : IvC P2 R2 := hJ
    refine hK _ _ _ _ _ _ (r_callN rfl (fun _ => rfl) ⟨rfl, by show kc + 2 ≤ 601024; omega, by show ks + 12 ≤ 7293034; omega⟩ (kL_has hI ho (fun u v w kb f g e oo2 hoo => ?_)))
    show K 1357 _ [.int (nI 0)] (b, LW P2 R2 u v w kb f g e A mk ro nx pi kp km th oo2 od) (kc + 2) (ks + 12)
    iterate 6 refine hK _ _ _ _ _ _ (?_ : K _ _ _ _ _ _)
    refine hK _ _ _ _ _ _ (r_sld rfl (i := 5 * j + 1) (nI_add _ _) (by omega) (by omega) (?_ : K _ _ _ _ _ _))
    iterate 4 refine hK _ _ _ _ _ _ (?_ : K _ _ _ _ _ _)
    refine hK _ _ _ _ _ _ (r_sld rfl (i := 5 * j + 2) (nI_add _ _) (by omega) (by omega) (?_ : K _ _ _ _ _ _))
    refine hK _ _ _ _ _ _ (r_callV rfl (fun _ => rfl) rfl ⟨rfl, by show kc + 2 + 0 ≤ 601024; omega, by show ks + 12 + 0 ≤ 7293034; omega⟩ (kX7_has (X := wX P2 R2 u v w kb f g e) hI hA hR (mqe ho (fun A2 mk ro2 nx pi kp km hA2 hR2 => ?_))))
    show K 1375 _ [.int (b2i z9)] (b, LW P2 R2 u v w kb f g e A2 mk ro2 nx pi kp km (nI 0) oo2 od) (kc + 2) (ks + 12)
    iterate 2 refine hK _ _ _ _ _ _ (?_ : K _ _ _ _ _ _)
    refine hK _ _ _ _ _ _ (r_callV rfl (fun _ => rfl) rfl ⟨rfl, by show kc + 2 + 0 ≤ 601024; omega, by show ks + 12 + 0 ≤ 7293034; omega⟩ (kX7_thrown (X := wX P2 R2 u v w kb f g e) ?_))
    show K 1381 _ [.int (nI 0)] (b, LW P2 R2 u v w kb f g e A2 mk ro2 nx pi kp km (nI 0) oo2 od) (kc + 2) (ks + 12)
    iterate 1 refine hK _ _ _ _ _ _ (?_ : K _ _ _ _ _ _)
    refine hK _ _ _ _ _ _ (And.intro (fun _ => ?_) (fun c9 => absurd (rfl) c9))
    iterate 1 refine hK _ _ _ _ _ _ (?_ : K _ _ _ _ _ _)
    refine hK _ _ _ _ _ _ (And.intro (fun _ => ?_) (fun c9 => absurd (rfl) c9))
    iterate 2 refine hK _ _ _ _ _ _ (?_ : K _ _ _ _ _ _)
    refine hK _ _ _ _ _ _ (r_lald' (v := (b2i z9).toInt64) rfl (N := 1) (f := oo2) rfl (vp_in_nI (by decide) (by decide)) (by rw [nI_clamp (by decide)]; exact hoo) (?_ : K _ _ _ _ _ _))
    iterate 1 refine hK _ _ _ _ _ _ (?_ : K _ _ _ _ _ _)
    refine hK _ _ _ _ _ _ (And.intro (fun c1 => ?_) (fun c1 => ?_))
    · skip
      iterate 2 refine hK _ _ _ _ _ _ (?_ : K _ _ _ _ _ _)
      refine hK _ _ _ _ _ _ (And.intro (fun _ => ?_) (fun c9 => absurd ((lg_cmp_eq _ _).mpr (by rw [b2L, b2i_0.mp c1]; rfl)) c9))
      iterate 3 refine hK _ _ _ _ _ _ (?_ : K _ _ _ _ _ _)
      show K 28 ((5, .int (nI (5 * j) + nI 5)) :: _) _ _ _ _
      rw [nI_add (5 * j) 5, show 5 * j + 5 = 5 * (j + 1) by omega]
      exact hW _ _ [(5, .int (nI (5 * (j + 1)))), (4, .ref 32), (3, .ref 31), (2, .ref 24), (1, .ref 1), (0, .ref 0)] _ _ _ _ (by simp) (ih _ _ _ _ _ _ _ _ _ _ _ _ _ _ _ _ _ _ _ _ _ _ hJ hA2 hR2 (by omega) (by omega))
    · skip
      iterate 3 refine hK _ _ _ _ _ _ (?_ : K _ _ _ _ _ _)
      refine hK _ _ _ _ _ _ (And.intro (fun _ => ?_) (fun c9 => absurd ((lg_cmp_eq _ _).mpr (by rw [b2L, show z9 = true from Bool.of_not_eq_false fun c8 => c1 (b2i_0.mpr c8)]; rfl)) c9))
      iterate 3 refine hK _ _ _ _ _ _ (?_ : K _ _ _ _ _ _)
      show K 28 ((5, .int (nI (5 * j) + nI 5)) :: _) _ _ _ _
      rw [nI_add (5 * j) 5, show 5 * j + 5 = 5 * (j + 1) by omega]
      exact hW _ _ [(5, .int (nI (5 * (j + 1)))), (4, .ref 32), (3, .ref 31), (2, .ref 24), (1, .ref 1), (0, .ref 0)] _ _ _ _ (by simp) (ih _ _ _ _ _ _ _ _ _ _ _ _ _ _ _ _ _ _ _ _ _ _ hJ hA2 hR2 (by omega) (by omega))

set_option maxRecDepth 10000 in
/-- case 15: size -/
theorem lc_size {S : Nat × (Nat → Int32)} {d : Nat} {Q : eQ} {K : eK} (hK : ∀ (pc : Nat) (ls : eL) (st : List Value) (h : eH) (kc ks : Nat), eStep S MT (okCall S MT (d + 9)) ML_law (d + 9 + 1) Q K pc ls st h kc ks → K pc ls st h kc ks) (hW : ∀ (pc : Nat) (ls ls2 : eL) (st : List Value) (h : eH) (kc ks : Nat), (∀ q ∈ ls2, q ∈ ls) → K pc ls2 st h kc ks → K pc ls st h kc ks) {j : Nat} (h5 : 5 * j + 5 ≤ S.1) (hS : S.1 ≤ 2560) (ih : LN K (j + 1)) {b : Bool} {P : Nat → Nat → Bool} {R u v w : Nat → Bool} {kb : Nat → Nat} {f g e : Nat → Int32} {A mk ro nx pi : Nat → Int32} {kp : Nat → Int64} {km th : Int32} {oo : Nat → Int64} {od : Nat → UInt64} {kc ks : Nat} (hI : IvC P R) (hA : MI P A) (hR : RI R ro) (hkc : kc ≤ 42 + 7 * j) (hks : ks ≤ 1715 + 42 * j) : K 1415 [(5, .int (nI (5 * j))), (4, .ref 32), (3, .ref 31), (2, .ref 24), (1, .ref 1), (0, .ref 0)] [] (b, LW P R u v w kb f g e A mk ro nx pi kp km th oo od) kc ks := by
  iterate 5 refine hK _ _ _ _ _ _ (?_ : K _ _ _ _ _ _)
  refine hK _ _ _ _ _ _ (r_sld rfl (i := 5 * j + 1) (nI_add _ _) (by omega) (by omega) (?_ : K _ _ _ _ _ _))
  iterate 1 refine hK _ _ _ _ _ _ (?_ : K _ _ _ _ _ _)
  rcases ho : o_size P R (S.2 (5 * j + 1)) with E | ⟨r9, P2, R2⟩
  · skip
    refine hK _ _ _ _ _ _ (r_callN rfl (fun _ => rfl) ⟨rfl, by show kc + 1 ≤ 601024; omega, by show ks + 6 ≤ 7293034; omega⟩ (kL_size hI ho (fun u v w kb f g e => ?_)))
    show K 1426 _ [.int (nI (cmA E))] (false, LW P R u v w kb f g e A mk ro nx pi kp km th oo od) (kc + 1) (ks + 6)
    iterate 6 refine hK _ _ _ _ _ _ (?_ : K _ _ _ _ _ _)
    refine hK _ _ _ _ _ _ (r_sld rfl (i := 5 * j + 1) (nI_add _ _) (by omega) (by omega) (?_ : K _ _ _ _ _ _))
    refine hK _ _ _ _ _ _ (r_callV rfl (fun _ => rfl) rfl ⟨rfl, by show kc + 1 + 0 ≤ 601024; omega, by show ks + 6 + 0 ≤ 7293034; omega⟩ (kX7_size (X := wX P R u v w kb f g e) hI hA hR (mqe ho (fun mk nx pi kp km => ?_))))
    show K 1438 _ [.int (nI 0)] (false, LW P R u v w kb f g e A mk ro nx pi kp km (nI (cmA E)) oo od) (kc + 1) (ks + 6)
    iterate 2 refine hK _ _ _ _ _ _ (?_ : K _ _ _ _ _ _)
    refine hK _ _ _ _ _ _ (r_callV rfl (fun _ => rfl) rfl ⟨rfl, by show kc + 1 + 0 ≤ 601024; omega, by show ks + 6 + 0 ≤ 7293034; omega⟩ (kX7_thrown (X := wX P R u v w kb f g e) ?_))
    show K 1444 _ [.int (nI (cmA E))] (false, LW P R u v w kb f g e A mk ro nx pi kp km (nI (cmA E)) oo od) (kc + 1) (ks + 6)
    iterate 1 refine hK _ _ _ _ _ _ (?_ : K _ _ _ _ _ _)
    refine hK _ _ _ _ _ _ (And.intro (fun _ => ?_) (fun c9 => absurd (rfl) c9))
    iterate 1 refine hK _ _ _ _ _ _ (?_ : K _ _ _ _ _ _)
    refine hK _ _ _ _ _ _ (And.intro (fun c9 => absurd c9 (cmA_n E)) (fun _ => ?_))
    iterate 3 refine hK _ _ _ _ _ _ (?_ : K _ _ _ _ _ _)
    show K 28 ((5, .int (nI (5 * j) + nI 5)) :: _) _ _ _ _
    rw [nI_add (5 * j) 5, show 5 * j + 5 = 5 * (j + 1) by omega]
    exact hW _ _ [(5, .int (nI (5 * (j + 1)))), (4, .ref 32), (3, .ref 31), (2, .ref 24), (1, .ref 1), (0, .ref 0)] _ _ _ _ (by simp) (ih _ _ _ _ _ _ _ _ _ _ _ _ _ _ _ _ _ _ _ _ _ _ hI hA hR (by omega) (by omega))
  · skip
    have hk := oK_size (P := P) (R := R) (x := S.2 (5 * j + 1))
    rw [ho] at hk
    obtain ⟨x9, rfl⟩ := hk
    have hJ := oJ_size hI (x := S.2 (5 * j + 1))
    rw [ho] at hJ
    have hJ : IvC P2 R2 := hJ
    refine hK _ _ _ _ _ _ (r_callN rfl (fun _ => rfl) ⟨rfl, by show kc + 1 ≤ 601024; omega, by show ks + 6 ≤ 7293034; omega⟩ (kL_size hI ho (fun u v w kb f g e oo2 hoo => ?_)))
    show K 1426 _ [.int (nI 0)] (b, LW P2 R2 u v w kb f g e A mk ro nx pi kp km th oo2 od) (kc + 1) (ks + 6)
    iterate 6 refine hK _ _ _ _ _ _ (?_ : K _ _ _ _ _ _)
    refine hK _ _ _ _ _ _ (r_sld rfl (i := 5 * j + 1) (nI_add _ _) (by omega) (by omega) (?_ : K _ _ _ _ _ _))
    refine hK _ _ _ _ _ _ (r_callV rfl (fun _ => rfl) rfl ⟨rfl, by show kc + 1 + 0 ≤ 601024; omega, by show ks + 6 + 0 ≤ 7293034; omega⟩ (kX7_size (X := wX P2 R2 u v w kb f g e) hI hA hR (mqe ho (fun A2 mk ro2 nx pi kp km hA2 hR2 => ?_))))
    show K 1438 _ [.int x9] (b, LW P2 R2 u v w kb f g e A2 mk ro2 nx pi kp km (nI 0) oo2 od) (kc + 1) (ks + 6)
    iterate 2 refine hK _ _ _ _ _ _ (?_ : K _ _ _ _ _ _)
    refine hK _ _ _ _ _ _ (r_callV rfl (fun _ => rfl) rfl ⟨rfl, by show kc + 1 + 0 ≤ 601024; omega, by show ks + 6 + 0 ≤ 7293034; omega⟩ (kX7_thrown (X := wX P2 R2 u v w kb f g e) ?_))
    show K 1444 _ [.int (nI 0)] (b, LW P2 R2 u v w kb f g e A2 mk ro2 nx pi kp km (nI 0) oo2 od) (kc + 1) (ks + 6)
    iterate 1 refine hK _ _ _ _ _ _ (?_ : K _ _ _ _ _ _)
    refine hK _ _ _ _ _ _ (And.intro (fun _ => ?_) (fun c9 => absurd (rfl) c9))
    iterate 1 refine hK _ _ _ _ _ _ (?_ : K _ _ _ _ _ _)
    refine hK _ _ _ _ _ _ (And.intro (fun _ => ?_) (fun c9 => absurd (rfl) c9))
    iterate 2 refine hK _ _ _ _ _ _ (?_ : K _ _ _ _ _ _)
    refine hK _ _ _ _ _ _ (r_lald' (v := x9.toInt64) rfl (N := 1) (f := oo2) rfl (vp_in_nI (by decide) (by decide)) (by rw [nI_clamp (by decide)]; exact hoo) (?_ : K _ _ _ _ _ _))
    iterate 3 refine hK _ _ _ _ _ _ (?_ : K _ _ _ _ _ _)
    refine hK _ _ _ _ _ _ (And.intro (fun _ => ?_) (fun c9 => absurd ((lg_cmp_eq _ _).mpr rfl) c9))
    iterate 3 refine hK _ _ _ _ _ _ (?_ : K _ _ _ _ _ _)
    show K 28 ((5, .int (nI (5 * j) + nI 5)) :: _) _ _ _ _
    rw [nI_add (5 * j) 5, show 5 * j + 5 = 5 * (j + 1) by omega]
    exact hW _ _ [(5, .int (nI (5 * (j + 1)))), (4, .ref 32), (3, .ref 31), (2, .ref 24), (1, .ref 1), (0, .ref 0)] _ _ _ _ (by simp) (ih _ _ _ _ _ _ _ _ _ _ _ _ _ _ _ _ _ _ _ _ _ _ hJ hA2 hR2 (by omega) (by omega))

set_option maxRecDepth 10000 in
/-- case 16: faces -/
theorem lc_faces {S : Nat × (Nat → Int32)} {d : Nat} {Q : eQ} {K : eK} (hK : ∀ (pc : Nat) (ls : eL) (st : List Value) (h : eH) (kc ks : Nat), eStep S MT (okCall S MT (d + 9)) ML_law (d + 9 + 1) Q K pc ls st h kc ks → K pc ls st h kc ks) (hW : ∀ (pc : Nat) (ls ls2 : eL) (st : List Value) (h : eH) (kc ks : Nat), (∀ q ∈ ls2, q ∈ ls) → K pc ls2 st h kc ks → K pc ls st h kc ks) {j : Nat} (h5 : 5 * j + 5 ≤ S.1) (hS : S.1 ≤ 2560) (ih : LN K (j + 1)) {b : Bool} {P : Nat → Nat → Bool} {R u v w : Nat → Bool} {kb : Nat → Nat} {f g e : Nat → Int32} {A mk ro nx pi : Nat → Int32} {kp : Nat → Int64} {km th : Int32} {oo : Nat → Int64} {od : Nat → UInt64} {kc ks : Nat} (hI : IvC P R) (hA : MI P A) (hR : RI R ro) (hkc : kc ≤ 42 + 7 * j) (hks : ks ≤ 1715 + 42 * j) : K 1471 [(5, .int (nI (5 * j))), (4, .ref 32), (3, .ref 31), (2, .ref 24), (1, .ref 1), (0, .ref 0)] [] (b, LW P R u v w kb f g e A mk ro nx pi kp km th oo od) kc ks := by
  iterate 5 refine hK _ _ _ _ _ _ (?_ : K _ _ _ _ _ _)
  refine hK _ _ _ _ _ _ (r_sld rfl (i := 5 * j + 1) (nI_add _ _) (by omega) (by omega) (?_ : K _ _ _ _ _ _))
  iterate 4 refine hK _ _ _ _ _ _ (?_ : K _ _ _ _ _ _)
  refine hK _ _ _ _ _ _ (r_sld rfl (i := 5 * j + 2) (nI_add _ _) (by omega) (by omega) (?_ : K _ _ _ _ _ _))
  iterate 1 refine hK _ _ _ _ _ _ (?_ : K _ _ _ _ _ _)
  rcases ho : o_faces P R (S.2 (5 * j + 1)) (S.2 (5 * j + 2)) with E | ⟨r9, P2, R2⟩
  · skip
    refine hK _ _ _ _ _ _ (r_callN rfl (fun _ => rfl) ⟨rfl, by show kc + 2 ≤ 601024; omega, by show ks + 12 ≤ 7293034; omega⟩ (kL_faces hI ho (fun u v w kb f g e => ?_)))
    show K 1488 _ [.int (nI (cmA E))] (false, LW P R u v w kb f g e A mk ro nx pi kp km th oo od) (kc + 2) (ks + 12)
    iterate 6 refine hK _ _ _ _ _ _ (?_ : K _ _ _ _ _ _)
    refine hK _ _ _ _ _ _ (r_sld rfl (i := 5 * j + 1) (nI_add _ _) (by omega) (by omega) (?_ : K _ _ _ _ _ _))
    iterate 4 refine hK _ _ _ _ _ _ (?_ : K _ _ _ _ _ _)
    refine hK _ _ _ _ _ _ (r_sld rfl (i := 5 * j + 2) (nI_add _ _) (by omega) (by omega) (?_ : K _ _ _ _ _ _))
    refine hK _ _ _ _ _ _ (r_callV rfl (fun _ => rfl) rfl ⟨rfl, by show kc + 2 + 0 ≤ 601024; omega, by show ks + 12 + 0 ≤ 7293034; omega⟩ (kX7_faces (X := wX P R u v w kb f g e) hI hA hR (mqe ho (fun mk nx pi kp km => ?_))))
    show K 1506 _ [.int (nI 0)] (false, LW P R u v w kb f g e A mk ro nx pi kp km (nI (cmA E)) oo od) (kc + 2) (ks + 12)
    iterate 2 refine hK _ _ _ _ _ _ (?_ : K _ _ _ _ _ _)
    refine hK _ _ _ _ _ _ (r_callV rfl (fun _ => rfl) rfl ⟨rfl, by show kc + 2 + 0 ≤ 601024; omega, by show ks + 12 + 0 ≤ 7293034; omega⟩ (kX7_thrown (X := wX P R u v w kb f g e) ?_))
    show K 1512 _ [.int (nI (cmA E))] (false, LW P R u v w kb f g e A mk ro nx pi kp km (nI (cmA E)) oo od) (kc + 2) (ks + 12)
    iterate 1 refine hK _ _ _ _ _ _ (?_ : K _ _ _ _ _ _)
    refine hK _ _ _ _ _ _ (And.intro (fun _ => ?_) (fun c9 => absurd (rfl) c9))
    iterate 1 refine hK _ _ _ _ _ _ (?_ : K _ _ _ _ _ _)
    refine hK _ _ _ _ _ _ (And.intro (fun c9 => absurd c9 (cmA_n E)) (fun _ => ?_))
    iterate 3 refine hK _ _ _ _ _ _ (?_ : K _ _ _ _ _ _)
    show K 28 ((5, .int (nI (5 * j) + nI 5)) :: _) _ _ _ _
    rw [nI_add (5 * j) 5, show 5 * j + 5 = 5 * (j + 1) by omega]
    exact hW _ _ [(5, .int (nI (5 * (j + 1)))), (4, .ref 32), (3, .ref 31), (2, .ref 24), (1, .ref 1), (0, .ref 0)] _ _ _ _ (by simp) (ih _ _ _ _ _ _ _ _ _ _ _ _ _ _ _ _ _ _ _ _ _ _ hI hA hR (by omega) (by omega))
  · skip
    have hk := oK_faces (P := P) (R := R) (x := S.2 (5 * j + 1)) (y := S.2 (5 * j + 2))
    rw [ho] at hk
    obtain ⟨x9, rfl⟩ := hk
    have hJ := oJ_faces hI (x := S.2 (5 * j + 1)) (y := S.2 (5 * j + 2))
    rw [ho] at hJ
    have hJ : IvC P2 R2 := hJ
    refine hK _ _ _ _ _ _ (r_callN rfl (fun _ => rfl) ⟨rfl, by show kc + 2 ≤ 601024; omega, by show ks + 12 ≤ 7293034; omega⟩ (kL_faces hI ho (fun u v w kb f g e oo2 hoo => ?_)))
    show K 1488 _ [.int (nI 0)] (b, LW P2 R2 u v w kb f g e A mk ro nx pi kp km th oo2 od) (kc + 2) (ks + 12)
    iterate 6 refine hK _ _ _ _ _ _ (?_ : K _ _ _ _ _ _)
    refine hK _ _ _ _ _ _ (r_sld rfl (i := 5 * j + 1) (nI_add _ _) (by omega) (by omega) (?_ : K _ _ _ _ _ _))
    iterate 4 refine hK _ _ _ _ _ _ (?_ : K _ _ _ _ _ _)
    refine hK _ _ _ _ _ _ (r_sld rfl (i := 5 * j + 2) (nI_add _ _) (by omega) (by omega) (?_ : K _ _ _ _ _ _))
    refine hK _ _ _ _ _ _ (r_callV rfl (fun _ => rfl) rfl ⟨rfl, by show kc + 2 + 0 ≤ 601024; omega, by show ks + 12 + 0 ≤ 7293034; omega⟩ (kX7_faces (X := wX P2 R2 u v w kb f g e) hI hA hR (mqe ho (fun A2 mk ro2 nx pi kp km hA2 hR2 => ?_))))
    show K 1506 _ [.int x9] (b, LW P2 R2 u v w kb f g e A2 mk ro2 nx pi kp km (nI 0) oo2 od) (kc + 2) (ks + 12)
    iterate 2 refine hK _ _ _ _ _ _ (?_ : K _ _ _ _ _ _)
    refine hK _ _ _ _ _ _ (r_callV rfl (fun _ => rfl) rfl ⟨rfl, by show kc + 2 + 0 ≤ 601024; omega, by show ks + 12 + 0 ≤ 7293034; omega⟩ (kX7_thrown (X := wX P2 R2 u v w kb f g e) ?_))
    show K 1512 _ [.int (nI 0)] (b, LW P2 R2 u v w kb f g e A2 mk ro2 nx pi kp km (nI 0) oo2 od) (kc + 2) (ks + 12)
    iterate 1 refine hK _ _ _ _ _ _ (?_ : K _ _ _ _ _ _)
    refine hK _ _ _ _ _ _ (And.intro (fun _ => ?_) (fun c9 => absurd (rfl) c9))
    iterate 1 refine hK _ _ _ _ _ _ (?_ : K _ _ _ _ _ _)
    refine hK _ _ _ _ _ _ (And.intro (fun _ => ?_) (fun c9 => absurd (rfl) c9))
    iterate 2 refine hK _ _ _ _ _ _ (?_ : K _ _ _ _ _ _)
    refine hK _ _ _ _ _ _ (r_lald' (v := x9.toInt64) rfl (N := 1) (f := oo2) rfl (vp_in_nI (by decide) (by decide)) (by rw [nI_clamp (by decide)]; exact hoo) (?_ : K _ _ _ _ _ _))
    iterate 3 refine hK _ _ _ _ _ _ (?_ : K _ _ _ _ _ _)
    refine hK _ _ _ _ _ _ (And.intro (fun _ => ?_) (fun c9 => absurd ((lg_cmp_eq _ _).mpr rfl) c9))
    iterate 3 refine hK _ _ _ _ _ _ (?_ : K _ _ _ _ _ _)
    show K 28 ((5, .int (nI (5 * j) + nI 5)) :: _) _ _ _ _
    rw [nI_add (5 * j) 5, show 5 * j + 5 = 5 * (j + 1) by omega]
    exact hW _ _ [(5, .int (nI (5 * (j + 1)))), (4, .ref 32), (3, .ref 31), (2, .ref 24), (1, .ref 1), (0, .ref 0)] _ _ _ _ (by simp) (ih _ _ _ _ _ _ _ _ _ _ _ _ _ _ _ _ _ _ _ _ _ _ hJ hA2 hR2 (by omega) (by omega))

set_option maxRecDepth 10000 in
/-- case 17: corners -/
theorem lc_corners {S : Nat × (Nat → Int32)} {d : Nat} {Q : eQ} {K : eK} (hK : ∀ (pc : Nat) (ls : eL) (st : List Value) (h : eH) (kc ks : Nat), eStep S MT (okCall S MT (d + 9)) ML_law (d + 9 + 1) Q K pc ls st h kc ks → K pc ls st h kc ks) (hW : ∀ (pc : Nat) (ls ls2 : eL) (st : List Value) (h : eH) (kc ks : Nat), (∀ q ∈ ls2, q ∈ ls) → K pc ls2 st h kc ks → K pc ls st h kc ks) {j : Nat} (h5 : 5 * j + 5 ≤ S.1) (hS : S.1 ≤ 2560) (ih : LN K (j + 1)) {b : Bool} {P : Nat → Nat → Bool} {R u v w : Nat → Bool} {kb : Nat → Nat} {f g e : Nat → Int32} {A mk ro nx pi : Nat → Int32} {kp : Nat → Int64} {km th : Int32} {oo : Nat → Int64} {od : Nat → UInt64} {kc ks : Nat} (hI : IvC P R) (hA : MI P A) (hR : RI R ro) (hkc : kc ≤ 42 + 7 * j) (hks : ks ≤ 1715 + 42 * j) : K 1539 [(5, .int (nI (5 * j))), (4, .ref 32), (3, .ref 31), (2, .ref 24), (1, .ref 1), (0, .ref 0)] [] (b, LW P R u v w kb f g e A mk ro nx pi kp km th oo od) kc ks := by
  iterate 5 refine hK _ _ _ _ _ _ (?_ : K _ _ _ _ _ _)
  refine hK _ _ _ _ _ _ (r_sld rfl (i := 5 * j + 1) (nI_add _ _) (by omega) (by omega) (?_ : K _ _ _ _ _ _))
  iterate 1 refine hK _ _ _ _ _ _ (?_ : K _ _ _ _ _ _)
  rcases ho : o_corners P R (S.2 (5 * j + 1)) with E | ⟨r9, P2, R2⟩
  · skip
    refine hK _ _ _ _ _ _ (r_callN rfl (fun _ => rfl) ⟨rfl, by show kc + 1 ≤ 601024; omega, by show ks + 6 ≤ 7293034; omega⟩ (kL_corners hI ho (fun u v w kb f g e => ?_)))
    show K 1550 _ [.int (nI (cmA E))] (false, LW P R u v w kb f g e A mk ro nx pi kp km th oo od) (kc + 1) (ks + 6)
    iterate 6 refine hK _ _ _ _ _ _ (?_ : K _ _ _ _ _ _)
    refine hK _ _ _ _ _ _ (r_sld rfl (i := 5 * j + 1) (nI_add _ _) (by omega) (by omega) (?_ : K _ _ _ _ _ _))
    refine hK _ _ _ _ _ _ (r_callV rfl (fun _ => rfl) rfl ⟨rfl, by show kc + 1 + 0 ≤ 601024; omega, by show ks + 6 + 0 ≤ 7293034; omega⟩ (kX7_corners (X := wX P R u v w kb f g e) hI hA hR (mqe ho (fun mk nx pi kp km => ?_))))
    show K 1562 _ [.int (nI 0)] (false, LW P R u v w kb f g e A mk ro nx pi kp km (nI (cmA E)) oo od) (kc + 1) (ks + 6)
    iterate 2 refine hK _ _ _ _ _ _ (?_ : K _ _ _ _ _ _)
    refine hK _ _ _ _ _ _ (r_callV rfl (fun _ => rfl) rfl ⟨rfl, by show kc + 1 + 0 ≤ 601024; omega, by show ks + 6 + 0 ≤ 7293034; omega⟩ (kX7_thrown (X := wX P R u v w kb f g e) ?_))
    show K 1568 _ [.int (nI (cmA E))] (false, LW P R u v w kb f g e A mk ro nx pi kp km (nI (cmA E)) oo od) (kc + 1) (ks + 6)
    iterate 1 refine hK _ _ _ _ _ _ (?_ : K _ _ _ _ _ _)
    refine hK _ _ _ _ _ _ (And.intro (fun _ => ?_) (fun c9 => absurd (rfl) c9))
    iterate 1 refine hK _ _ _ _ _ _ (?_ : K _ _ _ _ _ _)
    refine hK _ _ _ _ _ _ (And.intro (fun c9 => absurd c9 (cmA_n E)) (fun _ => ?_))
    iterate 3 refine hK _ _ _ _ _ _ (?_ : K _ _ _ _ _ _)
    show K 28 ((5, .int (nI (5 * j) + nI 5)) :: _) _ _ _ _
    rw [nI_add (5 * j) 5, show 5 * j + 5 = 5 * (j + 1) by omega]
    exact hW _ _ [(5, .int (nI (5 * (j + 1)))), (4, .ref 32), (3, .ref 31), (2, .ref 24), (1, .ref 1), (0, .ref 0)] _ _ _ _ (by simp) (ih _ _ _ _ _ _ _ _ _ _ _ _ _ _ _ _ _ _ _ _ _ _ hI hA hR (by omega) (by omega))
  · skip
    have hk := oK_corners (P := P) (R := R) (x := S.2 (5 * j + 1))
    rw [ho] at hk
    obtain ⟨x9, rfl⟩ := hk
    have hJ := oJ_corners hI (x := S.2 (5 * j + 1))
    rw [ho] at hJ
    have hJ : IvC P2 R2 := hJ
    refine hK _ _ _ _ _ _ (r_callN rfl (fun _ => rfl) ⟨rfl, by show kc + 1 ≤ 601024; omega, by show ks + 6 ≤ 7293034; omega⟩ (kL_corners hI ho (fun u v w kb f g e oo2 hoo => ?_)))
    show K 1550 _ [.int (nI 0)] (b, LW P2 R2 u v w kb f g e A mk ro nx pi kp km th oo2 od) (kc + 1) (ks + 6)
    iterate 6 refine hK _ _ _ _ _ _ (?_ : K _ _ _ _ _ _)
    refine hK _ _ _ _ _ _ (r_sld rfl (i := 5 * j + 1) (nI_add _ _) (by omega) (by omega) (?_ : K _ _ _ _ _ _))
    refine hK _ _ _ _ _ _ (r_callV rfl (fun _ => rfl) rfl ⟨rfl, by show kc + 1 + 0 ≤ 601024; omega, by show ks + 6 + 0 ≤ 7293034; omega⟩ (kX7_corners (X := wX P2 R2 u v w kb f g e) hI hA hR (mqe ho (fun A2 mk ro2 nx pi kp km hA2 hR2 => ?_))))
    show K 1562 _ [.int x9] (b, LW P2 R2 u v w kb f g e A2 mk ro2 nx pi kp km (nI 0) oo2 od) (kc + 1) (ks + 6)
    iterate 2 refine hK _ _ _ _ _ _ (?_ : K _ _ _ _ _ _)
    refine hK _ _ _ _ _ _ (r_callV rfl (fun _ => rfl) rfl ⟨rfl, by show kc + 1 + 0 ≤ 601024; omega, by show ks + 6 + 0 ≤ 7293034; omega⟩ (kX7_thrown (X := wX P2 R2 u v w kb f g e) ?_))
    show K 1568 _ [.int (nI 0)] (b, LW P2 R2 u v w kb f g e A2 mk ro2 nx pi kp km (nI 0) oo2 od) (kc + 1) (ks + 6)
    iterate 1 refine hK _ _ _ _ _ _ (?_ : K _ _ _ _ _ _)
    refine hK _ _ _ _ _ _ (And.intro (fun _ => ?_) (fun c9 => absurd (rfl) c9))
    iterate 1 refine hK _ _ _ _ _ _ (?_ : K _ _ _ _ _ _)
    refine hK _ _ _ _ _ _ (And.intro (fun _ => ?_) (fun c9 => absurd (rfl) c9))
    iterate 2 refine hK _ _ _ _ _ _ (?_ : K _ _ _ _ _ _)
    refine hK _ _ _ _ _ _ (r_lald' (v := x9.toInt64) rfl (N := 1) (f := oo2) rfl (vp_in_nI (by decide) (by decide)) (by rw [nI_clamp (by decide)]; exact hoo) (?_ : K _ _ _ _ _ _))
    iterate 3 refine hK _ _ _ _ _ _ (?_ : K _ _ _ _ _ _)
    refine hK _ _ _ _ _ _ (And.intro (fun _ => ?_) (fun c9 => absurd ((lg_cmp_eq _ _).mpr rfl) c9))
    iterate 3 refine hK _ _ _ _ _ _ (?_ : K _ _ _ _ _ _)
    show K 28 ((5, .int (nI (5 * j) + nI 5)) :: _) _ _ _ _
    rw [nI_add (5 * j) 5, show 5 * j + 5 = 5 * (j + 1) by omega]
    exact hW _ _ [(5, .int (nI (5 * (j + 1)))), (4, .ref 32), (3, .ref 31), (2, .ref 24), (1, .ref 1), (0, .ref 0)] _ _ _ _ (by simp) (ih _ _ _ _ _ _ _ _ _ _ _ _ _ _ _ _ _ _ _ _ _ _ hJ hA2 hR2 (by omega) (by omega))

set_option maxRecDepth 10000 in
/-- case 18: over -/
theorem lc_over {S : Nat × (Nat → Int32)} {d : Nat} {Q : eQ} {K : eK} (hK : ∀ (pc : Nat) (ls : eL) (st : List Value) (h : eH) (kc ks : Nat), eStep S MT (okCall S MT (d + 9)) ML_law (d + 9 + 1) Q K pc ls st h kc ks → K pc ls st h kc ks) (hW : ∀ (pc : Nat) (ls ls2 : eL) (st : List Value) (h : eH) (kc ks : Nat), (∀ q ∈ ls2, q ∈ ls) → K pc ls2 st h kc ks → K pc ls st h kc ks) {j : Nat} (h5 : 5 * j + 5 ≤ S.1) (hS : S.1 ≤ 2560) (ih : LN K (j + 1)) {b : Bool} {P : Nat → Nat → Bool} {R u v w : Nat → Bool} {kb : Nat → Nat} {f g e : Nat → Int32} {A mk ro nx pi : Nat → Int32} {kp : Nat → Int64} {km th : Int32} {oo : Nat → Int64} {od : Nat → UInt64} {kc ks : Nat} (hI : IvC P R) (hA : MI P A) (hR : RI R ro) (hkc : kc ≤ 42 + 7 * j) (hks : ks ≤ 1715 + 42 * j) : K 1595 [(5, .int (nI (5 * j))), (4, .ref 32), (3, .ref 31), (2, .ref 24), (1, .ref 1), (0, .ref 0)] [] (b, LW P R u v w kb f g e A mk ro nx pi kp km th oo od) kc ks := by
  iterate 5 refine hK _ _ _ _ _ _ (?_ : K _ _ _ _ _ _)
  refine hK _ _ _ _ _ _ (r_sld rfl (i := 5 * j + 1) (nI_add _ _) (by omega) (by omega) (?_ : K _ _ _ _ _ _))
  iterate 4 refine hK _ _ _ _ _ _ (?_ : K _ _ _ _ _ _)
  refine hK _ _ _ _ _ _ (r_sld rfl (i := 5 * j + 2) (nI_add _ _) (by omega) (by omega) (?_ : K _ _ _ _ _ _))
  iterate 1 refine hK _ _ _ _ _ _ (?_ : K _ _ _ _ _ _)
  rcases ho : o_over P R (S.2 (5 * j + 1)) (S.2 (5 * j + 2)) with E | ⟨r9, P2, R2⟩
  · skip
    refine hK _ _ _ _ _ _ (r_callN rfl (fun _ => rfl) ⟨rfl, by show kc + 3 ≤ 601024; omega, by show ks + 18 ≤ 7293034; omega⟩ (kL_over hI ho (fun u v w kb f g e => ?_)))
    show K 1612 _ [.int (nI (cmA E))] (false, LW P R u v w kb f g e A mk ro nx pi kp km th oo od) (kc + 3) (ks + 18)
    iterate 6 refine hK _ _ _ _ _ _ (?_ : K _ _ _ _ _ _)
    refine hK _ _ _ _ _ _ (r_sld rfl (i := 5 * j + 1) (nI_add _ _) (by omega) (by omega) (?_ : K _ _ _ _ _ _))
    iterate 4 refine hK _ _ _ _ _ _ (?_ : K _ _ _ _ _ _)
    refine hK _ _ _ _ _ _ (r_sld rfl (i := 5 * j + 2) (nI_add _ _) (by omega) (by omega) (?_ : K _ _ _ _ _ _))
    refine hK _ _ _ _ _ _ (r_callV rfl (fun _ => rfl) rfl ⟨rfl, by show kc + 3 + 0 ≤ 601024; omega, by show ks + 18 + 0 ≤ 7293034; omega⟩ (kX7_over (X := wX P R u v w kb f g e) hI hA hR (mqe ho (fun mk nx pi kp km => ?_))))
    show K 1630 _ [.int (nI 0)] (false, LW P R u v w kb f g e A mk ro nx pi kp km (nI (cmA E)) oo od) (kc + 3) (ks + 18)
    iterate 2 refine hK _ _ _ _ _ _ (?_ : K _ _ _ _ _ _)
    refine hK _ _ _ _ _ _ (r_callV rfl (fun _ => rfl) rfl ⟨rfl, by show kc + 3 + 0 ≤ 601024; omega, by show ks + 18 + 0 ≤ 7293034; omega⟩ (kX7_thrown (X := wX P R u v w kb f g e) ?_))
    show K 1636 _ [.int (nI (cmA E))] (false, LW P R u v w kb f g e A mk ro nx pi kp km (nI (cmA E)) oo od) (kc + 3) (ks + 18)
    iterate 1 refine hK _ _ _ _ _ _ (?_ : K _ _ _ _ _ _)
    refine hK _ _ _ _ _ _ (And.intro (fun _ => ?_) (fun c9 => absurd (rfl) c9))
    iterate 1 refine hK _ _ _ _ _ _ (?_ : K _ _ _ _ _ _)
    refine hK _ _ _ _ _ _ (And.intro (fun c9 => absurd c9 (cmA_n E)) (fun _ => ?_))
    iterate 3 refine hK _ _ _ _ _ _ (?_ : K _ _ _ _ _ _)
    show K 28 ((5, .int (nI (5 * j) + nI 5)) :: _) _ _ _ _
    rw [nI_add (5 * j) 5, show 5 * j + 5 = 5 * (j + 1) by omega]
    exact hW _ _ [(5, .int (nI (5 * (j + 1)))), (4, .ref 32), (3, .ref 31), (2, .ref 24), (1, .ref 1), (0, .ref 0)] _ _ _ _ (by simp) (ih _ _ _ _ _ _ _ _ _ _ _ _ _ _ _ _ _ _ _ _ _ _ hI hA hR (by omega) (by omega))
  · skip
    have hk := oK_over (P := P) (R := R) (x := S.2 (5 * j + 1)) (y := S.2 (5 * j + 2))
    rw [ho] at hk
    obtain ⟨x9, rfl⟩ := hk
    have hJ := oJ_over hI (x := S.2 (5 * j + 1)) (y := S.2 (5 * j + 2))
    rw [ho] at hJ
    have hJ : IvC P2 R2 := hJ
    refine hK _ _ _ _ _ _ (r_callN rfl (fun _ => rfl) ⟨rfl, by show kc + 3 ≤ 601024; omega, by show ks + 18 ≤ 7293034; omega⟩ (kL_over hI ho (fun u v w kb f g e oo2 hoo => ?_)))
    show K 1612 _ [.int (nI 0)] (b, LW P2 R2 u v w kb f g e A mk ro nx pi kp km th oo2 od) (kc + 3) (ks + 18)
    iterate 6 refine hK _ _ _ _ _ _ (?_ : K _ _ _ _ _ _)
    refine hK _ _ _ _ _ _ (r_sld rfl (i := 5 * j + 1) (nI_add _ _) (by omega) (by omega) (?_ : K _ _ _ _ _ _))
    iterate 4 refine hK _ _ _ _ _ _ (?_ : K _ _ _ _ _ _)
    refine hK _ _ _ _ _ _ (r_sld rfl (i := 5 * j + 2) (nI_add _ _) (by omega) (by omega) (?_ : K _ _ _ _ _ _))
    refine hK _ _ _ _ _ _ (r_callV rfl (fun _ => rfl) rfl ⟨rfl, by show kc + 3 + 0 ≤ 601024; omega, by show ks + 18 + 0 ≤ 7293034; omega⟩ (kX7_over (X := wX P2 R2 u v w kb f g e) hI hA hR (mqe ho (fun A2 mk ro2 nx pi kp km hA2 hR2 => ?_))))
    show K 1630 _ [.int x9] (b, LW P2 R2 u v w kb f g e A2 mk ro2 nx pi kp km (nI 0) oo2 od) (kc + 3) (ks + 18)
    iterate 2 refine hK _ _ _ _ _ _ (?_ : K _ _ _ _ _ _)
    refine hK _ _ _ _ _ _ (r_callV rfl (fun _ => rfl) rfl ⟨rfl, by show kc + 3 + 0 ≤ 601024; omega, by show ks + 18 + 0 ≤ 7293034; omega⟩ (kX7_thrown (X := wX P2 R2 u v w kb f g e) ?_))
    show K 1636 _ [.int (nI 0)] (b, LW P2 R2 u v w kb f g e A2 mk ro2 nx pi kp km (nI 0) oo2 od) (kc + 3) (ks + 18)
    iterate 1 refine hK _ _ _ _ _ _ (?_ : K _ _ _ _ _ _)
    refine hK _ _ _ _ _ _ (And.intro (fun _ => ?_) (fun c9 => absurd (rfl) c9))
    iterate 1 refine hK _ _ _ _ _ _ (?_ : K _ _ _ _ _ _)
    refine hK _ _ _ _ _ _ (And.intro (fun _ => ?_) (fun c9 => absurd (rfl) c9))
    iterate 2 refine hK _ _ _ _ _ _ (?_ : K _ _ _ _ _ _)
    refine hK _ _ _ _ _ _ (r_lald' (v := x9.toInt64) rfl (N := 1) (f := oo2) rfl (vp_in_nI (by decide) (by decide)) (by rw [nI_clamp (by decide)]; exact hoo) (?_ : K _ _ _ _ _ _))
    iterate 3 refine hK _ _ _ _ _ _ (?_ : K _ _ _ _ _ _)
    refine hK _ _ _ _ _ _ (And.intro (fun _ => ?_) (fun c9 => absurd ((lg_cmp_eq _ _).mpr rfl) c9))
    iterate 3 refine hK _ _ _ _ _ _ (?_ : K _ _ _ _ _ _)
    show K 28 ((5, .int (nI (5 * j) + nI 5)) :: _) _ _ _ _
    rw [nI_add (5 * j) 5, show 5 * j + 5 = 5 * (j + 1) by omega]
    exact hW _ _ [(5, .int (nI (5 * (j + 1)))), (4, .ref 32), (3, .ref 31), (2, .ref 24), (1, .ref 1), (0, .ref 0)] _ _ _ _ (by simp) (ih _ _ _ _ _ _ _ _ _ _ _ _ _ _ _ _ _ _ _ _ _ _ hJ hA2 hR2 (by omega) (by omega))

set_option maxRecDepth 10000 in
/-- case 19: greatest -/
theorem lc_greatest {S : Nat × (Nat → Int32)} {d : Nat} {Q : eQ} {K : eK} (hK : ∀ (pc : Nat) (ls : eL) (st : List Value) (h : eH) (kc ks : Nat), eStep S MT (okCall S MT (d + 9)) ML_law (d + 9 + 1) Q K pc ls st h kc ks → K pc ls st h kc ks) (hW : ∀ (pc : Nat) (ls ls2 : eL) (st : List Value) (h : eH) (kc ks : Nat), (∀ q ∈ ls2, q ∈ ls) → K pc ls2 st h kc ks → K pc ls st h kc ks) {j : Nat} (h5 : 5 * j + 5 ≤ S.1) (hS : S.1 ≤ 2560) (ih : LN K (j + 1)) {b : Bool} {P : Nat → Nat → Bool} {R u v w : Nat → Bool} {kb : Nat → Nat} {f g e : Nat → Int32} {A mk ro nx pi : Nat → Int32} {kp : Nat → Int64} {km th : Int32} {oo : Nat → Int64} {od : Nat → UInt64} {kc ks : Nat} (hI : IvC P R) (hA : MI P A) (hR : RI R ro) (hkc : kc ≤ 42 + 7 * j) (hks : ks ≤ 1715 + 42 * j) : K 1663 [(5, .int (nI (5 * j))), (4, .ref 32), (3, .ref 31), (2, .ref 24), (1, .ref 1), (0, .ref 0)] [] (b, LW P R u v w kb f g e A mk ro nx pi kp km th oo od) kc ks := by
  iterate 5 refine hK _ _ _ _ _ _ (?_ : K _ _ _ _ _ _)
  refine hK _ _ _ _ _ _ (r_sld rfl (i := 5 * j + 1) (nI_add _ _) (by omega) (by omega) (?_ : K _ _ _ _ _ _))
  iterate 1 refine hK _ _ _ _ _ _ (?_ : K _ _ _ _ _ _)
  rcases ho : o_greatest P R (S.2 (5 * j + 1)) with E | ⟨r9, P2, R2⟩
  · skip
    refine hK _ _ _ _ _ _ (r_callN rfl (fun _ => rfl) ⟨rfl, by show kc + 1 ≤ 601024; omega, by show ks + 6 ≤ 7293034; omega⟩ (kL_greatest hI ho (fun u v w kb f g e => ?_)))
    show K 1674 _ [.int (nI (cmA E))] (false, LW P R u v w kb f g e A mk ro nx pi kp km th oo od) (kc + 1) (ks + 6)
    iterate 6 refine hK _ _ _ _ _ _ (?_ : K _ _ _ _ _ _)
    refine hK _ _ _ _ _ _ (r_sld rfl (i := 5 * j + 1) (nI_add _ _) (by omega) (by omega) (?_ : K _ _ _ _ _ _))
    refine hK _ _ _ _ _ _ (r_callV rfl (fun _ => rfl) rfl ⟨rfl, by show kc + 1 + 0 ≤ 601024; omega, by show ks + 6 + 0 ≤ 7293034; omega⟩ (kX7_greatest (X := wX P R u v w kb f g e) hI hA hR (mqe ho (fun mk nx pi kp km => ?_))))
    show K 1686 _ [.int (nI 0)] (false, LW P R u v w kb f g e A mk ro nx pi kp km (nI (cmA E)) oo od) (kc + 1) (ks + 6)
    iterate 2 refine hK _ _ _ _ _ _ (?_ : K _ _ _ _ _ _)
    refine hK _ _ _ _ _ _ (r_callV rfl (fun _ => rfl) rfl ⟨rfl, by show kc + 1 + 0 ≤ 601024; omega, by show ks + 6 + 0 ≤ 7293034; omega⟩ (kX7_thrown (X := wX P R u v w kb f g e) ?_))
    show K 1692 _ [.int (nI (cmA E))] (false, LW P R u v w kb f g e A mk ro nx pi kp km (nI (cmA E)) oo od) (kc + 1) (ks + 6)
    iterate 1 refine hK _ _ _ _ _ _ (?_ : K _ _ _ _ _ _)
    refine hK _ _ _ _ _ _ (And.intro (fun _ => ?_) (fun c9 => absurd (rfl) c9))
    iterate 1 refine hK _ _ _ _ _ _ (?_ : K _ _ _ _ _ _)
    refine hK _ _ _ _ _ _ (And.intro (fun c9 => absurd c9 (cmA_n E)) (fun _ => ?_))
    iterate 3 refine hK _ _ _ _ _ _ (?_ : K _ _ _ _ _ _)
    show K 28 ((5, .int (nI (5 * j) + nI 5)) :: _) _ _ _ _
    rw [nI_add (5 * j) 5, show 5 * j + 5 = 5 * (j + 1) by omega]
    exact hW _ _ [(5, .int (nI (5 * (j + 1)))), (4, .ref 32), (3, .ref 31), (2, .ref 24), (1, .ref 1), (0, .ref 0)] _ _ _ _ (by simp) (ih _ _ _ _ _ _ _ _ _ _ _ _ _ _ _ _ _ _ _ _ _ _ hI hA hR (by omega) (by omega))
  · skip
    have hk := oK_greatest (P := P) (R := R) (x := S.2 (5 * j + 1))
    rw [ho] at hk
    obtain ⟨x9, rfl⟩ := hk
    have hJ := oJ_greatest hI (x := S.2 (5 * j + 1))
    rw [ho] at hJ
    have hJ : IvC P2 R2 := hJ
    refine hK _ _ _ _ _ _ (r_callN rfl (fun _ => rfl) ⟨rfl, by show kc + 1 ≤ 601024; omega, by show ks + 6 ≤ 7293034; omega⟩ (kL_greatest hI ho (fun u v w kb f g e oo2 hoo => ?_)))
    show K 1674 _ [.int (nI 0)] (b, LW P2 R2 u v w kb f g e A mk ro nx pi kp km th oo2 od) (kc + 1) (ks + 6)
    iterate 6 refine hK _ _ _ _ _ _ (?_ : K _ _ _ _ _ _)
    refine hK _ _ _ _ _ _ (r_sld rfl (i := 5 * j + 1) (nI_add _ _) (by omega) (by omega) (?_ : K _ _ _ _ _ _))
    refine hK _ _ _ _ _ _ (r_callV rfl (fun _ => rfl) rfl ⟨rfl, by show kc + 1 + 0 ≤ 601024; omega, by show ks + 6 + 0 ≤ 7293034; omega⟩ (kX7_greatest (X := wX P2 R2 u v w kb f g e) hI hA hR (mqe ho (fun A2 mk ro2 nx pi kp km hA2 hR2 => ?_))))
    show K 1686 _ [.int x9] (b, LW P2 R2 u v w kb f g e A2 mk ro2 nx pi kp km (nI 0) oo2 od) (kc + 1) (ks + 6)
    iterate 2 refine hK _ _ _ _ _ _ (?_ : K _ _ _ _ _ _)
    refine hK _ _ _ _ _ _ (r_callV rfl (fun _ => rfl) rfl ⟨rfl, by show kc + 1 + 0 ≤ 601024; omega, by show ks + 6 + 0 ≤ 7293034; omega⟩ (kX7_thrown (X := wX P2 R2 u v w kb f g e) ?_))
    show K 1692 _ [.int (nI 0)] (b, LW P2 R2 u v w kb f g e A2 mk ro2 nx pi kp km (nI 0) oo2 od) (kc + 1) (ks + 6)
    iterate 1 refine hK _ _ _ _ _ _ (?_ : K _ _ _ _ _ _)
    refine hK _ _ _ _ _ _ (And.intro (fun _ => ?_) (fun c9 => absurd (rfl) c9))
    iterate 1 refine hK _ _ _ _ _ _ (?_ : K _ _ _ _ _ _)
    refine hK _ _ _ _ _ _ (And.intro (fun _ => ?_) (fun c9 => absurd (rfl) c9))
    iterate 2 refine hK _ _ _ _ _ _ (?_ : K _ _ _ _ _ _)
    refine hK _ _ _ _ _ _ (r_lald' (v := x9.toInt64) rfl (N := 1) (f := oo2) rfl (vp_in_nI (by decide) (by decide)) (by rw [nI_clamp (by decide)]; exact hoo) (?_ : K _ _ _ _ _ _))
    iterate 3 refine hK _ _ _ _ _ _ (?_ : K _ _ _ _ _ _)
    refine hK _ _ _ _ _ _ (And.intro (fun _ => ?_) (fun c9 => absurd ((lg_cmp_eq _ _).mpr rfl) c9))
    iterate 3 refine hK _ _ _ _ _ _ (?_ : K _ _ _ _ _ _)
    show K 28 ((5, .int (nI (5 * j) + nI 5)) :: _) _ _ _ _
    rw [nI_add (5 * j) 5, show 5 * j + 5 = 5 * (j + 1) by omega]
    exact hW _ _ [(5, .int (nI (5 * (j + 1)))), (4, .ref 32), (3, .ref 31), (2, .ref 24), (1, .ref 1), (0, .ref 0)] _ _ _ _ (by simp) (ih _ _ _ _ _ _ _ _ _ _ _ _ _ _ _ _ _ _ _ _ _ _ hJ hA2 hR2 (by omega) (by omega))

set_option maxRecDepth 10000 in
/-- case 20: greatestAt -/
theorem lc_greatestAt {S : Nat × (Nat → Int32)} {d : Nat} {Q : eQ} {K : eK} (hK : ∀ (pc : Nat) (ls : eL) (st : List Value) (h : eH) (kc ks : Nat), eStep S MT (okCall S MT (d + 9)) ML_law (d + 9 + 1) Q K pc ls st h kc ks → K pc ls st h kc ks) (hW : ∀ (pc : Nat) (ls ls2 : eL) (st : List Value) (h : eH) (kc ks : Nat), (∀ q ∈ ls2, q ∈ ls) → K pc ls2 st h kc ks → K pc ls st h kc ks) {j : Nat} (h5 : 5 * j + 5 ≤ S.1) (hS : S.1 ≤ 2560) (ih : LN K (j + 1)) {b : Bool} {P : Nat → Nat → Bool} {R u v w : Nat → Bool} {kb : Nat → Nat} {f g e : Nat → Int32} {A mk ro nx pi : Nat → Int32} {kp : Nat → Int64} {km th : Int32} {oo : Nat → Int64} {od : Nat → UInt64} {kc ks : Nat} (hI : IvC P R) (hA : MI P A) (hR : RI R ro) (hkc : kc ≤ 42 + 7 * j) (hks : ks ≤ 1715 + 42 * j) : K 1719 [(5, .int (nI (5 * j))), (4, .ref 32), (3, .ref 31), (2, .ref 24), (1, .ref 1), (0, .ref 0)] [] (b, LW P R u v w kb f g e A mk ro nx pi kp km th oo od) kc ks := by
  iterate 5 refine hK _ _ _ _ _ _ (?_ : K _ _ _ _ _ _)
  refine hK _ _ _ _ _ _ (r_sld rfl (i := 5 * j + 1) (nI_add _ _) (by omega) (by omega) (?_ : K _ _ _ _ _ _))
  iterate 4 refine hK _ _ _ _ _ _ (?_ : K _ _ _ _ _ _)
  refine hK _ _ _ _ _ _ (r_sld rfl (i := 5 * j + 2) (nI_add _ _) (by omega) (by omega) (?_ : K _ _ _ _ _ _))
  iterate 1 refine hK _ _ _ _ _ _ (?_ : K _ _ _ _ _ _)
  rcases ho : o_greatestAt P R (S.2 (5 * j + 1)) (S.2 (5 * j + 2)) with E | ⟨r9, P2, R2⟩
  · skip
    refine hK _ _ _ _ _ _ (r_callN rfl (fun _ => rfl) ⟨rfl, by show kc + 2 ≤ 601024; omega, by show ks + 12 ≤ 7293034; omega⟩ (kL_greatestAt hI ho (fun u v w kb f g e => ?_)))
    show K 1736 _ [.int (nI (cmA E))] (false, LW P R u v w kb f g e A mk ro nx pi kp km th oo od) (kc + 2) (ks + 12)
    iterate 6 refine hK _ _ _ _ _ _ (?_ : K _ _ _ _ _ _)
    refine hK _ _ _ _ _ _ (r_sld rfl (i := 5 * j + 1) (nI_add _ _) (by omega) (by omega) (?_ : K _ _ _ _ _ _))
    iterate 4 refine hK _ _ _ _ _ _ (?_ : K _ _ _ _ _ _)
    refine hK _ _ _ _ _ _ (r_sld rfl (i := 5 * j + 2) (nI_add _ _) (by omega) (by omega) (?_ : K _ _ _ _ _ _))
    refine hK _ _ _ _ _ _ (r_callV rfl (fun _ => rfl) rfl ⟨rfl, by show kc + 2 + 0 ≤ 601024; omega, by show ks + 12 + 0 ≤ 7293034; omega⟩ (kX7_greatestAt (X := wX P R u v w kb f g e) hI hA hR (mqe ho (fun mk nx pi kp km => ?_))))
    show K 1754 _ [.int (nI 0)] (false, LW P R u v w kb f g e A mk ro nx pi kp km (nI (cmA E)) oo od) (kc + 2) (ks + 12)
    iterate 2 refine hK _ _ _ _ _ _ (?_ : K _ _ _ _ _ _)
    refine hK _ _ _ _ _ _ (r_callV rfl (fun _ => rfl) rfl ⟨rfl, by show kc + 2 + 0 ≤ 601024; omega, by show ks + 12 + 0 ≤ 7293034; omega⟩ (kX7_thrown (X := wX P R u v w kb f g e) ?_))
    show K 1760 _ [.int (nI (cmA E))] (false, LW P R u v w kb f g e A mk ro nx pi kp km (nI (cmA E)) oo od) (kc + 2) (ks + 12)
    iterate 1 refine hK _ _ _ _ _ _ (?_ : K _ _ _ _ _ _)
    refine hK _ _ _ _ _ _ (And.intro (fun _ => ?_) (fun c9 => absurd (rfl) c9))
    iterate 1 refine hK _ _ _ _ _ _ (?_ : K _ _ _ _ _ _)
    refine hK _ _ _ _ _ _ (And.intro (fun c9 => absurd c9 (cmA_n E)) (fun _ => ?_))
    iterate 3 refine hK _ _ _ _ _ _ (?_ : K _ _ _ _ _ _)
    show K 28 ((5, .int (nI (5 * j) + nI 5)) :: _) _ _ _ _
    rw [nI_add (5 * j) 5, show 5 * j + 5 = 5 * (j + 1) by omega]
    exact hW _ _ [(5, .int (nI (5 * (j + 1)))), (4, .ref 32), (3, .ref 31), (2, .ref 24), (1, .ref 1), (0, .ref 0)] _ _ _ _ (by simp) (ih _ _ _ _ _ _ _ _ _ _ _ _ _ _ _ _ _ _ _ _ _ _ hI hA hR (by omega) (by omega))
  · skip
    have hk := oK_greatestAt (P := P) (R := R) (x := S.2 (5 * j + 1)) (y := S.2 (5 * j + 2))
    rw [ho] at hk
    obtain ⟨x9, rfl⟩ := hk
    have hJ := oJ_greatestAt hI (x := S.2 (5 * j + 1)) (y := S.2 (5 * j + 2))
    rw [ho] at hJ
    have hJ : IvC P2 R2 := hJ
    refine hK _ _ _ _ _ _ (r_callN rfl (fun _ => rfl) ⟨rfl, by show kc + 2 ≤ 601024; omega, by show ks + 12 ≤ 7293034; omega⟩ (kL_greatestAt hI ho (fun u v w kb f g e oo2 hoo => ?_)))
    show K 1736 _ [.int (nI 0)] (b, LW P2 R2 u v w kb f g e A mk ro nx pi kp km th oo2 od) (kc + 2) (ks + 12)
    iterate 6 refine hK _ _ _ _ _ _ (?_ : K _ _ _ _ _ _)
    refine hK _ _ _ _ _ _ (r_sld rfl (i := 5 * j + 1) (nI_add _ _) (by omega) (by omega) (?_ : K _ _ _ _ _ _))
    iterate 4 refine hK _ _ _ _ _ _ (?_ : K _ _ _ _ _ _)
    refine hK _ _ _ _ _ _ (r_sld rfl (i := 5 * j + 2) (nI_add _ _) (by omega) (by omega) (?_ : K _ _ _ _ _ _))
    refine hK _ _ _ _ _ _ (r_callV rfl (fun _ => rfl) rfl ⟨rfl, by show kc + 2 + 0 ≤ 601024; omega, by show ks + 12 + 0 ≤ 7293034; omega⟩ (kX7_greatestAt (X := wX P2 R2 u v w kb f g e) hI hA hR (mqe ho (fun A2 mk ro2 nx pi kp km hA2 hR2 => ?_))))
    show K 1754 _ [.int x9] (b, LW P2 R2 u v w kb f g e A2 mk ro2 nx pi kp km (nI 0) oo2 od) (kc + 2) (ks + 12)
    iterate 2 refine hK _ _ _ _ _ _ (?_ : K _ _ _ _ _ _)
    refine hK _ _ _ _ _ _ (r_callV rfl (fun _ => rfl) rfl ⟨rfl, by show kc + 2 + 0 ≤ 601024; omega, by show ks + 12 + 0 ≤ 7293034; omega⟩ (kX7_thrown (X := wX P2 R2 u v w kb f g e) ?_))
    show K 1760 _ [.int (nI 0)] (b, LW P2 R2 u v w kb f g e A2 mk ro2 nx pi kp km (nI 0) oo2 od) (kc + 2) (ks + 12)
    iterate 1 refine hK _ _ _ _ _ _ (?_ : K _ _ _ _ _ _)
    refine hK _ _ _ _ _ _ (And.intro (fun _ => ?_) (fun c9 => absurd (rfl) c9))
    iterate 1 refine hK _ _ _ _ _ _ (?_ : K _ _ _ _ _ _)
    refine hK _ _ _ _ _ _ (And.intro (fun _ => ?_) (fun c9 => absurd (rfl) c9))
    iterate 2 refine hK _ _ _ _ _ _ (?_ : K _ _ _ _ _ _)
    refine hK _ _ _ _ _ _ (r_lald' (v := x9.toInt64) rfl (N := 1) (f := oo2) rfl (vp_in_nI (by decide) (by decide)) (by rw [nI_clamp (by decide)]; exact hoo) (?_ : K _ _ _ _ _ _))
    iterate 3 refine hK _ _ _ _ _ _ (?_ : K _ _ _ _ _ _)
    refine hK _ _ _ _ _ _ (And.intro (fun _ => ?_) (fun c9 => absurd ((lg_cmp_eq _ _).mpr rfl) c9))
    iterate 3 refine hK _ _ _ _ _ _ (?_ : K _ _ _ _ _ _)
    show K 28 ((5, .int (nI (5 * j) + nI 5)) :: _) _ _ _ _
    rw [nI_add (5 * j) 5, show 5 * j + 5 = 5 * (j + 1) by omega]
    exact hW _ _ [(5, .int (nI (5 * (j + 1)))), (4, .ref 32), (3, .ref 31), (2, .ref 24), (1, .ref 1), (0, .ref 0)] _ _ _ _ (by simp) (ih _ _ _ _ _ _ _ _ _ _ _ _ _ _ _ _ _ _ _ _ _ _ hJ hA2 hR2 (by omega) (by omega))

set_option maxRecDepth 10000 in
/-- case 21: isSame -/
theorem lc_isSame {S : Nat × (Nat → Int32)} {d : Nat} {Q : eQ} {K : eK} (hK : ∀ (pc : Nat) (ls : eL) (st : List Value) (h : eH) (kc ks : Nat), eStep S MT (okCall S MT (d + 9)) ML_law (d + 9 + 1) Q K pc ls st h kc ks → K pc ls st h kc ks) (hW : ∀ (pc : Nat) (ls ls2 : eL) (st : List Value) (h : eH) (kc ks : Nat), (∀ q ∈ ls2, q ∈ ls) → K pc ls2 st h kc ks → K pc ls st h kc ks) {j : Nat} (h5 : 5 * j + 5 ≤ S.1) (hS : S.1 ≤ 2560) (ih : LN K (j + 1)) {b : Bool} {P : Nat → Nat → Bool} {R u v w : Nat → Bool} {kb : Nat → Nat} {f g e : Nat → Int32} {A mk ro nx pi : Nat → Int32} {kp : Nat → Int64} {km th : Int32} {oo : Nat → Int64} {od : Nat → UInt64} {kc ks : Nat} (hI : IvC P R) (hA : MI P A) (hR : RI R ro) (hkc : kc ≤ 42 + 7 * j) (hks : ks ≤ 1715 + 42 * j) : K 1787 [(5, .int (nI (5 * j))), (4, .ref 32), (3, .ref 31), (2, .ref 24), (1, .ref 1), (0, .ref 0)] [] (b, LW P R u v w kb f g e A mk ro nx pi kp km th oo od) kc ks := by
  iterate 5 refine hK _ _ _ _ _ _ (?_ : K _ _ _ _ _ _)
  refine hK _ _ _ _ _ _ (r_sld rfl (i := 5 * j + 1) (nI_add _ _) (by omega) (by omega) (?_ : K _ _ _ _ _ _))
  iterate 4 refine hK _ _ _ _ _ _ (?_ : K _ _ _ _ _ _)
  refine hK _ _ _ _ _ _ (r_sld rfl (i := 5 * j + 2) (nI_add _ _) (by omega) (by omega) (?_ : K _ _ _ _ _ _))
  iterate 1 refine hK _ _ _ _ _ _ (?_ : K _ _ _ _ _ _)
  rcases ho : o_isSame P R (S.2 (5 * j + 1)) (S.2 (5 * j + 2)) with E | ⟨r9, P2, R2⟩
  · skip
    refine hK _ _ _ _ _ _ (r_callN rfl (fun _ => rfl) ⟨rfl, by show kc + 2 ≤ 601024; omega, by show ks + 12 ≤ 7293034; omega⟩ (kL_isSame hI ho (fun u v w kb f g e => ?_)))
    show K 1804 _ [.int (nI (cmA E))] (false, LW P R u v w kb f g e A mk ro nx pi kp km th oo od) (kc + 2) (ks + 12)
    iterate 6 refine hK _ _ _ _ _ _ (?_ : K _ _ _ _ _ _)
    refine hK _ _ _ _ _ _ (r_sld rfl (i := 5 * j + 1) (nI_add _ _) (by omega) (by omega) (?_ : K _ _ _ _ _ _))
    iterate 4 refine hK _ _ _ _ _ _ (?_ : K _ _ _ _ _ _)
    refine hK _ _ _ _ _ _ (r_sld rfl (i := 5 * j + 2) (nI_add _ _) (by omega) (by omega) (?_ : K _ _ _ _ _ _))
    refine hK _ _ _ _ _ _ (r_callV rfl (fun _ => rfl) rfl ⟨rfl, by show kc + 2 + 0 ≤ 601024; omega, by show ks + 12 + 0 ≤ 7293034; omega⟩ (kX7_isSame (X := wX P R u v w kb f g e) hI hA hR (mqe ho (fun mk nx pi kp km => ?_))))
    show K 1822 _ [.int (nI 0)] (false, LW P R u v w kb f g e A mk ro nx pi kp km (nI (cmA E)) oo od) (kc + 2) (ks + 12)
    iterate 2 refine hK _ _ _ _ _ _ (?_ : K _ _ _ _ _ _)
    refine hK _ _ _ _ _ _ (r_callV rfl (fun _ => rfl) rfl ⟨rfl, by show kc + 2 + 0 ≤ 601024; omega, by show ks + 12 + 0 ≤ 7293034; omega⟩ (kX7_thrown (X := wX P R u v w kb f g e) ?_))
    show K 1828 _ [.int (nI (cmA E))] (false, LW P R u v w kb f g e A mk ro nx pi kp km (nI (cmA E)) oo od) (kc + 2) (ks + 12)
    iterate 1 refine hK _ _ _ _ _ _ (?_ : K _ _ _ _ _ _)
    refine hK _ _ _ _ _ _ (And.intro (fun _ => ?_) (fun c9 => absurd (rfl) c9))
    iterate 1 refine hK _ _ _ _ _ _ (?_ : K _ _ _ _ _ _)
    refine hK _ _ _ _ _ _ (And.intro (fun c9 => absurd c9 (cmA_n E)) (fun _ => ?_))
    iterate 3 refine hK _ _ _ _ _ _ (?_ : K _ _ _ _ _ _)
    show K 28 ((5, .int (nI (5 * j) + nI 5)) :: _) _ _ _ _
    rw [nI_add (5 * j) 5, show 5 * j + 5 = 5 * (j + 1) by omega]
    exact hW _ _ [(5, .int (nI (5 * (j + 1)))), (4, .ref 32), (3, .ref 31), (2, .ref 24), (1, .ref 1), (0, .ref 0)] _ _ _ _ (by simp) (ih _ _ _ _ _ _ _ _ _ _ _ _ _ _ _ _ _ _ _ _ _ _ hI hA hR (by omega) (by omega))
  · skip
    have hk := oK_isSame (P := P) (R := R) (x := S.2 (5 * j + 1)) (y := S.2 (5 * j + 2))
    rw [ho] at hk
    obtain ⟨z9, rfl⟩ := hk
    have hJ := oJ_isSame hI (x := S.2 (5 * j + 1)) (y := S.2 (5 * j + 2))
    rw [ho] at hJ
    have hJ : IvC P2 R2 := hJ
    refine hK _ _ _ _ _ _ (r_callN rfl (fun _ => rfl) ⟨rfl, by show kc + 2 ≤ 601024; omega, by show ks + 12 ≤ 7293034; omega⟩ (kL_isSame hI ho (fun u v w kb f g e oo2 hoo => ?_)))
    show K 1804 _ [.int (nI 0)] (b, LW P2 R2 u v w kb f g e A mk ro nx pi kp km th oo2 od) (kc + 2) (ks + 12)
    iterate 6 refine hK _ _ _ _ _ _ (?_ : K _ _ _ _ _ _)
    refine hK _ _ _ _ _ _ (r_sld rfl (i := 5 * j + 1) (nI_add _ _) (by omega) (by omega) (?_ : K _ _ _ _ _ _))
    iterate 4 refine hK _ _ _ _ _ _ (?_ : K _ _ _ _ _ _)
    refine hK _ _ _ _ _ _ (r_sld rfl (i := 5 * j + 2) (nI_add _ _) (by omega) (by omega) (?_ : K _ _ _ _ _ _))
    refine hK _ _ _ _ _ _ (r_callV rfl (fun _ => rfl) rfl ⟨rfl, by show kc + 2 + 0 ≤ 601024; omega, by show ks + 12 + 0 ≤ 7293034; omega⟩ (kX7_isSame (X := wX P2 R2 u v w kb f g e) hI hA hR (mqe ho (fun A2 mk ro2 nx pi kp km hA2 hR2 => ?_))))
    show K 1822 _ [.int (b2i z9)] (b, LW P2 R2 u v w kb f g e A2 mk ro2 nx pi kp km (nI 0) oo2 od) (kc + 2) (ks + 12)
    iterate 2 refine hK _ _ _ _ _ _ (?_ : K _ _ _ _ _ _)
    refine hK _ _ _ _ _ _ (r_callV rfl (fun _ => rfl) rfl ⟨rfl, by show kc + 2 + 0 ≤ 601024; omega, by show ks + 12 + 0 ≤ 7293034; omega⟩ (kX7_thrown (X := wX P2 R2 u v w kb f g e) ?_))
    show K 1828 _ [.int (nI 0)] (b, LW P2 R2 u v w kb f g e A2 mk ro2 nx pi kp km (nI 0) oo2 od) (kc + 2) (ks + 12)
    iterate 1 refine hK _ _ _ _ _ _ (?_ : K _ _ _ _ _ _)
    refine hK _ _ _ _ _ _ (And.intro (fun _ => ?_) (fun c9 => absurd (rfl) c9))
    iterate 1 refine hK _ _ _ _ _ _ (?_ : K _ _ _ _ _ _)
    refine hK _ _ _ _ _ _ (And.intro (fun _ => ?_) (fun c9 => absurd (rfl) c9))
    iterate 2 refine hK _ _ _ _ _ _ (?_ : K _ _ _ _ _ _)
    refine hK _ _ _ _ _ _ (r_lald' (v := (b2i z9).toInt64) rfl (N := 1) (f := oo2) rfl (vp_in_nI (by decide) (by decide)) (by rw [nI_clamp (by decide)]; exact hoo) (?_ : K _ _ _ _ _ _))
    iterate 1 refine hK _ _ _ _ _ _ (?_ : K _ _ _ _ _ _)
    refine hK _ _ _ _ _ _ (And.intro (fun c1 => ?_) (fun c1 => ?_))
    · skip
      iterate 2 refine hK _ _ _ _ _ _ (?_ : K _ _ _ _ _ _)
      refine hK _ _ _ _ _ _ (And.intro (fun _ => ?_) (fun c9 => absurd ((lg_cmp_eq _ _).mpr (by rw [b2L, b2i_0.mp c1]; rfl)) c9))
      iterate 3 refine hK _ _ _ _ _ _ (?_ : K _ _ _ _ _ _)
      show K 28 ((5, .int (nI (5 * j) + nI 5)) :: _) _ _ _ _
      rw [nI_add (5 * j) 5, show 5 * j + 5 = 5 * (j + 1) by omega]
      exact hW _ _ [(5, .int (nI (5 * (j + 1)))), (4, .ref 32), (3, .ref 31), (2, .ref 24), (1, .ref 1), (0, .ref 0)] _ _ _ _ (by simp) (ih _ _ _ _ _ _ _ _ _ _ _ _ _ _ _ _ _ _ _ _ _ _ hJ hA2 hR2 (by omega) (by omega))
    · skip
      iterate 3 refine hK _ _ _ _ _ _ (?_ : K _ _ _ _ _ _)
      refine hK _ _ _ _ _ _ (And.intro (fun _ => ?_) (fun c9 => absurd ((lg_cmp_eq _ _).mpr (by rw [b2L, show z9 = true from Bool.of_not_eq_false fun c8 => c1 (b2i_0.mpr c8)]; rfl)) c9))
      iterate 3 refine hK _ _ _ _ _ _ (?_ : K _ _ _ _ _ _)
      show K 28 ((5, .int (nI (5 * j) + nI 5)) :: _) _ _ _ _
      rw [nI_add (5 * j) 5, show 5 * j + 5 = 5 * (j + 1) by omega]
      exact hW _ _ [(5, .int (nI (5 * (j + 1)))), (4, .ref 32), (3, .ref 31), (2, .ref 24), (1, .ref 1), (0, .ref 0)] _ _ _ _ (by simp) (ih _ _ _ _ _ _ _ _ _ _ _ _ _ _ _ _ _ _ _ _ _ _ hJ hA2 hR2 (by omega) (by omega))

set_option maxRecDepth 10000 in
/-- case 22: contains -/
theorem lc_contains {S : Nat × (Nat → Int32)} {d : Nat} {Q : eQ} {K : eK} (hK : ∀ (pc : Nat) (ls : eL) (st : List Value) (h : eH) (kc ks : Nat), eStep S MT (okCall S MT (d + 9)) ML_law (d + 9 + 1) Q K pc ls st h kc ks → K pc ls st h kc ks) (hW : ∀ (pc : Nat) (ls ls2 : eL) (st : List Value) (h : eH) (kc ks : Nat), (∀ q ∈ ls2, q ∈ ls) → K pc ls2 st h kc ks → K pc ls st h kc ks) {j : Nat} (h5 : 5 * j + 5 ≤ S.1) (hS : S.1 ≤ 2560) (ih : LN K (j + 1)) {b : Bool} {P : Nat → Nat → Bool} {R u v w : Nat → Bool} {kb : Nat → Nat} {f g e : Nat → Int32} {A mk ro nx pi : Nat → Int32} {kp : Nat → Int64} {km th : Int32} {oo : Nat → Int64} {od : Nat → UInt64} {kc ks : Nat} (hI : IvC P R) (hA : MI P A) (hR : RI R ro) (hkc : kc ≤ 42 + 7 * j) (hks : ks ≤ 1715 + 42 * j) : K 1862 [(5, .int (nI (5 * j))), (4, .ref 32), (3, .ref 31), (2, .ref 24), (1, .ref 1), (0, .ref 0)] [] (b, LW P R u v w kb f g e A mk ro nx pi kp km th oo od) kc ks := by
  iterate 5 refine hK _ _ _ _ _ _ (?_ : K _ _ _ _ _ _)
  refine hK _ _ _ _ _ _ (r_sld rfl (i := 5 * j + 1) (nI_add _ _) (by omega) (by omega) (?_ : K _ _ _ _ _ _))
  iterate 4 refine hK _ _ _ _ _ _ (?_ : K _ _ _ _ _ _)
  refine hK _ _ _ _ _ _ (r_sld rfl (i := 5 * j + 2) (nI_add _ _) (by omega) (by omega) (?_ : K _ _ _ _ _ _))
  iterate 1 refine hK _ _ _ _ _ _ (?_ : K _ _ _ _ _ _)
  rcases ho : o_contains P R (S.2 (5 * j + 1)) (S.2 (5 * j + 2)) with E | ⟨r9, P2, R2⟩
  · skip
    refine hK _ _ _ _ _ _ (r_callN rfl (fun _ => rfl) ⟨rfl, by show kc + 2 ≤ 601024; omega, by show ks + 12 ≤ 7293034; omega⟩ (kL_contains hI ho (fun u v w kb f g e => ?_)))
    show K 1879 _ [.int (nI (cmA E))] (false, LW P R u v w kb f g e A mk ro nx pi kp km th oo od) (kc + 2) (ks + 12)
    iterate 6 refine hK _ _ _ _ _ _ (?_ : K _ _ _ _ _ _)
    refine hK _ _ _ _ _ _ (r_sld rfl (i := 5 * j + 1) (nI_add _ _) (by omega) (by omega) (?_ : K _ _ _ _ _ _))
    iterate 4 refine hK _ _ _ _ _ _ (?_ : K _ _ _ _ _ _)
    refine hK _ _ _ _ _ _ (r_sld rfl (i := 5 * j + 2) (nI_add _ _) (by omega) (by omega) (?_ : K _ _ _ _ _ _))
    refine hK _ _ _ _ _ _ (r_callV rfl (fun _ => rfl) rfl ⟨rfl, by show kc + 2 + 0 ≤ 601024; omega, by show ks + 12 + 0 ≤ 7293034; omega⟩ (kX7_contains (X := wX P R u v w kb f g e) hI hA hR (mqe ho (fun mk nx pi kp km => ?_))))
    show K 1897 _ [.int (nI 0)] (false, LW P R u v w kb f g e A mk ro nx pi kp km (nI (cmA E)) oo od) (kc + 2) (ks + 12)
    iterate 2 refine hK _ _ _ _ _ _ (?_ : K _ _ _ _ _ _)
    refine hK _ _ _ _ _ _ (r_callV rfl (fun _ => rfl) rfl ⟨rfl, by show kc + 2 + 0 ≤ 601024; omega, by show ks + 12 + 0 ≤ 7293034; omega⟩ (kX7_thrown (X := wX P R u v w kb f g e) ?_))
    show K 1903 _ [.int (nI (cmA E))] (false, LW P R u v w kb f g e A mk ro nx pi kp km (nI (cmA E)) oo od) (kc + 2) (ks + 12)
    iterate 1 refine hK _ _ _ _ _ _ (?_ : K _ _ _ _ _ _)
    refine hK _ _ _ _ _ _ (And.intro (fun _ => ?_) (fun c9 => absurd (rfl) c9))
    iterate 1 refine hK _ _ _ _ _ _ (?_ : K _ _ _ _ _ _)
    refine hK _ _ _ _ _ _ (And.intro (fun c9 => absurd c9 (cmA_n E)) (fun _ => ?_))
    iterate 3 refine hK _ _ _ _ _ _ (?_ : K _ _ _ _ _ _)
    show K 28 ((5, .int (nI (5 * j) + nI 5)) :: _) _ _ _ _
    rw [nI_add (5 * j) 5, show 5 * j + 5 = 5 * (j + 1) by omega]
    exact hW _ _ [(5, .int (nI (5 * (j + 1)))), (4, .ref 32), (3, .ref 31), (2, .ref 24), (1, .ref 1), (0, .ref 0)] _ _ _ _ (by simp) (ih _ _ _ _ _ _ _ _ _ _ _ _ _ _ _ _ _ _ _ _ _ _ hI hA hR (by omega) (by omega))
  · skip
    have hk := oK_contains (P := P) (R := R) (x := S.2 (5 * j + 1)) (y := S.2 (5 * j + 2))
    rw [ho] at hk
    obtain ⟨z9, rfl⟩ := hk
    have hJ := oJ_contains hI (x := S.2 (5 * j + 1)) (y := S.2 (5 * j + 2))
    rw [ho] at hJ
    have hJ : IvC P2 R2 := hJ
    refine hK _ _ _ _ _ _ (r_callN rfl (fun _ => rfl) ⟨rfl, by show kc + 2 ≤ 601024; omega, by show ks + 12 ≤ 7293034; omega⟩ (kL_contains hI ho (fun u v w kb f g e oo2 hoo => ?_)))
    show K 1879 _ [.int (nI 0)] (b, LW P2 R2 u v w kb f g e A mk ro nx pi kp km th oo2 od) (kc + 2) (ks + 12)
    iterate 6 refine hK _ _ _ _ _ _ (?_ : K _ _ _ _ _ _)
    refine hK _ _ _ _ _ _ (r_sld rfl (i := 5 * j + 1) (nI_add _ _) (by omega) (by omega) (?_ : K _ _ _ _ _ _))
    iterate 4 refine hK _ _ _ _ _ _ (?_ : K _ _ _ _ _ _)
    refine hK _ _ _ _ _ _ (r_sld rfl (i := 5 * j + 2) (nI_add _ _) (by omega) (by omega) (?_ : K _ _ _ _ _ _))
    refine hK _ _ _ _ _ _ (r_callV rfl (fun _ => rfl) rfl ⟨rfl, by show kc + 2 + 0 ≤ 601024; omega, by show ks + 12 + 0 ≤ 7293034; omega⟩ (kX7_contains (X := wX P2 R2 u v w kb f g e) hI hA hR (mqe ho (fun A2 mk ro2 nx pi kp km hA2 hR2 => ?_))))
    show K 1897 _ [.int (b2i z9)] (b, LW P2 R2 u v w kb f g e A2 mk ro2 nx pi kp km (nI 0) oo2 od) (kc + 2) (ks + 12)
    iterate 2 refine hK _ _ _ _ _ _ (?_ : K _ _ _ _ _ _)
    refine hK _ _ _ _ _ _ (r_callV rfl (fun _ => rfl) rfl ⟨rfl, by show kc + 2 + 0 ≤ 601024; omega, by show ks + 12 + 0 ≤ 7293034; omega⟩ (kX7_thrown (X := wX P2 R2 u v w kb f g e) ?_))
    show K 1903 _ [.int (nI 0)] (b, LW P2 R2 u v w kb f g e A2 mk ro2 nx pi kp km (nI 0) oo2 od) (kc + 2) (ks + 12)
    iterate 1 refine hK _ _ _ _ _ _ (?_ : K _ _ _ _ _ _)
    refine hK _ _ _ _ _ _ (And.intro (fun _ => ?_) (fun c9 => absurd (rfl) c9))
    iterate 1 refine hK _ _ _ _ _ _ (?_ : K _ _ _ _ _ _)
    refine hK _ _ _ _ _ _ (And.intro (fun _ => ?_) (fun c9 => absurd (rfl) c9))
    iterate 2 refine hK _ _ _ _ _ _ (?_ : K _ _ _ _ _ _)
    refine hK _ _ _ _ _ _ (r_lald' (v := (b2i z9).toInt64) rfl (N := 1) (f := oo2) rfl (vp_in_nI (by decide) (by decide)) (by rw [nI_clamp (by decide)]; exact hoo) (?_ : K _ _ _ _ _ _))
    iterate 1 refine hK _ _ _ _ _ _ (?_ : K _ _ _ _ _ _)
    refine hK _ _ _ _ _ _ (And.intro (fun c1 => ?_) (fun c1 => ?_))
    · skip
      iterate 2 refine hK _ _ _ _ _ _ (?_ : K _ _ _ _ _ _)
      refine hK _ _ _ _ _ _ (And.intro (fun _ => ?_) (fun c9 => absurd ((lg_cmp_eq _ _).mpr (by rw [b2L, b2i_0.mp c1]; rfl)) c9))
      iterate 3 refine hK _ _ _ _ _ _ (?_ : K _ _ _ _ _ _)
      show K 28 ((5, .int (nI (5 * j) + nI 5)) :: _) _ _ _ _
      rw [nI_add (5 * j) 5, show 5 * j + 5 = 5 * (j + 1) by omega]
      exact hW _ _ [(5, .int (nI (5 * (j + 1)))), (4, .ref 32), (3, .ref 31), (2, .ref 24), (1, .ref 1), (0, .ref 0)] _ _ _ _ (by simp) (ih _ _ _ _ _ _ _ _ _ _ _ _ _ _ _ _ _ _ _ _ _ _ hJ hA2 hR2 (by omega) (by omega))
    · skip
      iterate 3 refine hK _ _ _ _ _ _ (?_ : K _ _ _ _ _ _)
      refine hK _ _ _ _ _ _ (And.intro (fun _ => ?_) (fun c9 => absurd ((lg_cmp_eq _ _).mpr (by rw [b2L, show z9 = true from Bool.of_not_eq_false fun c8 => c1 (b2i_0.mpr c8)]; rfl)) c9))
      iterate 3 refine hK _ _ _ _ _ _ (?_ : K _ _ _ _ _ _)
      show K 28 ((5, .int (nI (5 * j) + nI 5)) :: _) _ _ _ _
      rw [nI_add (5 * j) 5, show 5 * j + 5 = 5 * (j + 1) by omega]
      exact hW _ _ [(5, .int (nI (5 * (j + 1)))), (4, .ref 32), (3, .ref 31), (2, .ref 24), (1, .ref 1), (0, .ref 0)] _ _ _ _ (by simp) (ih _ _ _ _ _ _ _ _ _ _ _ _ _ _ _ _ _ _ _ _ _ _ hJ hA2 hR2 (by omega) (by omega))

set_option maxRecDepth 10000 in
/-- case 23: pieces -/
theorem lc_pieces {S : Nat × (Nat → Int32)} {d : Nat} {Q : eQ} {K : eK} (hK : ∀ (pc : Nat) (ls : eL) (st : List Value) (h : eH) (kc ks : Nat), eStep S MT (okCall S MT (d + 9)) ML_law (d + 9 + 1) Q K pc ls st h kc ks → K pc ls st h kc ks) (hW : ∀ (pc : Nat) (ls ls2 : eL) (st : List Value) (h : eH) (kc ks : Nat), (∀ q ∈ ls2, q ∈ ls) → K pc ls2 st h kc ks → K pc ls st h kc ks) {j : Nat} (h5 : 5 * j + 5 ≤ S.1) (hS : S.1 ≤ 2560) (ih : LN K (j + 1)) {b : Bool} {P : Nat → Nat → Bool} {R u v w : Nat → Bool} {kb : Nat → Nat} {f g e : Nat → Int32} {A mk ro nx pi : Nat → Int32} {kp : Nat → Int64} {km th : Int32} {oo : Nat → Int64} {od : Nat → UInt64} {kc ks : Nat} (hI : IvC P R) (hA : MI P A) (hR : RI R ro) (hkc : kc ≤ 42 + 7 * j) (hks : ks ≤ 1715 + 42 * j) : K 1937 [(5, .int (nI (5 * j))), (4, .ref 32), (3, .ref 31), (2, .ref 24), (1, .ref 1), (0, .ref 0)] [] (b, LW P R u v w kb f g e A mk ro nx pi kp km th oo od) kc ks := by
  iterate 5 refine hK _ _ _ _ _ _ (?_ : K _ _ _ _ _ _)
  refine hK _ _ _ _ _ _ (r_sld rfl (i := 5 * j + 1) (nI_add _ _) (by omega) (by omega) (?_ : K _ _ _ _ _ _))
  iterate 1 refine hK _ _ _ _ _ _ (?_ : K _ _ _ _ _ _)
  rcases ho : o_pieces P R (S.2 (5 * j + 1)) with E | ⟨r9, P2, R2⟩
  · skip
    refine hK _ _ _ _ _ _ (r_callN rfl (fun _ => rfl) ⟨rfl, by show kc + 1 ≤ 601024; omega, by show ks + 6 ≤ 7293034; omega⟩ (kL_pieces hI ho (fun u v w kb f g e => ?_)))
    show K 1948 _ [.int (nI (cmA E))] (false, LW P R u v w kb f g e A mk ro nx pi kp km th oo od) (kc + 1) (ks + 6)
    iterate 6 refine hK _ _ _ _ _ _ (?_ : K _ _ _ _ _ _)
    refine hK _ _ _ _ _ _ (r_sld rfl (i := 5 * j + 1) (nI_add _ _) (by omega) (by omega) (?_ : K _ _ _ _ _ _))
    refine hK _ _ _ _ _ _ (r_callV rfl (fun _ => rfl) rfl ⟨rfl, by show kc + 1 + 0 ≤ 601024; omega, by show ks + 6 + 0 ≤ 7293034; omega⟩ (kX7_pieces (X := wX P R u v w kb f g e) hI hA hR (mqe ho (fun mk nx pi kp km => ?_))))
    show K 1960 _ [.int (nI 0)] (false, LW P R u v w kb f g e A mk ro nx pi kp km (nI (cmA E)) oo od) (kc + 1) (ks + 6)
    iterate 2 refine hK _ _ _ _ _ _ (?_ : K _ _ _ _ _ _)
    refine hK _ _ _ _ _ _ (r_callV rfl (fun _ => rfl) rfl ⟨rfl, by show kc + 1 + 0 ≤ 601024; omega, by show ks + 6 + 0 ≤ 7293034; omega⟩ (kX7_thrown (X := wX P R u v w kb f g e) ?_))
    show K 1966 _ [.int (nI (cmA E))] (false, LW P R u v w kb f g e A mk ro nx pi kp km (nI (cmA E)) oo od) (kc + 1) (ks + 6)
    iterate 1 refine hK _ _ _ _ _ _ (?_ : K _ _ _ _ _ _)
    refine hK _ _ _ _ _ _ (And.intro (fun _ => ?_) (fun c9 => absurd (rfl) c9))
    iterate 1 refine hK _ _ _ _ _ _ (?_ : K _ _ _ _ _ _)
    refine hK _ _ _ _ _ _ (And.intro (fun c9 => absurd c9 (cmA_n E)) (fun _ => ?_))
    iterate 3 refine hK _ _ _ _ _ _ (?_ : K _ _ _ _ _ _)
    show K 28 ((5, .int (nI (5 * j) + nI 5)) :: _) _ _ _ _
    rw [nI_add (5 * j) 5, show 5 * j + 5 = 5 * (j + 1) by omega]
    exact hW _ _ [(5, .int (nI (5 * (j + 1)))), (4, .ref 32), (3, .ref 31), (2, .ref 24), (1, .ref 1), (0, .ref 0)] _ _ _ _ (by simp) (ih _ _ _ _ _ _ _ _ _ _ _ _ _ _ _ _ _ _ _ _ _ _ hI hA hR (by omega) (by omega))
  · skip
    have hk := oK_pieces (P := P) (R := R) (x := S.2 (5 * j + 1))
    rw [ho] at hk
    obtain ⟨x9, rfl⟩ := hk
    have hJ := oJ_pieces hI (x := S.2 (5 * j + 1))
    rw [ho] at hJ
    have hJ : IvC P2 R2 := hJ
    refine hK _ _ _ _ _ _ (r_callN rfl (fun _ => rfl) ⟨rfl, by show kc + 1 ≤ 601024; omega, by show ks + 6 ≤ 7293034; omega⟩ (kL_pieces hI ho (fun u v w kb f g e oo2 hoo => ?_)))
    show K 1948 _ [.int (nI 0)] (b, LW P2 R2 u v w kb f g e A mk ro nx pi kp km th oo2 od) (kc + 1) (ks + 6)
    iterate 6 refine hK _ _ _ _ _ _ (?_ : K _ _ _ _ _ _)
    refine hK _ _ _ _ _ _ (r_sld rfl (i := 5 * j + 1) (nI_add _ _) (by omega) (by omega) (?_ : K _ _ _ _ _ _))
    refine hK _ _ _ _ _ _ (r_callV rfl (fun _ => rfl) rfl ⟨rfl, by show kc + 1 + 0 ≤ 601024; omega, by show ks + 6 + 0 ≤ 7293034; omega⟩ (kX7_pieces (X := wX P2 R2 u v w kb f g e) hI hA hR (mqe ho (fun A2 mk ro2 nx pi kp km hA2 hR2 => ?_))))
    show K 1960 _ [.int x9] (b, LW P2 R2 u v w kb f g e A2 mk ro2 nx pi kp km (nI 0) oo2 od) (kc + 1) (ks + 6)
    iterate 2 refine hK _ _ _ _ _ _ (?_ : K _ _ _ _ _ _)
    refine hK _ _ _ _ _ _ (r_callV rfl (fun _ => rfl) rfl ⟨rfl, by show kc + 1 + 0 ≤ 601024; omega, by show ks + 6 + 0 ≤ 7293034; omega⟩ (kX7_thrown (X := wX P2 R2 u v w kb f g e) ?_))
    show K 1966 _ [.int (nI 0)] (b, LW P2 R2 u v w kb f g e A2 mk ro2 nx pi kp km (nI 0) oo2 od) (kc + 1) (ks + 6)
    iterate 1 refine hK _ _ _ _ _ _ (?_ : K _ _ _ _ _ _)
    refine hK _ _ _ _ _ _ (And.intro (fun _ => ?_) (fun c9 => absurd (rfl) c9))
    iterate 1 refine hK _ _ _ _ _ _ (?_ : K _ _ _ _ _ _)
    refine hK _ _ _ _ _ _ (And.intro (fun _ => ?_) (fun c9 => absurd (rfl) c9))
    iterate 2 refine hK _ _ _ _ _ _ (?_ : K _ _ _ _ _ _)
    refine hK _ _ _ _ _ _ (r_lald' (v := x9.toInt64) rfl (N := 1) (f := oo2) rfl (vp_in_nI (by decide) (by decide)) (by rw [nI_clamp (by decide)]; exact hoo) (?_ : K _ _ _ _ _ _))
    iterate 3 refine hK _ _ _ _ _ _ (?_ : K _ _ _ _ _ _)
    refine hK _ _ _ _ _ _ (And.intro (fun _ => ?_) (fun c9 => absurd ((lg_cmp_eq _ _).mpr rfl) c9))
    iterate 3 refine hK _ _ _ _ _ _ (?_ : K _ _ _ _ _ _)
    show K 28 ((5, .int (nI (5 * j) + nI 5)) :: _) _ _ _ _
    rw [nI_add (5 * j) 5, show 5 * j + 5 = 5 * (j + 1) by omega]
    exact hW _ _ [(5, .int (nI (5 * (j + 1)))), (4, .ref 32), (3, .ref 31), (2, .ref 24), (1, .ref 1), (0, .ref 0)] _ _ _ _ (by simp) (ih _ _ _ _ _ _ _ _ _ _ _ _ _ _ _ _ _ _ _ _ _ _ hJ hA2 hR2 (by omega) (by omega))

set_option maxRecDepth 10000 in
/-- case 24: areJoined -/
theorem lc_areJoined {S : Nat × (Nat → Int32)} {d : Nat} {Q : eQ} {K : eK} (hK : ∀ (pc : Nat) (ls : eL) (st : List Value) (h : eH) (kc ks : Nat), eStep S MT (okCall S MT (d + 9)) ML_law (d + 9 + 1) Q K pc ls st h kc ks → K pc ls st h kc ks) (hW : ∀ (pc : Nat) (ls ls2 : eL) (st : List Value) (h : eH) (kc ks : Nat), (∀ q ∈ ls2, q ∈ ls) → K pc ls2 st h kc ks → K pc ls st h kc ks) {j : Nat} (h5 : 5 * j + 5 ≤ S.1) (hS : S.1 ≤ 2560) (ih : LN K (j + 1)) {b : Bool} {P : Nat → Nat → Bool} {R u v w : Nat → Bool} {kb : Nat → Nat} {f g e : Nat → Int32} {A mk ro nx pi : Nat → Int32} {kp : Nat → Int64} {km th : Int32} {oo : Nat → Int64} {od : Nat → UInt64} {kc ks : Nat} (hI : IvC P R) (hA : MI P A) (hR : RI R ro) (hkc : kc ≤ 42 + 7 * j) (hks : ks ≤ 1715 + 42 * j) : K 1993 [(5, .int (nI (5 * j))), (4, .ref 32), (3, .ref 31), (2, .ref 24), (1, .ref 1), (0, .ref 0)] [] (b, LW P R u v w kb f g e A mk ro nx pi kp km th oo od) kc ks := by
  iterate 5 refine hK _ _ _ _ _ _ (?_ : K _ _ _ _ _ _)
  refine hK _ _ _ _ _ _ (r_sld rfl (i := 5 * j + 1) (nI_add _ _) (by omega) (by omega) (?_ : K _ _ _ _ _ _))
  iterate 4 refine hK _ _ _ _ _ _ (?_ : K _ _ _ _ _ _)
  refine hK _ _ _ _ _ _ (r_sld rfl (i := 5 * j + 2) (nI_add _ _) (by omega) (by omega) (?_ : K _ _ _ _ _ _))
  iterate 4 refine hK _ _ _ _ _ _ (?_ : K _ _ _ _ _ _)
  refine hK _ _ _ _ _ _ (r_sld rfl (i := 5 * j + 3) (nI_add _ _) (by omega) (by omega) (?_ : K _ _ _ _ _ _))
  iterate 1 refine hK _ _ _ _ _ _ (?_ : K _ _ _ _ _ _)
  rcases ho : o_areJoined P R (S.2 (5 * j + 1)) (S.2 (5 * j + 2)) (S.2 (5 * j + 3)) with E | ⟨r9, P2, R2⟩
  · skip
    refine hK _ _ _ _ _ _ (r_callN rfl (fun _ => rfl) ⟨rfl, by show kc + 5 ≤ 601024; omega, by show ks + 30 ≤ 7293034; omega⟩ (kL_areJoined hI ho (fun u v w kb f g e => ?_)))
    show K 2016 _ [.int (nI (cmA E))] (false, LW P R u v w kb f g e A mk ro nx pi kp km th oo od) (kc + 5) (ks + 30)
    iterate 6 refine hK _ _ _ _ _ _ (?_ : K _ _ _ _ _ _)
    refine hK _ _ _ _ _ _ (r_sld rfl (i := 5 * j + 1) (nI_add _ _) (by omega) (by omega) (?_ : K _ _ _ _ _ _))
    iterate 4 refine hK _ _ _ _ _ _ (?_ : K _ _ _ _ _ _)
    refine hK _ _ _ _ _ _ (r_sld rfl (i := 5 * j + 2) (nI_add _ _) (by omega) (by omega) (?_ : K _ _ _ _ _ _))
    iterate 4 refine hK _ _ _ _ _ _ (?_ : K _ _ _ _ _ _)
    refine hK _ _ _ _ _ _ (r_sld rfl (i := 5 * j + 3) (nI_add _ _) (by omega) (by omega) (?_ : K _ _ _ _ _ _))
    refine hK _ _ _ _ _ _ (r_callV rfl (fun _ => rfl) rfl ⟨rfl, by show kc + 5 + 0 ≤ 601024; omega, by show ks + 30 + 0 ≤ 7293034; omega⟩ (kX7_areJoined (X := wX P R u v w kb f g e) hI hA hR (mqe ho (fun mk nx pi kp km => ?_))))
    show K 2040 _ [.int (nI 0)] (false, LW P R u v w kb f g e A mk ro nx pi kp km (nI (cmA E)) oo od) (kc + 5) (ks + 30)
    iterate 2 refine hK _ _ _ _ _ _ (?_ : K _ _ _ _ _ _)
    refine hK _ _ _ _ _ _ (r_callV rfl (fun _ => rfl) rfl ⟨rfl, by show kc + 5 + 0 ≤ 601024; omega, by show ks + 30 + 0 ≤ 7293034; omega⟩ (kX7_thrown (X := wX P R u v w kb f g e) ?_))
    show K 2046 _ [.int (nI (cmA E))] (false, LW P R u v w kb f g e A mk ro nx pi kp km (nI (cmA E)) oo od) (kc + 5) (ks + 30)
    iterate 1 refine hK _ _ _ _ _ _ (?_ : K _ _ _ _ _ _)
    refine hK _ _ _ _ _ _ (And.intro (fun _ => ?_) (fun c9 => absurd (rfl) c9))
    iterate 1 refine hK _ _ _ _ _ _ (?_ : K _ _ _ _ _ _)
    refine hK _ _ _ _ _ _ (And.intro (fun c9 => absurd c9 (cmA_n E)) (fun _ => ?_))
    iterate 3 refine hK _ _ _ _ _ _ (?_ : K _ _ _ _ _ _)
    show K 28 ((5, .int (nI (5 * j) + nI 5)) :: _) _ _ _ _
    rw [nI_add (5 * j) 5, show 5 * j + 5 = 5 * (j + 1) by omega]
    exact hW _ _ [(5, .int (nI (5 * (j + 1)))), (4, .ref 32), (3, .ref 31), (2, .ref 24), (1, .ref 1), (0, .ref 0)] _ _ _ _ (by simp) (ih _ _ _ _ _ _ _ _ _ _ _ _ _ _ _ _ _ _ _ _ _ _ hI hA hR (by omega) (by omega))
  · skip
    have hk := oK_areJoined (P := P) (R := R) (x := S.2 (5 * j + 1)) (y := S.2 (5 * j + 2)) (z := S.2 (5 * j + 3))
    rw [ho] at hk
    obtain ⟨z9, rfl⟩ := hk
    have hJ := oJ_areJoined hI (x := S.2 (5 * j + 1)) (y := S.2 (5 * j + 2)) (z := S.2 (5 * j + 3))
    rw [ho] at hJ
    have hJ : IvC P2 R2 := hJ
    refine hK _ _ _ _ _ _ (r_callN rfl (fun _ => rfl) ⟨rfl, by show kc + 5 ≤ 601024; omega, by show ks + 30 ≤ 7293034; omega⟩ (kL_areJoined hI ho (fun u v w kb f g e oo2 hoo => ?_)))
    show K 2016 _ [.int (nI 0)] (b, LW P2 R2 u v w kb f g e A mk ro nx pi kp km th oo2 od) (kc + 5) (ks + 30)
    iterate 6 refine hK _ _ _ _ _ _ (?_ : K _ _ _ _ _ _)
    refine hK _ _ _ _ _ _ (r_sld rfl (i := 5 * j + 1) (nI_add _ _) (by omega) (by omega) (?_ : K _ _ _ _ _ _))
    iterate 4 refine hK _ _ _ _ _ _ (?_ : K _ _ _ _ _ _)
    refine hK _ _ _ _ _ _ (r_sld rfl (i := 5 * j + 2) (nI_add _ _) (by omega) (by omega) (?_ : K _ _ _ _ _ _))
    iterate 4 refine hK _ _ _ _ _ _ (?_ : K _ _ _ _ _ _)
    refine hK _ _ _ _ _ _ (r_sld rfl (i := 5 * j + 3) (nI_add _ _) (by omega) (by omega) (?_ : K _ _ _ _ _ _))
    refine hK _ _ _ _ _ _ (r_callV rfl (fun _ => rfl) rfl ⟨rfl, by show kc + 5 + 0 ≤ 601024; omega, by show ks + 30 + 0 ≤ 7293034; omega⟩ (kX7_areJoined (X := wX P2 R2 u v w kb f g e) hI hA hR (mqe ho (fun A2 mk ro2 nx pi kp km hA2 hR2 => ?_))))
    show K 2040 _ [.int (b2i z9)] (b, LW P2 R2 u v w kb f g e A2 mk ro2 nx pi kp km (nI 0) oo2 od) (kc + 5) (ks + 30)
    iterate 2 refine hK _ _ _ _ _ _ (?_ : K _ _ _ _ _ _)
    refine hK _ _ _ _ _ _ (r_callV rfl (fun _ => rfl) rfl ⟨rfl, by show kc + 5 + 0 ≤ 601024; omega, by show ks + 30 + 0 ≤ 7293034; omega⟩ (kX7_thrown (X := wX P2 R2 u v w kb f g e) ?_))
    show K 2046 _ [.int (nI 0)] (b, LW P2 R2 u v w kb f g e A2 mk ro2 nx pi kp km (nI 0) oo2 od) (kc + 5) (ks + 30)
    iterate 1 refine hK _ _ _ _ _ _ (?_ : K _ _ _ _ _ _)
    refine hK _ _ _ _ _ _ (And.intro (fun _ => ?_) (fun c9 => absurd (rfl) c9))
    iterate 1 refine hK _ _ _ _ _ _ (?_ : K _ _ _ _ _ _)
    refine hK _ _ _ _ _ _ (And.intro (fun _ => ?_) (fun c9 => absurd (rfl) c9))
    iterate 2 refine hK _ _ _ _ _ _ (?_ : K _ _ _ _ _ _)
    refine hK _ _ _ _ _ _ (r_lald' (v := (b2i z9).toInt64) rfl (N := 1) (f := oo2) rfl (vp_in_nI (by decide) (by decide)) (by rw [nI_clamp (by decide)]; exact hoo) (?_ : K _ _ _ _ _ _))
    iterate 1 refine hK _ _ _ _ _ _ (?_ : K _ _ _ _ _ _)
    refine hK _ _ _ _ _ _ (And.intro (fun c1 => ?_) (fun c1 => ?_))
    · skip
      iterate 2 refine hK _ _ _ _ _ _ (?_ : K _ _ _ _ _ _)
      refine hK _ _ _ _ _ _ (And.intro (fun _ => ?_) (fun c9 => absurd ((lg_cmp_eq _ _).mpr (by rw [b2L, b2i_0.mp c1]; rfl)) c9))
      iterate 3 refine hK _ _ _ _ _ _ (?_ : K _ _ _ _ _ _)
      show K 28 ((5, .int (nI (5 * j) + nI 5)) :: _) _ _ _ _
      rw [nI_add (5 * j) 5, show 5 * j + 5 = 5 * (j + 1) by omega]
      exact hW _ _ [(5, .int (nI (5 * (j + 1)))), (4, .ref 32), (3, .ref 31), (2, .ref 24), (1, .ref 1), (0, .ref 0)] _ _ _ _ (by simp) (ih _ _ _ _ _ _ _ _ _ _ _ _ _ _ _ _ _ _ _ _ _ _ hJ hA2 hR2 (by omega) (by omega))
    · skip
      iterate 3 refine hK _ _ _ _ _ _ (?_ : K _ _ _ _ _ _)
      refine hK _ _ _ _ _ _ (And.intro (fun _ => ?_) (fun c9 => absurd ((lg_cmp_eq _ _).mpr (by rw [b2L, show z9 = true from Bool.of_not_eq_false fun c8 => c1 (b2i_0.mpr c8)]; rfl)) c9))
      iterate 3 refine hK _ _ _ _ _ _ (?_ : K _ _ _ _ _ _)
      show K 28 ((5, .int (nI (5 * j) + nI 5)) :: _) _ _ _ _
      rw [nI_add (5 * j) 5, show 5 * j + 5 = 5 * (j + 1) by omega]
      exact hW _ _ [(5, .int (nI (5 * (j + 1)))), (4, .ref 32), (3, .ref 31), (2, .ref 24), (1, .ref 1), (0, .ref 0)] _ _ _ _ (by simp) (ih _ _ _ _ _ _ _ _ _ _ _ _ _ _ _ _ _ _ _ _ _ _ hJ hA2 hR2 (by omega) (by omega))

set_option maxRecDepth 10000 in
/-- case 25: free -/
theorem lc_free {S : Nat × (Nat → Int32)} {d : Nat} {Q : eQ} {K : eK} (hK : ∀ (pc : Nat) (ls : eL) (st : List Value) (h : eH) (kc ks : Nat), eStep S MT (okCall S MT (d + 9)) ML_law (d + 9 + 1) Q K pc ls st h kc ks → K pc ls st h kc ks) (hW : ∀ (pc : Nat) (ls ls2 : eL) (st : List Value) (h : eH) (kc ks : Nat), (∀ q ∈ ls2, q ∈ ls) → K pc ls2 st h kc ks → K pc ls st h kc ks) {j : Nat} (h5 : 5 * j + 5 ≤ S.1) (hS : S.1 ≤ 2560) (ih : LN K (j + 1)) {b : Bool} {P : Nat → Nat → Bool} {R u v w : Nat → Bool} {kb : Nat → Nat} {f g e : Nat → Int32} {A mk ro nx pi : Nat → Int32} {kp : Nat → Int64} {km th : Int32} {oo : Nat → Int64} {od : Nat → UInt64} {kc ks : Nat} (hI : IvC P R) (hA : MI P A) (hR : RI R ro) (hkc : kc ≤ 42 + 7 * j) (hks : ks ≤ 1715 + 42 * j) : K 2080 [(5, .int (nI (5 * j))), (4, .ref 32), (3, .ref 31), (2, .ref 24), (1, .ref 1), (0, .ref 0)] [] (b, LW P R u v w kb f g e A mk ro nx pi kp km th oo od) kc ks := by
  iterate 5 refine hK _ _ _ _ _ _ (?_ : K _ _ _ _ _ _)
  refine hK _ _ _ _ _ _ (r_sld rfl (i := 5 * j + 1) (nI_add _ _) (by omega) (by omega) (?_ : K _ _ _ _ _ _))
  iterate 4 refine hK _ _ _ _ _ _ (?_ : K _ _ _ _ _ _)
  refine hK _ _ _ _ _ _ (r_sld rfl (i := 5 * j + 2) (nI_add _ _) (by omega) (by omega) (?_ : K _ _ _ _ _ _))
  iterate 1 refine hK _ _ _ _ _ _ (?_ : K _ _ _ _ _ _)
  rcases ho : o_free P R (S.2 (5 * j + 1)) (S.2 (5 * j + 2)) with E | ⟨r9, P2, R2⟩
  · skip
    refine hK _ _ _ _ _ _ (r_callN rfl (fun _ => rfl) ⟨rfl, by show kc + 2 ≤ 601024; omega, by show ks + 12 ≤ 7293034; omega⟩ (kL_free hI ho (fun u v w kb f g e => ?_)))
    show K 2097 _ [.int (nI (cmA E))] (false, LW P R u v w kb f g e A mk ro nx pi kp km th oo od) (kc + 2) (ks + 12)
    iterate 6 refine hK _ _ _ _ _ _ (?_ : K _ _ _ _ _ _)
    refine hK _ _ _ _ _ _ (r_sld rfl (i := 5 * j + 1) (nI_add _ _) (by omega) (by omega) (?_ : K _ _ _ _ _ _))
    iterate 4 refine hK _ _ _ _ _ _ (?_ : K _ _ _ _ _ _)
    refine hK _ _ _ _ _ _ (r_sld rfl (i := 5 * j + 2) (nI_add _ _) (by omega) (by omega) (?_ : K _ _ _ _ _ _))
    refine hK _ _ _ _ _ _ (r_callV rfl (fun _ => rfl) rfl ⟨rfl, by show kc + 2 + 0 ≤ 601024; omega, by show ks + 12 + 0 ≤ 7293034; omega⟩ (kX7_free (X := wX P R u v w kb f g e) hI hA hR (mqe ho (fun mk nx pi kp km => ?_))))
    show K 2115 _ [.int (nI 0)] (false, LW P R u v w kb f g e A mk ro nx pi kp km (nI (cmA E)) oo od) (kc + 2) (ks + 12)
    iterate 2 refine hK _ _ _ _ _ _ (?_ : K _ _ _ _ _ _)
    refine hK _ _ _ _ _ _ (r_callV rfl (fun _ => rfl) rfl ⟨rfl, by show kc + 2 + 0 ≤ 601024; omega, by show ks + 12 + 0 ≤ 7293034; omega⟩ (kX7_thrown (X := wX P R u v w kb f g e) ?_))
    show K 2121 _ [.int (nI (cmA E))] (false, LW P R u v w kb f g e A mk ro nx pi kp km (nI (cmA E)) oo od) (kc + 2) (ks + 12)
    iterate 1 refine hK _ _ _ _ _ _ (?_ : K _ _ _ _ _ _)
    refine hK _ _ _ _ _ _ (And.intro (fun _ => ?_) (fun c9 => absurd (rfl) c9))
    iterate 1 refine hK _ _ _ _ _ _ (?_ : K _ _ _ _ _ _)
    refine hK _ _ _ _ _ _ (And.intro (fun c9 => absurd c9 (cmA_n E)) (fun _ => ?_))
    iterate 3 refine hK _ _ _ _ _ _ (?_ : K _ _ _ _ _ _)
    show K 28 ((5, .int (nI (5 * j) + nI 5)) :: _) _ _ _ _
    rw [nI_add (5 * j) 5, show 5 * j + 5 = 5 * (j + 1) by omega]
    exact hW _ _ [(5, .int (nI (5 * (j + 1)))), (4, .ref 32), (3, .ref 31), (2, .ref 24), (1, .ref 1), (0, .ref 0)] _ _ _ _ (by simp) (ih _ _ _ _ _ _ _ _ _ _ _ _ _ _ _ _ _ _ _ _ _ _ hI hA hR (by omega) (by omega))
  · skip
    have hk := oK_free (P := P) (R := R) (x := S.2 (5 * j + 1)) (y := S.2 (5 * j + 2))
    rw [ho] at hk
    obtain ⟨x9, rfl⟩ := hk
    have hJ := oJ_free hI (x := S.2 (5 * j + 1)) (y := S.2 (5 * j + 2))
    rw [ho] at hJ
    have hJ : IvC P2 R2 := hJ
    refine hK _ _ _ _ _ _ (r_callN rfl (fun _ => rfl) ⟨rfl, by show kc + 2 ≤ 601024; omega, by show ks + 12 ≤ 7293034; omega⟩ (kL_free hI ho (fun u v w kb f g e oo2 hoo => ?_)))
    show K 2097 _ [.int (nI 0)] (b, LW P2 R2 u v w kb f g e A mk ro nx pi kp km th oo2 od) (kc + 2) (ks + 12)
    iterate 6 refine hK _ _ _ _ _ _ (?_ : K _ _ _ _ _ _)
    refine hK _ _ _ _ _ _ (r_sld rfl (i := 5 * j + 1) (nI_add _ _) (by omega) (by omega) (?_ : K _ _ _ _ _ _))
    iterate 4 refine hK _ _ _ _ _ _ (?_ : K _ _ _ _ _ _)
    refine hK _ _ _ _ _ _ (r_sld rfl (i := 5 * j + 2) (nI_add _ _) (by omega) (by omega) (?_ : K _ _ _ _ _ _))
    refine hK _ _ _ _ _ _ (r_callV rfl (fun _ => rfl) rfl ⟨rfl, by show kc + 2 + 0 ≤ 601024; omega, by show ks + 12 + 0 ≤ 7293034; omega⟩ (kX7_free (X := wX P2 R2 u v w kb f g e) hI hA hR (mqe ho (fun A2 mk ro2 nx pi kp km hA2 hR2 => ?_))))
    show K 2115 _ [.int x9] (b, LW P2 R2 u v w kb f g e A2 mk ro2 nx pi kp km (nI 0) oo2 od) (kc + 2) (ks + 12)
    iterate 2 refine hK _ _ _ _ _ _ (?_ : K _ _ _ _ _ _)
    refine hK _ _ _ _ _ _ (r_callV rfl (fun _ => rfl) rfl ⟨rfl, by show kc + 2 + 0 ≤ 601024; omega, by show ks + 12 + 0 ≤ 7293034; omega⟩ (kX7_thrown (X := wX P2 R2 u v w kb f g e) ?_))
    show K 2121 _ [.int (nI 0)] (b, LW P2 R2 u v w kb f g e A2 mk ro2 nx pi kp km (nI 0) oo2 od) (kc + 2) (ks + 12)
    iterate 1 refine hK _ _ _ _ _ _ (?_ : K _ _ _ _ _ _)
    refine hK _ _ _ _ _ _ (And.intro (fun _ => ?_) (fun c9 => absurd (rfl) c9))
    iterate 1 refine hK _ _ _ _ _ _ (?_ : K _ _ _ _ _ _)
    refine hK _ _ _ _ _ _ (And.intro (fun _ => ?_) (fun c9 => absurd (rfl) c9))
    iterate 2 refine hK _ _ _ _ _ _ (?_ : K _ _ _ _ _ _)
    refine hK _ _ _ _ _ _ (r_lald' (v := x9.toInt64) rfl (N := 1) (f := oo2) rfl (vp_in_nI (by decide) (by decide)) (by rw [nI_clamp (by decide)]; exact hoo) (?_ : K _ _ _ _ _ _))
    iterate 3 refine hK _ _ _ _ _ _ (?_ : K _ _ _ _ _ _)
    refine hK _ _ _ _ _ _ (And.intro (fun _ => ?_) (fun c9 => absurd ((lg_cmp_eq _ _).mpr rfl) c9))
    iterate 3 refine hK _ _ _ _ _ _ (?_ : K _ _ _ _ _ _)
    show K 28 ((5, .int (nI (5 * j) + nI 5)) :: _) _ _ _ _
    rw [nI_add (5 * j) 5, show 5 * j + 5 = 5 * (j + 1) by omega]
    exact hW _ _ [(5, .int (nI (5 * (j + 1)))), (4, .ref 32), (3, .ref 31), (2, .ref 24), (1, .ref 1), (0, .ref 0)] _ _ _ _ (by simp) (ih _ _ _ _ _ _ _ _ _ _ _ _ _ _ _ _ _ _ _ _ _ _ hJ hA2 hR2 (by omega) (by omega))

set_option maxRecDepth 10000 in
/-- case 26: holes -/
theorem lc_holes {S : Nat × (Nat → Int32)} {d : Nat} {Q : eQ} {K : eK} (hK : ∀ (pc : Nat) (ls : eL) (st : List Value) (h : eH) (kc ks : Nat), eStep S MT (okCall S MT (d + 9)) ML_law (d + 9 + 1) Q K pc ls st h kc ks → K pc ls st h kc ks) (hW : ∀ (pc : Nat) (ls ls2 : eL) (st : List Value) (h : eH) (kc ks : Nat), (∀ q ∈ ls2, q ∈ ls) → K pc ls2 st h kc ks → K pc ls st h kc ks) {j : Nat} (h5 : 5 * j + 5 ≤ S.1) (hS : S.1 ≤ 2560) (ih : LN K (j + 1)) {b : Bool} {P : Nat → Nat → Bool} {R u v w : Nat → Bool} {kb : Nat → Nat} {f g e : Nat → Int32} {A mk ro nx pi : Nat → Int32} {kp : Nat → Int64} {km th : Int32} {oo : Nat → Int64} {od : Nat → UInt64} {kc ks : Nat} (hI : IvC P R) (hA : MI P A) (hR : RI R ro) (hkc : kc ≤ 42 + 7 * j) (hks : ks ≤ 1715 + 42 * j) : K 2148 [(5, .int (nI (5 * j))), (4, .ref 32), (3, .ref 31), (2, .ref 24), (1, .ref 1), (0, .ref 0)] [] (b, LW P R u v w kb f g e A mk ro nx pi kp km th oo od) kc ks := by
  iterate 5 refine hK _ _ _ _ _ _ (?_ : K _ _ _ _ _ _)
  refine hK _ _ _ _ _ _ (r_sld rfl (i := 5 * j + 1) (nI_add _ _) (by omega) (by omega) (?_ : K _ _ _ _ _ _))
  iterate 4 refine hK _ _ _ _ _ _ (?_ : K _ _ _ _ _ _)
  refine hK _ _ _ _ _ _ (r_sld rfl (i := 5 * j + 2) (nI_add _ _) (by omega) (by omega) (?_ : K _ _ _ _ _ _))
  iterate 1 refine hK _ _ _ _ _ _ (?_ : K _ _ _ _ _ _)
  rcases ho : o_holes P R (S.2 (5 * j + 1)) (S.2 (5 * j + 2)) with E | ⟨r9, P2, R2⟩
  · skip
    refine hK _ _ _ _ _ _ (r_callN rfl (fun _ => rfl) ⟨rfl, by show kc + 2 ≤ 601024; omega, by show ks + 12 ≤ 7293034; omega⟩ (kL_holes hI ho (fun u v w kb f g e => ?_)))
    show K 2165 _ [.int (nI (cmA E))] (false, LW P R u v w kb f g e A mk ro nx pi kp km th oo od) (kc + 2) (ks + 12)
    iterate 6 refine hK _ _ _ _ _ _ (?_ : K _ _ _ _ _ _)
    refine hK _ _ _ _ _ _ (r_sld rfl (i := 5 * j + 1) (nI_add _ _) (by omega) (by omega) (?_ : K _ _ _ _ _ _))
    iterate 4 refine hK _ _ _ _ _ _ (?_ : K _ _ _ _ _ _)
    refine hK _ _ _ _ _ _ (r_sld rfl (i := 5 * j + 2) (nI_add _ _) (by omega) (by omega) (?_ : K _ _ _ _ _ _))
    refine hK _ _ _ _ _ _ (r_callV rfl (fun _ => rfl) rfl ⟨rfl, by show kc + 2 + 0 ≤ 601024; omega, by show ks + 12 + 0 ≤ 7293034; omega⟩ (kX7_holes (X := wX P R u v w kb f g e) hI hA hR (mqe ho (fun mk nx pi kp km => ?_))))
    show K 2183 _ [.int (nI 0)] (false, LW P R u v w kb f g e A mk ro nx pi kp km (nI (cmA E)) oo od) (kc + 2) (ks + 12)
    iterate 2 refine hK _ _ _ _ _ _ (?_ : K _ _ _ _ _ _)
    refine hK _ _ _ _ _ _ (r_callV rfl (fun _ => rfl) rfl ⟨rfl, by show kc + 2 + 0 ≤ 601024; omega, by show ks + 12 + 0 ≤ 7293034; omega⟩ (kX7_thrown (X := wX P R u v w kb f g e) ?_))
    show K 2189 _ [.int (nI (cmA E))] (false, LW P R u v w kb f g e A mk ro nx pi kp km (nI (cmA E)) oo od) (kc + 2) (ks + 12)
    iterate 1 refine hK _ _ _ _ _ _ (?_ : K _ _ _ _ _ _)
    refine hK _ _ _ _ _ _ (And.intro (fun _ => ?_) (fun c9 => absurd (rfl) c9))
    iterate 1 refine hK _ _ _ _ _ _ (?_ : K _ _ _ _ _ _)
    refine hK _ _ _ _ _ _ (And.intro (fun c9 => absurd c9 (cmA_n E)) (fun _ => ?_))
    iterate 3 refine hK _ _ _ _ _ _ (?_ : K _ _ _ _ _ _)
    show K 28 ((5, .int (nI (5 * j) + nI 5)) :: _) _ _ _ _
    rw [nI_add (5 * j) 5, show 5 * j + 5 = 5 * (j + 1) by omega]
    exact hW _ _ [(5, .int (nI (5 * (j + 1)))), (4, .ref 32), (3, .ref 31), (2, .ref 24), (1, .ref 1), (0, .ref 0)] _ _ _ _ (by simp) (ih _ _ _ _ _ _ _ _ _ _ _ _ _ _ _ _ _ _ _ _ _ _ hI hA hR (by omega) (by omega))
  · skip
    have hk := oK_holes (P := P) (R := R) (x := S.2 (5 * j + 1)) (y := S.2 (5 * j + 2))
    rw [ho] at hk
    obtain ⟨x9, rfl⟩ := hk
    have hJ := oJ_holes hI (x := S.2 (5 * j + 1)) (y := S.2 (5 * j + 2))
    rw [ho] at hJ
    have hJ : IvC P2 R2 := hJ
    refine hK _ _ _ _ _ _ (r_callN rfl (fun _ => rfl) ⟨rfl, by show kc + 2 ≤ 601024; omega, by show ks + 12 ≤ 7293034; omega⟩ (kL_holes hI ho (fun u v w kb f g e oo2 hoo => ?_)))
    show K 2165 _ [.int (nI 0)] (b, LW P2 R2 u v w kb f g e A mk ro nx pi kp km th oo2 od) (kc + 2) (ks + 12)
    iterate 6 refine hK _ _ _ _ _ _ (?_ : K _ _ _ _ _ _)
    refine hK _ _ _ _ _ _ (r_sld rfl (i := 5 * j + 1) (nI_add _ _) (by omega) (by omega) (?_ : K _ _ _ _ _ _))
    iterate 4 refine hK _ _ _ _ _ _ (?_ : K _ _ _ _ _ _)
    refine hK _ _ _ _ _ _ (r_sld rfl (i := 5 * j + 2) (nI_add _ _) (by omega) (by omega) (?_ : K _ _ _ _ _ _))
    refine hK _ _ _ _ _ _ (r_callV rfl (fun _ => rfl) rfl ⟨rfl, by show kc + 2 + 0 ≤ 601024; omega, by show ks + 12 + 0 ≤ 7293034; omega⟩ (kX7_holes (X := wX P2 R2 u v w kb f g e) hI hA hR (mqe ho (fun A2 mk ro2 nx pi kp km hA2 hR2 => ?_))))
    show K 2183 _ [.int x9] (b, LW P2 R2 u v w kb f g e A2 mk ro2 nx pi kp km (nI 0) oo2 od) (kc + 2) (ks + 12)
    iterate 2 refine hK _ _ _ _ _ _ (?_ : K _ _ _ _ _ _)
    refine hK _ _ _ _ _ _ (r_callV rfl (fun _ => rfl) rfl ⟨rfl, by show kc + 2 + 0 ≤ 601024; omega, by show ks + 12 + 0 ≤ 7293034; omega⟩ (kX7_thrown (X := wX P2 R2 u v w kb f g e) ?_))
    show K 2189 _ [.int (nI 0)] (b, LW P2 R2 u v w kb f g e A2 mk ro2 nx pi kp km (nI 0) oo2 od) (kc + 2) (ks + 12)
    iterate 1 refine hK _ _ _ _ _ _ (?_ : K _ _ _ _ _ _)
    refine hK _ _ _ _ _ _ (And.intro (fun _ => ?_) (fun c9 => absurd (rfl) c9))
    iterate 1 refine hK _ _ _ _ _ _ (?_ : K _ _ _ _ _ _)
    refine hK _ _ _ _ _ _ (And.intro (fun _ => ?_) (fun c9 => absurd (rfl) c9))
    iterate 2 refine hK _ _ _ _ _ _ (?_ : K _ _ _ _ _ _)
    refine hK _ _ _ _ _ _ (r_lald' (v := x9.toInt64) rfl (N := 1) (f := oo2) rfl (vp_in_nI (by decide) (by decide)) (by rw [nI_clamp (by decide)]; exact hoo) (?_ : K _ _ _ _ _ _))
    iterate 3 refine hK _ _ _ _ _ _ (?_ : K _ _ _ _ _ _)
    refine hK _ _ _ _ _ _ (And.intro (fun _ => ?_) (fun c9 => absurd ((lg_cmp_eq _ _).mpr rfl) c9))
    iterate 3 refine hK _ _ _ _ _ _ (?_ : K _ _ _ _ _ _)
    show K 28 ((5, .int (nI (5 * j) + nI 5)) :: _) _ _ _ _
    rw [nI_add (5 * j) 5, show 5 * j + 5 = 5 * (j + 1) by omega]
    exact hW _ _ [(5, .int (nI (5 * (j + 1)))), (4, .ref 32), (3, .ref 31), (2, .ref 24), (1, .ref 1), (0, .ref 0)] _ _ _ _ (by simp) (ih _ _ _ _ _ _ _ _ _ _ _ _ _ _ _ _ _ _ _ _ _ _ hJ hA2 hR2 (by omega) (by omega))

set_option maxRecDepth 10000 in
/-- case 27: signed -/
theorem lc_signed {S : Nat × (Nat → Int32)} {d : Nat} {Q : eQ} {K : eK} (hK : ∀ (pc : Nat) (ls : eL) (st : List Value) (h : eH) (kc ks : Nat), eStep S MT (okCall S MT (d + 9)) ML_law (d + 9 + 1) Q K pc ls st h kc ks → K pc ls st h kc ks) (hW : ∀ (pc : Nat) (ls ls2 : eL) (st : List Value) (h : eH) (kc ks : Nat), (∀ q ∈ ls2, q ∈ ls) → K pc ls2 st h kc ks → K pc ls st h kc ks) {j : Nat} (h5 : 5 * j + 5 ≤ S.1) (hS : S.1 ≤ 2560) (ih : LN K (j + 1)) {b : Bool} {P : Nat → Nat → Bool} {R u v w : Nat → Bool} {kb : Nat → Nat} {f g e : Nat → Int32} {A mk ro nx pi : Nat → Int32} {kp : Nat → Int64} {km th : Int32} {oo : Nat → Int64} {od : Nat → UInt64} {kc ks : Nat} (hI : IvC P R) (hA : MI P A) (hR : RI R ro) (hkc : kc ≤ 42 + 7 * j) (hks : ks ≤ 1715 + 42 * j) : K 2216 [(5, .int (nI (5 * j))), (4, .ref 32), (3, .ref 31), (2, .ref 24), (1, .ref 1), (0, .ref 0)] [] (b, LW P R u v w kb f g e A mk ro nx pi kp km th oo od) kc ks := by
  iterate 5 refine hK _ _ _ _ _ _ (?_ : K _ _ _ _ _ _)
  refine hK _ _ _ _ _ _ (r_sld rfl (i := 5 * j + 1) (nI_add _ _) (by omega) (by omega) (?_ : K _ _ _ _ _ _))
  iterate 1 refine hK _ _ _ _ _ _ (?_ : K _ _ _ _ _ _)
  rcases ho : o_signed P R (S.2 (5 * j + 1)) with E | ⟨r9, P2, R2⟩
  · skip
    refine hK _ _ _ _ _ _ (r_callN rfl (fun _ => rfl) ⟨rfl, by show kc + 1 ≤ 601024; omega, by show ks + 6 ≤ 7293034; omega⟩ (kL_signed hI ho (fun u v w kb f g e => ?_)))
    show K 2227 _ [.int (nI (cmA E))] (false, LW P R u v w kb f g e A mk ro nx pi kp km th oo od) (kc + 1) (ks + 6)
    iterate 6 refine hK _ _ _ _ _ _ (?_ : K _ _ _ _ _ _)
    refine hK _ _ _ _ _ _ (r_sld rfl (i := 5 * j + 1) (nI_add _ _) (by omega) (by omega) (?_ : K _ _ _ _ _ _))
    refine hK _ _ _ _ _ _ (r_callV rfl (fun _ => rfl) rfl ⟨rfl, by show kc + 1 + 0 ≤ 601024; omega, by show ks + 6 + 0 ≤ 7293034; omega⟩ (kX7_signed (X := wX P R u v w kb f g e) hI hA hR (mqe ho (fun mk nx pi kp km => ?_))))
    show K 2239 _ [.int (nI 0)] (false, LW P R u v w kb f g e A mk ro nx pi kp km (nI (cmA E)) oo od) (kc + 1) (ks + 6)
    iterate 2 refine hK _ _ _ _ _ _ (?_ : K _ _ _ _ _ _)
    refine hK _ _ _ _ _ _ (r_callV rfl (fun _ => rfl) rfl ⟨rfl, by show kc + 1 + 0 ≤ 601024; omega, by show ks + 6 + 0 ≤ 7293034; omega⟩ (kX7_thrown (X := wX P R u v w kb f g e) ?_))
    show K 2245 _ [.int (nI (cmA E))] (false, LW P R u v w kb f g e A mk ro nx pi kp km (nI (cmA E)) oo od) (kc + 1) (ks + 6)
    iterate 1 refine hK _ _ _ _ _ _ (?_ : K _ _ _ _ _ _)
    refine hK _ _ _ _ _ _ (And.intro (fun _ => ?_) (fun c9 => absurd (rfl) c9))
    iterate 1 refine hK _ _ _ _ _ _ (?_ : K _ _ _ _ _ _)
    refine hK _ _ _ _ _ _ (And.intro (fun c9 => absurd c9 (cmA_n E)) (fun _ => ?_))
    iterate 3 refine hK _ _ _ _ _ _ (?_ : K _ _ _ _ _ _)
    show K 28 ((5, .int (nI (5 * j) + nI 5)) :: _) _ _ _ _
    rw [nI_add (5 * j) 5, show 5 * j + 5 = 5 * (j + 1) by omega]
    exact hW _ _ [(5, .int (nI (5 * (j + 1)))), (4, .ref 32), (3, .ref 31), (2, .ref 24), (1, .ref 1), (0, .ref 0)] _ _ _ _ (by simp) (ih _ _ _ _ _ _ _ _ _ _ _ _ _ _ _ _ _ _ _ _ _ _ hI hA hR (by omega) (by omega))
  · skip
    have hk := oK_signed (P := P) (R := R) (x := S.2 (5 * j + 1))
    rw [ho] at hk
    obtain ⟨x9, rfl⟩ := hk
    have hJ := oJ_signed hI (x := S.2 (5 * j + 1))
    rw [ho] at hJ
    have hJ : IvC P2 R2 := hJ
    refine hK _ _ _ _ _ _ (r_callN rfl (fun _ => rfl) ⟨rfl, by show kc + 1 ≤ 601024; omega, by show ks + 6 ≤ 7293034; omega⟩ (kL_signed hI ho (fun u v w kb f g e oo2 hoo => ?_)))
    show K 2227 _ [.int (nI 0)] (b, LW P2 R2 u v w kb f g e A mk ro nx pi kp km th oo2 od) (kc + 1) (ks + 6)
    iterate 6 refine hK _ _ _ _ _ _ (?_ : K _ _ _ _ _ _)
    refine hK _ _ _ _ _ _ (r_sld rfl (i := 5 * j + 1) (nI_add _ _) (by omega) (by omega) (?_ : K _ _ _ _ _ _))
    refine hK _ _ _ _ _ _ (r_callV rfl (fun _ => rfl) rfl ⟨rfl, by show kc + 1 + 0 ≤ 601024; omega, by show ks + 6 + 0 ≤ 7293034; omega⟩ (kX7_signed (X := wX P2 R2 u v w kb f g e) hI hA hR (mqe ho (fun A2 mk ro2 nx pi kp km hA2 hR2 => ?_))))
    show K 2239 _ [.int x9] (b, LW P2 R2 u v w kb f g e A2 mk ro2 nx pi kp km (nI 0) oo2 od) (kc + 1) (ks + 6)
    iterate 2 refine hK _ _ _ _ _ _ (?_ : K _ _ _ _ _ _)
    refine hK _ _ _ _ _ _ (r_callV rfl (fun _ => rfl) rfl ⟨rfl, by show kc + 1 + 0 ≤ 601024; omega, by show ks + 6 + 0 ≤ 7293034; omega⟩ (kX7_thrown (X := wX P2 R2 u v w kb f g e) ?_))
    show K 2245 _ [.int (nI 0)] (b, LW P2 R2 u v w kb f g e A2 mk ro2 nx pi kp km (nI 0) oo2 od) (kc + 1) (ks + 6)
    iterate 1 refine hK _ _ _ _ _ _ (?_ : K _ _ _ _ _ _)
    refine hK _ _ _ _ _ _ (And.intro (fun _ => ?_) (fun c9 => absurd (rfl) c9))
    iterate 1 refine hK _ _ _ _ _ _ (?_ : K _ _ _ _ _ _)
    refine hK _ _ _ _ _ _ (And.intro (fun _ => ?_) (fun c9 => absurd (rfl) c9))
    iterate 2 refine hK _ _ _ _ _ _ (?_ : K _ _ _ _ _ _)
    refine hK _ _ _ _ _ _ (r_lald' (v := x9.toInt64) rfl (N := 1) (f := oo2) rfl (vp_in_nI (by decide) (by decide)) (by rw [nI_clamp (by decide)]; exact hoo) (?_ : K _ _ _ _ _ _))
    iterate 3 refine hK _ _ _ _ _ _ (?_ : K _ _ _ _ _ _)
    refine hK _ _ _ _ _ _ (And.intro (fun _ => ?_) (fun c9 => absurd ((lg_cmp_eq _ _).mpr rfl) c9))
    iterate 3 refine hK _ _ _ _ _ _ (?_ : K _ _ _ _ _ _)
    show K 28 ((5, .int (nI (5 * j) + nI 5)) :: _) _ _ _ _
    rw [nI_add (5 * j) 5, show 5 * j + 5 = 5 * (j + 1) by omega]
    exact hW _ _ [(5, .int (nI (5 * (j + 1)))), (4, .ref 32), (3, .ref 31), (2, .ref 24), (1, .ref 1), (0, .ref 0)] _ _ _ _ (by simp) (ih _ _ _ _ _ _ _ _ _ _ _ _ _ _ _ _ _ _ _ _ _ _ hJ hA2 hR2 (by omega) (by omega))

set_option maxRecDepth 10000 in
/-- case 28: flip -/
theorem lc_flip {S : Nat × (Nat → Int32)} {d : Nat} {Q : eQ} {K : eK} (hK : ∀ (pc : Nat) (ls : eL) (st : List Value) (h : eH) (kc ks : Nat), eStep S MT (okCall S MT (d + 9)) ML_law (d + 9 + 1) Q K pc ls st h kc ks → K pc ls st h kc ks) (hW : ∀ (pc : Nat) (ls ls2 : eL) (st : List Value) (h : eH) (kc ks : Nat), (∀ q ∈ ls2, q ∈ ls) → K pc ls2 st h kc ks → K pc ls st h kc ks) {j : Nat} (h5 : 5 * j + 5 ≤ S.1) (hS : S.1 ≤ 2560) (ih : LN K (j + 1)) {b : Bool} {P : Nat → Nat → Bool} {R u v w : Nat → Bool} {kb : Nat → Nat} {f g e : Nat → Int32} {A mk ro nx pi : Nat → Int32} {kp : Nat → Int64} {km th : Int32} {oo : Nat → Int64} {od : Nat → UInt64} {kc ks : Nat} (hI : IvC P R) (hA : MI P A) (hR : RI R ro) (hkc : kc ≤ 42 + 7 * j) (hks : ks ≤ 1715 + 42 * j) : K 2272 [(5, .int (nI (5 * j))), (4, .ref 32), (3, .ref 31), (2, .ref 24), (1, .ref 1), (0, .ref 0)] [] (b, LW P R u v w kb f g e A mk ro nx pi kp km th oo od) kc ks := by
  iterate 5 refine hK _ _ _ _ _ _ (?_ : K _ _ _ _ _ _)
  refine hK _ _ _ _ _ _ (r_sld rfl (i := 5 * j + 1) (nI_add _ _) (by omega) (by omega) (?_ : K _ _ _ _ _ _))
  iterate 1 refine hK _ _ _ _ _ _ (?_ : K _ _ _ _ _ _)
  rcases ho : o_flip P R (S.2 (5 * j + 1)) with E | ⟨r9, P2, R2⟩
  · skip
    refine hK _ _ _ _ _ _ (r_callN rfl (fun _ => rfl) ⟨rfl, by show kc + 2 ≤ 601024; omega, by show ks + 12 ≤ 7293034; omega⟩ (kL_flip hI ho (fun u v w kb f g e => ?_)))
    show K 2283 _ [.int (nI (cmR E))] (false, LW P R u v w kb f g e A mk ro nx pi kp km th oo od) (kc + 2) (ks + 12)
    iterate 6 refine hK _ _ _ _ _ _ (?_ : K _ _ _ _ _ _)
    refine hK _ _ _ _ _ _ (r_sld rfl (i := 5 * j + 1) (nI_add _ _) (by omega) (by omega) (?_ : K _ _ _ _ _ _))
    refine hK _ _ _ _ _ _ (r_callV rfl (fun _ => rfl) rfl ⟨rfl, by show kc + 2 + 0 ≤ 601024; omega, by show ks + 12 + 0 ≤ 7293034; omega⟩ (kX7_flip (X := wX P R u v w kb f g e) hI hA hR (mqe ho (fun mk nx pi kp km => ?_))))
    show K 2295 _ [.int (nI 0)] (false, LW P R u v w kb f g e A mk ro nx pi kp km (nI (cmR E)) oo od) (kc + 2) (ks + 12)
    iterate 2 refine hK _ _ _ _ _ _ (?_ : K _ _ _ _ _ _)
    refine hK _ _ _ _ _ _ (r_callV rfl (fun _ => rfl) rfl ⟨rfl, by show kc + 2 + 0 ≤ 601024; omega, by show ks + 12 + 0 ≤ 7293034; omega⟩ (kX7_thrown (X := wX P R u v w kb f g e) ?_))
    show K 2301 _ [.int (nI (cmR E))] (false, LW P R u v w kb f g e A mk ro nx pi kp km (nI (cmR E)) oo od) (kc + 2) (ks + 12)
    iterate 1 refine hK _ _ _ _ _ _ (?_ : K _ _ _ _ _ _)
    refine hK _ _ _ _ _ _ (And.intro (fun _ => ?_) (fun c9 => absurd (rfl) c9))
    iterate 1 refine hK _ _ _ _ _ _ (?_ : K _ _ _ _ _ _)
    refine hK _ _ _ _ _ _ (And.intro (fun c9 => absurd c9 (cmR_n E)) (fun _ => ?_))
    iterate 3 refine hK _ _ _ _ _ _ (?_ : K _ _ _ _ _ _)
    show K 28 ((5, .int (nI (5 * j) + nI 5)) :: _) _ _ _ _
    rw [nI_add (5 * j) 5, show 5 * j + 5 = 5 * (j + 1) by omega]
    exact hW _ _ [(5, .int (nI (5 * (j + 1)))), (4, .ref 32), (3, .ref 31), (2, .ref 24), (1, .ref 1), (0, .ref 0)] _ _ _ _ (by simp) (ih _ _ _ _ _ _ _ _ _ _ _ _ _ _ _ _ _ _ _ _ _ _ hI hA hR (by omega) (by omega))
  · skip
    have hk := oK_flip (P := P) (R := R) (x := S.2 (5 * j + 1))
    rw [ho] at hk
    obtain ⟨x9, rfl⟩ := hk
    have hJ := oJ_flip hI (x := S.2 (5 * j + 1))
    rw [ho] at hJ
    have hJ : IvC P2 R2 := hJ
    refine hK _ _ _ _ _ _ (r_callN rfl (fun _ => rfl) ⟨rfl, by show kc + 2 ≤ 601024; omega, by show ks + 12 ≤ 7293034; omega⟩ (kL_flip hI ho (fun u v w kb f g e oo2 hoo => ?_)))
    show K 2283 _ [.int (nI 0)] (b, LW P2 R2 u v w kb f g e A mk ro nx pi kp km th oo2 od) (kc + 2) (ks + 12)
    iterate 6 refine hK _ _ _ _ _ _ (?_ : K _ _ _ _ _ _)
    refine hK _ _ _ _ _ _ (r_sld rfl (i := 5 * j + 1) (nI_add _ _) (by omega) (by omega) (?_ : K _ _ _ _ _ _))
    refine hK _ _ _ _ _ _ (r_callV rfl (fun _ => rfl) rfl ⟨rfl, by show kc + 2 + 0 ≤ 601024; omega, by show ks + 12 + 0 ≤ 7293034; omega⟩ (kX7_flip (X := wX P2 R2 u v w kb f g e) hI hA hR (mqe ho (fun A2 mk ro2 nx pi kp km hA2 hR2 => ?_))))
    show K 2295 _ [.int x9] (b, LW P2 R2 u v w kb f g e A2 mk ro2 nx pi kp km (nI 0) oo2 od) (kc + 2) (ks + 12)
    iterate 2 refine hK _ _ _ _ _ _ (?_ : K _ _ _ _ _ _)
    refine hK _ _ _ _ _ _ (r_callV rfl (fun _ => rfl) rfl ⟨rfl, by show kc + 2 + 0 ≤ 601024; omega, by show ks + 12 + 0 ≤ 7293034; omega⟩ (kX7_thrown (X := wX P2 R2 u v w kb f g e) ?_))
    show K 2301 _ [.int (nI 0)] (b, LW P2 R2 u v w kb f g e A2 mk ro2 nx pi kp km (nI 0) oo2 od) (kc + 2) (ks + 12)
    iterate 1 refine hK _ _ _ _ _ _ (?_ : K _ _ _ _ _ _)
    refine hK _ _ _ _ _ _ (And.intro (fun _ => ?_) (fun c9 => absurd (rfl) c9))
    iterate 1 refine hK _ _ _ _ _ _ (?_ : K _ _ _ _ _ _)
    refine hK _ _ _ _ _ _ (And.intro (fun _ => ?_) (fun c9 => absurd (rfl) c9))
    iterate 2 refine hK _ _ _ _ _ _ (?_ : K _ _ _ _ _ _)
    refine hK _ _ _ _ _ _ (r_lald' (v := x9.toInt64) rfl (N := 1) (f := oo2) rfl (vp_in_nI (by decide) (by decide)) (by rw [nI_clamp (by decide)]; exact hoo) (?_ : K _ _ _ _ _ _))
    iterate 3 refine hK _ _ _ _ _ _ (?_ : K _ _ _ _ _ _)
    refine hK _ _ _ _ _ _ (And.intro (fun _ => ?_) (fun c9 => absurd ((lg_cmp_eq _ _).mpr rfl) c9))
    iterate 3 refine hK _ _ _ _ _ _ (?_ : K _ _ _ _ _ _)
    show K 28 ((5, .int (nI (5 * j) + nI 5)) :: _) _ _ _ _
    rw [nI_add (5 * j) 5, show 5 * j + 5 = 5 * (j + 1) by omega]
    exact hW _ _ [(5, .int (nI (5 * (j + 1)))), (4, .ref 32), (3, .ref 31), (2, .ref 24), (1, .ref 1), (0, .ref 0)] _ _ _ _ (by simp) (ih _ _ _ _ _ _ _ _ _ _ _ _ _ _ _ _ _ _ _ _ _ _ hJ hA2 hR2 (by omega) (by omega))

set_option maxRecDepth 10000 in
/-- case 29: border -/
theorem lc_border {S : Nat × (Nat → Int32)} {d : Nat} {Q : eQ} {K : eK} (hK : ∀ (pc : Nat) (ls : eL) (st : List Value) (h : eH) (kc ks : Nat), eStep S MT (okCall S MT (d + 9)) ML_law (d + 9 + 1) Q K pc ls st h kc ks → K pc ls st h kc ks) (hW : ∀ (pc : Nat) (ls ls2 : eL) (st : List Value) (h : eH) (kc ks : Nat), (∀ q ∈ ls2, q ∈ ls) → K pc ls2 st h kc ks → K pc ls st h kc ks) {j : Nat} (h5 : 5 * j + 5 ≤ S.1) (hS : S.1 ≤ 2560) (ih : LN K (j + 1)) {b : Bool} {P : Nat → Nat → Bool} {R u v w : Nat → Bool} {kb : Nat → Nat} {f g e : Nat → Int32} {A mk ro nx pi : Nat → Int32} {kp : Nat → Int64} {km th : Int32} {oo : Nat → Int64} {od : Nat → UInt64} {kc ks : Nat} (hI : IvC P R) (hA : MI P A) (hR : RI R ro) (hkc : kc ≤ 42 + 7 * j) (hks : ks ≤ 1715 + 42 * j) : K 2328 [(5, .int (nI (5 * j))), (4, .ref 32), (3, .ref 31), (2, .ref 24), (1, .ref 1), (0, .ref 0)] [] (b, LW P R u v w kb f g e A mk ro nx pi kp km th oo od) kc ks := by
  iterate 1 refine hK _ _ _ _ _ _ (?_ : K _ _ _ _ _ _)
  refine hK _ _ _ _ _ _ (r_callV rfl (fun _ => rfl) rfl ⟨rfl, by show kc + 0 ≤ 601024; omega, by show ks + 0 ≤ 7293034; omega⟩ (kX6_border (fun u v w kb f g e => ?_)))
  show K 2332 _ [.int (nI (fb_ct (bdS R) 128))] (b, LW P (bdS R) u v w kb f g e A mk ro nx pi kp km th oo od) kc ks
  iterate 1 refine hK _ _ _ _ _ _ (?_ : K _ _ _ _ _ _)
  refine hK _ _ _ _ _ _ (r_callV rfl (fun _ => rfl) rfl ⟨rfl, by show kc + 0 ≤ 601024; omega, by show ks + 0 ≤ 7293034; omega⟩ (kX7_border (X := wX P (bdS R) u v w kb f g e) hR (fun nx ro2 hR2 => ?_)))
  show K 2336 _ [.int (nI (fb_ct (bdS R) 128)), .int (nI (fb_ct (bdS R) 128))] (b, LW P (bdS R) u v w kb f g e A mk ro2 nx pi kp km th oo od) kc ks
  refine hK _ _ _ _ _ _ (And.intro (fun _ => ?_) (fun c9 => absurd (rfl) c9))
  iterate 2 refine hK _ _ _ _ _ _ (?_ : K _ _ _ _ _ _)
  show K 28 ((5, .int (nI (5 * j) + nI 5)) :: _) _ _ _ _
  rw [nI_add (5 * j) 5, show 5 * j + 5 = 5 * (j + 1) by omega]
  exact hW _ _ [(5, .int (nI (5 * (j + 1)))), (4, .ref 32), (3, .ref 31), (2, .ref 24), (1, .ref 1), (0, .ref 0)] _ _ _ _ (by simp) (ih _ _ _ _ _ _ _ _ _ _ _ _ _ _ _ _ _ _ _ _ _ _ (bd_R hI) hA hR2 (by omega) (by omega))

set_option maxRecDepth 10000 in
/-- case 30: drop -/
theorem lc_drop {S : Nat × (Nat → Int32)} {d : Nat} {Q : eQ} {K : eK} (hK : ∀ (pc : Nat) (ls : eL) (st : List Value) (h : eH) (kc ks : Nat), eStep S MT (okCall S MT (d + 9)) ML_law (d + 9 + 1) Q K pc ls st h kc ks → K pc ls st h kc ks) (hW : ∀ (pc : Nat) (ls ls2 : eL) (st : List Value) (h : eH) (kc ks : Nat), (∀ q ∈ ls2, q ∈ ls) → K pc ls2 st h kc ks → K pc ls st h kc ks) {j : Nat} (h5 : 5 * j + 5 ≤ S.1) (hS : S.1 ≤ 2560) (ih : LN K (j + 1)) {b : Bool} {P : Nat → Nat → Bool} {R u v w : Nat → Bool} {kb : Nat → Nat} {f g e : Nat → Int32} {A mk ro nx pi : Nat → Int32} {kp : Nat → Int64} {km th : Int32} {oo : Nat → Int64} {od : Nat → UInt64} {kc ks : Nat} (hI : IvC P R) (hA : MI P A) (hR : RI R ro) (hkc : kc ≤ 42 + 7 * j) (hks : ks ≤ 1715 + 42 * j) : K 2341 [(5, .int (nI (5 * j))), (4, .ref 32), (3, .ref 31), (2, .ref 24), (1, .ref 1), (0, .ref 0)] [] (b, LW P R u v w kb f g e A mk ro nx pi kp km th oo od) kc ks := by
  iterate 1 refine hK _ _ _ _ _ _ (?_ : K _ _ _ _ _ _)
  refine hK _ _ _ _ _ _ (r_callV rfl (fun _ => rfl) rfl ⟨rfl, by show kc + 0 ≤ 601024; omega, by show ks + 0 ≤ 7293034; omega⟩ (kX6_drop (fun u v w kb f g e => ?_)))
  show K 2345 _ [.int (nI (fb_ct R 128))] (b, LW P no9 u v w kb f g e A mk ro nx pi kp km th oo od) kc ks
  iterate 1 refine hK _ _ _ _ _ _ (?_ : K _ _ _ _ _ _)
  refine hK _ _ _ _ _ _ (r_callV rfl (fun _ => rfl) rfl ⟨rfl, by show kc + 0 ≤ 601024; omega, by show ks + 0 ≤ 7293034; omega⟩ (kX7_drop (X := wX P no9 u v w kb f g e) hR hI.2.choose_spec.1 (fun ro2 hR2 => ?_)))
  show K 2349 _ [.int (nI (fb_ct R 128)), .int (nI (fb_ct R 128))] (b, LW P no9 u v w kb f g e A mk ro2 nx pi kp km th oo od) kc ks
  refine hK _ _ _ _ _ _ (And.intro (fun _ => ?_) (fun c9 => absurd (rfl) c9))
  iterate 2 refine hK _ _ _ _ _ _ (?_ : K _ _ _ _ _ _)
  show K 28 ((5, .int (nI (5 * j) + nI 5)) :: _) _ _ _ _
  rw [nI_add (5 * j) 5, show 5 * j + 5 = 5 * (j + 1) by omega]
  exact hW _ _ [(5, .int (nI (5 * (j + 1)))), (4, .ref 32), (3, .ref 31), (2, .ref 24), (1, .ref 1), (0, .ref 0)] _ _ _ _ (by simp) (ih _ _ _ _ _ _ _ _ _ _ _ _ _ _ _ _ _ _ _ _ _ _ (no_R hI) hA hR2 (by omega) (by omega))

set_option maxRecDepth 10000 in
/-- case 31: rowAt -/
theorem lc_rowAt {S : Nat × (Nat → Int32)} {d : Nat} {Q : eQ} {K : eK} (hK : ∀ (pc : Nat) (ls : eL) (st : List Value) (h : eH) (kc ks : Nat), eStep S MT (okCall S MT (d + 9)) ML_law (d + 9 + 1) Q K pc ls st h kc ks → K pc ls st h kc ks) (hW : ∀ (pc : Nat) (ls ls2 : eL) (st : List Value) (h : eH) (kc ks : Nat), (∀ q ∈ ls2, q ∈ ls) → K pc ls2 st h kc ks → K pc ls st h kc ks) {j : Nat} (h5 : 5 * j + 5 ≤ S.1) (hS : S.1 ≤ 2560) (ih : LN K (j + 1)) {b : Bool} {P : Nat → Nat → Bool} {R u v w : Nat → Bool} {kb : Nat → Nat} {f g e : Nat → Int32} {A mk ro nx pi : Nat → Int32} {kp : Nat → Int64} {km th : Int32} {oo : Nat → Int64} {od : Nat → UInt64} {kc ks : Nat} (hI : IvC P R) (hA : MI P A) (hR : RI R ro) (hkc : kc ≤ 42 + 7 * j) (hks : ks ≤ 1715 + 42 * j) : K 2354 [(5, .int (nI (5 * j))), (4, .ref 32), (3, .ref 31), (2, .ref 24), (1, .ref 1), (0, .ref 0)] [] (b, LW P R u v w kb f g e A mk ro nx pi kp km th oo od) kc ks := by
  iterate 5 refine hK _ _ _ _ _ _ (?_ : K _ _ _ _ _ _)
  refine hK _ _ _ _ _ _ (r_sld rfl (i := 5 * j + 1) (nI_add _ _) (by omega) (by omega) (?_ : K _ _ _ _ _ _))
  iterate 1 refine hK _ _ _ _ _ _ (?_ : K _ _ _ _ _ _)
  rcases ho : o_rowAt P R (S.2 (5 * j + 1)) with E | ⟨r9, P2, R2⟩
  · skip
    refine hK _ _ _ _ _ _ (r_callN rfl (fun _ => rfl) ⟨rfl, by show kc + 1 ≤ 601024; omega, by show ks + 6 ≤ 7293034; omega⟩ (kL_rowAt hI ho (fun u v w kb f g e => ?_)))
    show K 2365 _ [.int (nI (cmA E))] (false, LW P R u v w kb f g e A mk ro nx pi kp km th oo od) (kc + 1) (ks + 6)
    iterate 6 refine hK _ _ _ _ _ _ (?_ : K _ _ _ _ _ _)
    refine hK _ _ _ _ _ _ (r_sld rfl (i := 5 * j + 1) (nI_add _ _) (by omega) (by omega) (?_ : K _ _ _ _ _ _))
    refine hK _ _ _ _ _ _ (r_callV rfl (fun _ => rfl) rfl ⟨rfl, by show kc + 1 + 0 ≤ 601024; omega, by show ks + 6 + 0 ≤ 7293034; omega⟩ (kX7_rowAt (X := wX P R u v w kb f g e) hI hA hR (mqe ho (fun mk nx pi kp km => ?_))))
    show K 2377 _ [.int (nI 0)] (false, LW P R u v w kb f g e A mk ro nx pi kp km (nI (cmA E)) oo od) (kc + 1) (ks + 6)
    iterate 2 refine hK _ _ _ _ _ _ (?_ : K _ _ _ _ _ _)
    refine hK _ _ _ _ _ _ (r_callV rfl (fun _ => rfl) rfl ⟨rfl, by show kc + 1 + 0 ≤ 601024; omega, by show ks + 6 + 0 ≤ 7293034; omega⟩ (kX7_thrown (X := wX P R u v w kb f g e) ?_))
    show K 2383 _ [.int (nI (cmA E))] (false, LW P R u v w kb f g e A mk ro nx pi kp km (nI (cmA E)) oo od) (kc + 1) (ks + 6)
    iterate 1 refine hK _ _ _ _ _ _ (?_ : K _ _ _ _ _ _)
    refine hK _ _ _ _ _ _ (And.intro (fun _ => ?_) (fun c9 => absurd (rfl) c9))
    iterate 1 refine hK _ _ _ _ _ _ (?_ : K _ _ _ _ _ _)
    refine hK _ _ _ _ _ _ (And.intro (fun c9 => absurd c9 (cmA_n E)) (fun _ => ?_))
    iterate 3 refine hK _ _ _ _ _ _ (?_ : K _ _ _ _ _ _)
    show K 28 ((5, .int (nI (5 * j) + nI 5)) :: _) _ _ _ _
    rw [nI_add (5 * j) 5, show 5 * j + 5 = 5 * (j + 1) by omega]
    exact hW _ _ [(5, .int (nI (5 * (j + 1)))), (4, .ref 32), (3, .ref 31), (2, .ref 24), (1, .ref 1), (0, .ref 0)] _ _ _ _ (by simp) (ih _ _ _ _ _ _ _ _ _ _ _ _ _ _ _ _ _ _ _ _ _ _ hI hA hR (by omega) (by omega))
  · skip
    have hk := oK_rowAt (P := P) (R := R) (x := S.2 (5 * j + 1))
    rw [ho] at hk
    obtain ⟨x9, rfl⟩ := hk
    have hJ := oJ_rowAt hI (x := S.2 (5 * j + 1))
    rw [ho] at hJ
    have hJ : IvC P2 R2 := hJ
    refine hK _ _ _ _ _ _ (r_callN rfl (fun _ => rfl) ⟨rfl, by show kc + 1 ≤ 601024; omega, by show ks + 6 ≤ 7293034; omega⟩ (kL_rowAt hI ho (fun u v w kb f g e oo2 hoo => ?_)))
    show K 2365 _ [.int (nI 0)] (b, LW P2 R2 u v w kb f g e A mk ro nx pi kp km th oo2 od) (kc + 1) (ks + 6)
    iterate 6 refine hK _ _ _ _ _ _ (?_ : K _ _ _ _ _ _)
    refine hK _ _ _ _ _ _ (r_sld rfl (i := 5 * j + 1) (nI_add _ _) (by omega) (by omega) (?_ : K _ _ _ _ _ _))
    refine hK _ _ _ _ _ _ (r_callV rfl (fun _ => rfl) rfl ⟨rfl, by show kc + 1 + 0 ≤ 601024; omega, by show ks + 6 + 0 ≤ 7293034; omega⟩ (kX7_rowAt (X := wX P2 R2 u v w kb f g e) hI hA hR (mqe ho (fun A2 mk ro2 nx pi kp km hA2 hR2 => ?_))))
    show K 2377 _ [.int x9] (b, LW P2 R2 u v w kb f g e A2 mk ro2 nx pi kp km (nI 0) oo2 od) (kc + 1) (ks + 6)
    iterate 2 refine hK _ _ _ _ _ _ (?_ : K _ _ _ _ _ _)
    refine hK _ _ _ _ _ _ (r_callV rfl (fun _ => rfl) rfl ⟨rfl, by show kc + 1 + 0 ≤ 601024; omega, by show ks + 6 + 0 ≤ 7293034; omega⟩ (kX7_thrown (X := wX P2 R2 u v w kb f g e) ?_))
    show K 2383 _ [.int (nI 0)] (b, LW P2 R2 u v w kb f g e A2 mk ro2 nx pi kp km (nI 0) oo2 od) (kc + 1) (ks + 6)
    iterate 1 refine hK _ _ _ _ _ _ (?_ : K _ _ _ _ _ _)
    refine hK _ _ _ _ _ _ (And.intro (fun _ => ?_) (fun c9 => absurd (rfl) c9))
    iterate 1 refine hK _ _ _ _ _ _ (?_ : K _ _ _ _ _ _)
    refine hK _ _ _ _ _ _ (And.intro (fun _ => ?_) (fun c9 => absurd (rfl) c9))
    iterate 2 refine hK _ _ _ _ _ _ (?_ : K _ _ _ _ _ _)
    refine hK _ _ _ _ _ _ (r_lald' (v := x9.toInt64) rfl (N := 1) (f := oo2) rfl (vp_in_nI (by decide) (by decide)) (by rw [nI_clamp (by decide)]; exact hoo) (?_ : K _ _ _ _ _ _))
    iterate 3 refine hK _ _ _ _ _ _ (?_ : K _ _ _ _ _ _)
    refine hK _ _ _ _ _ _ (And.intro (fun _ => ?_) (fun c9 => absurd ((lg_cmp_eq _ _).mpr rfl) c9))
    iterate 3 refine hK _ _ _ _ _ _ (?_ : K _ _ _ _ _ _)
    show K 28 ((5, .int (nI (5 * j) + nI 5)) :: _) _ _ _ _
    rw [nI_add (5 * j) 5, show 5 * j + 5 = 5 * (j + 1) by omega]
    exact hW _ _ [(5, .int (nI (5 * (j + 1)))), (4, .ref 32), (3, .ref 31), (2, .ref 24), (1, .ref 1), (0, .ref 0)] _ _ _ _ (by simp) (ih _ _ _ _ _ _ _ _ _ _ _ _ _ _ _ _ _ _ _ _ _ _ hJ hA2 hR2 (by omega) (by omega))

set_option maxRecDepth 10000 in
/-- case 32: isRound -/
theorem lc_isRound {S : Nat × (Nat → Int32)} {d : Nat} {Q : eQ} {K : eK} (hK : ∀ (pc : Nat) (ls : eL) (st : List Value) (h : eH) (kc ks : Nat), eStep S MT (okCall S MT (d + 9)) ML_law (d + 9 + 1) Q K pc ls st h kc ks → K pc ls st h kc ks) (hW : ∀ (pc : Nat) (ls ls2 : eL) (st : List Value) (h : eH) (kc ks : Nat), (∀ q ∈ ls2, q ∈ ls) → K pc ls2 st h kc ks → K pc ls st h kc ks) {j : Nat} (h5 : 5 * j + 5 ≤ S.1) (hS : S.1 ≤ 2560) (ih : LN K (j + 1)) {b : Bool} {P : Nat → Nat → Bool} {R u v w : Nat → Bool} {kb : Nat → Nat} {f g e : Nat → Int32} {A mk ro nx pi : Nat → Int32} {kp : Nat → Int64} {km th : Int32} {oo : Nat → Int64} {od : Nat → UInt64} {kc ks : Nat} (hI : IvC P R) (hA : MI P A) (hR : RI R ro) (hkc : kc ≤ 42 + 7 * j) (hks : ks ≤ 1715 + 42 * j) : K 2410 [(5, .int (nI (5 * j))), (4, .ref 32), (3, .ref 31), (2, .ref 24), (1, .ref 1), (0, .ref 0)] [] (b, LW P R u v w kb f g e A mk ro nx pi kp km th oo od) kc ks := by
  iterate 1 refine hK _ _ _ _ _ _ (?_ : K _ _ _ _ _ _)
  refine hK _ _ _ _ _ _ (r_callV rfl (fun _ => rfl) rfl ⟨rfl, by show kc + 0 ≤ 601024; omega, by show ks + 0 ≤ 7293034; omega⟩ (kX6_isRound (fun u v w kb f g e => ?_)))
  show K 2414 _ [.int (b2i (decide (fb_ct (bdS R) 128 = 0)))] (b, LW P R u v w kb f g e A mk ro nx pi kp km th oo od) kc ks
  iterate 1 refine hK _ _ _ _ _ _ (?_ : K _ _ _ _ _ _)
  refine hK _ _ _ _ _ _ (r_callV rfl (fun _ => rfl) rfl ⟨rfl, by show kc + 0 ≤ 601024; omega, by show ks + 0 ≤ 7293034; omega⟩ (kX7_isRound (X := wX P R u v w kb f g e) hR (fun nx => ?_)))
  show K 2418 _ [.int (b2i (decide (fb_ct (bdS R) 128 = 0))), .int (b2i (decide (fb_ct (bdS R) 128 = 0)))] (b, LW P R u v w kb f g e A mk ro nx pi kp km th oo od) kc ks
  refine hK _ _ _ _ _ _ (And.intro (fun _ => ?_) (fun c9 => absurd (rfl) c9))
  iterate 2 refine hK _ _ _ _ _ _ (?_ : K _ _ _ _ _ _)
  show K 28 ((5, .int (nI (5 * j) + nI 5)) :: _) _ _ _ _
  rw [nI_add (5 * j) 5, show 5 * j + 5 = 5 * (j + 1) by omega]
  exact hW _ _ [(5, .int (nI (5 * (j + 1)))), (4, .ref 32), (3, .ref 31), (2, .ref 24), (1, .ref 1), (0, .ref 0)] _ _ _ _ (by simp) (ih _ _ _ _ _ _ _ _ _ _ _ _ _ _ _ _ _ _ _ _ _ _ hI hA hR (by omega) (by omega))

set_option maxRecDepth 10000 in
/-- case 33: fills -/
theorem lc_fills {S : Nat × (Nat → Int32)} {d : Nat} {Q : eQ} {K : eK} (hK : ∀ (pc : Nat) (ls : eL) (st : List Value) (h : eH) (kc ks : Nat), eStep S MT (okCall S MT (d + 9)) ML_law (d + 9 + 1) Q K pc ls st h kc ks → K pc ls st h kc ks) (hW : ∀ (pc : Nat) (ls ls2 : eL) (st : List Value) (h : eH) (kc ks : Nat), (∀ q ∈ ls2, q ∈ ls) → K pc ls2 st h kc ks → K pc ls st h kc ks) {j : Nat} (h5 : 5 * j + 5 ≤ S.1) (hS : S.1 ≤ 2560) (ih : LN K (j + 1)) {b : Bool} {P : Nat → Nat → Bool} {R u v w : Nat → Bool} {kb : Nat → Nat} {f g e : Nat → Int32} {A mk ro nx pi : Nat → Int32} {kp : Nat → Int64} {km th : Int32} {oo : Nat → Int64} {od : Nat → UInt64} {kc ks : Nat} (hI : IvC P R) (hA : MI P A) (hR : RI R ro) (hkc : kc ≤ 42 + 7 * j) (hks : ks ≤ 1715 + 42 * j) : K 2423 [(5, .int (nI (5 * j))), (4, .ref 32), (3, .ref 31), (2, .ref 24), (1, .ref 1), (0, .ref 0)] [] (b, LW P R u v w kb f g e A mk ro nx pi kp km th oo od) kc ks := by
  iterate 5 refine hK _ _ _ _ _ _ (?_ : K _ _ _ _ _ _)
  refine hK _ _ _ _ _ _ (r_sld rfl (i := 5 * j + 1) (nI_add _ _) (by omega) (by omega) (?_ : K _ _ _ _ _ _))
  iterate 1 refine hK _ _ _ _ _ _ (?_ : K _ _ _ _ _ _)
  rcases ho : o_fills P R (S.2 (5 * j + 1)) with E | ⟨r9, P2, R2⟩
  · skip
    refine hK _ _ _ _ _ _ (r_callN rfl (fun _ => rfl) ⟨rfl, by show kc + 2 ≤ 601024; omega, by show ks + 12 ≤ 7293034; omega⟩ (kL_fills hI ho (fun u v w kb f g e => ?_)))
    show K 2434 _ [.int (nI (cmL E))] (false, LW P R u v w kb f g e A mk ro nx pi kp km th oo od) (kc + 2) (ks + 12)
    iterate 6 refine hK _ _ _ _ _ _ (?_ : K _ _ _ _ _ _)
    refine hK _ _ _ _ _ _ (r_sld rfl (i := 5 * j + 1) (nI_add _ _) (by omega) (by omega) (?_ : K _ _ _ _ _ _))
    refine hK _ _ _ _ _ _ (r_callV rfl (fun _ => rfl) rfl ⟨rfl, by show kc + 2 + 0 ≤ 601024; omega, by show ks + 12 + 0 ≤ 7293034; omega⟩ (kX7_fills (X := wX P R u v w kb f g e) hI hA hR (mqe ho (fun mk nx pi kp km => ?_))))
    show K 2446 _ [.int (nI 0)] (false, LW P R u v w kb f g e A mk ro nx pi kp km (nI (cmL E)) oo od) (kc + 2) (ks + 12)
    iterate 2 refine hK _ _ _ _ _ _ (?_ : K _ _ _ _ _ _)
    refine hK _ _ _ _ _ _ (r_callV rfl (fun _ => rfl) rfl ⟨rfl, by show kc + 2 + 0 ≤ 601024; omega, by show ks + 12 + 0 ≤ 7293034; omega⟩ (kX7_thrown (X := wX P R u v w kb f g e) ?_))
    show K 2452 _ [.int (nI (cmL E))] (false, LW P R u v w kb f g e A mk ro nx pi kp km (nI (cmL E)) oo od) (kc + 2) (ks + 12)
    iterate 1 refine hK _ _ _ _ _ _ (?_ : K _ _ _ _ _ _)
    refine hK _ _ _ _ _ _ (And.intro (fun _ => ?_) (fun c9 => absurd (rfl) c9))
    iterate 1 refine hK _ _ _ _ _ _ (?_ : K _ _ _ _ _ _)
    refine hK _ _ _ _ _ _ (And.intro (fun c9 => absurd c9 (cmL_n E)) (fun _ => ?_))
    iterate 3 refine hK _ _ _ _ _ _ (?_ : K _ _ _ _ _ _)
    show K 28 ((5, .int (nI (5 * j) + nI 5)) :: _) _ _ _ _
    rw [nI_add (5 * j) 5, show 5 * j + 5 = 5 * (j + 1) by omega]
    exact hW _ _ [(5, .int (nI (5 * (j + 1)))), (4, .ref 32), (3, .ref 31), (2, .ref 24), (1, .ref 1), (0, .ref 0)] _ _ _ _ (by simp) (ih _ _ _ _ _ _ _ _ _ _ _ _ _ _ _ _ _ _ _ _ _ _ hI hA hR (by omega) (by omega))
  · skip
    have hk := oK_fills (P := P) (R := R) (x := S.2 (5 * j + 1))
    rw [ho] at hk
    obtain ⟨z9, rfl⟩ := hk
    have hJ := oJ_fills hI (x := S.2 (5 * j + 1))
    rw [ho] at hJ
    have hJ : IvC P2 R2 := hJ
    refine hK _ _ _ _ _ _ (r_callN rfl (fun _ => rfl) ⟨rfl, by show kc + 2 ≤ 601024; omega, by show ks + 12 ≤ 7293034; omega⟩ (kL_fills hI ho (fun u v w kb f g e oo2 hoo => ?_)))
    show K 2434 _ [.int (nI 0)] (b, LW P2 R2 u v w kb f g e A mk ro nx pi kp km th oo2 od) (kc + 2) (ks + 12)
    iterate 6 refine hK _ _ _ _ _ _ (?_ : K _ _ _ _ _ _)
    refine hK _ _ _ _ _ _ (r_sld rfl (i := 5 * j + 1) (nI_add _ _) (by omega) (by omega) (?_ : K _ _ _ _ _ _))
    refine hK _ _ _ _ _ _ (r_callV rfl (fun _ => rfl) rfl ⟨rfl, by show kc + 2 + 0 ≤ 601024; omega, by show ks + 12 + 0 ≤ 7293034; omega⟩ (kX7_fills (X := wX P2 R2 u v w kb f g e) hI hA hR (mqe ho (fun A2 mk ro2 nx pi kp km hA2 hR2 => ?_))))
    show K 2446 _ [.int (b2i z9)] (b, LW P2 R2 u v w kb f g e A2 mk ro2 nx pi kp km (nI 0) oo2 od) (kc + 2) (ks + 12)
    iterate 2 refine hK _ _ _ _ _ _ (?_ : K _ _ _ _ _ _)
    refine hK _ _ _ _ _ _ (r_callV rfl (fun _ => rfl) rfl ⟨rfl, by show kc + 2 + 0 ≤ 601024; omega, by show ks + 12 + 0 ≤ 7293034; omega⟩ (kX7_thrown (X := wX P2 R2 u v w kb f g e) ?_))
    show K 2452 _ [.int (nI 0)] (b, LW P2 R2 u v w kb f g e A2 mk ro2 nx pi kp km (nI 0) oo2 od) (kc + 2) (ks + 12)
    iterate 1 refine hK _ _ _ _ _ _ (?_ : K _ _ _ _ _ _)
    refine hK _ _ _ _ _ _ (And.intro (fun _ => ?_) (fun c9 => absurd (rfl) c9))
    iterate 1 refine hK _ _ _ _ _ _ (?_ : K _ _ _ _ _ _)
    refine hK _ _ _ _ _ _ (And.intro (fun _ => ?_) (fun c9 => absurd (rfl) c9))
    iterate 2 refine hK _ _ _ _ _ _ (?_ : K _ _ _ _ _ _)
    refine hK _ _ _ _ _ _ (r_lald' (v := (b2i z9).toInt64) rfl (N := 1) (f := oo2) rfl (vp_in_nI (by decide) (by decide)) (by rw [nI_clamp (by decide)]; exact hoo) (?_ : K _ _ _ _ _ _))
    iterate 1 refine hK _ _ _ _ _ _ (?_ : K _ _ _ _ _ _)
    refine hK _ _ _ _ _ _ (And.intro (fun c1 => ?_) (fun c1 => ?_))
    · skip
      iterate 2 refine hK _ _ _ _ _ _ (?_ : K _ _ _ _ _ _)
      refine hK _ _ _ _ _ _ (And.intro (fun _ => ?_) (fun c9 => absurd ((lg_cmp_eq _ _).mpr (by rw [b2L, b2i_0.mp c1]; rfl)) c9))
      iterate 3 refine hK _ _ _ _ _ _ (?_ : K _ _ _ _ _ _)
      show K 28 ((5, .int (nI (5 * j) + nI 5)) :: _) _ _ _ _
      rw [nI_add (5 * j) 5, show 5 * j + 5 = 5 * (j + 1) by omega]
      exact hW _ _ [(5, .int (nI (5 * (j + 1)))), (4, .ref 32), (3, .ref 31), (2, .ref 24), (1, .ref 1), (0, .ref 0)] _ _ _ _ (by simp) (ih _ _ _ _ _ _ _ _ _ _ _ _ _ _ _ _ _ _ _ _ _ _ hJ hA2 hR2 (by omega) (by omega))
    · skip
      iterate 3 refine hK _ _ _ _ _ _ (?_ : K _ _ _ _ _ _)
      refine hK _ _ _ _ _ _ (And.intro (fun _ => ?_) (fun c9 => absurd ((lg_cmp_eq _ _).mpr (by rw [b2L, show z9 = true from Bool.of_not_eq_false fun c8 => c1 (b2i_0.mpr c8)]; rfl)) c9))
      iterate 3 refine hK _ _ _ _ _ _ (?_ : K _ _ _ _ _ _)
      show K 28 ((5, .int (nI (5 * j) + nI 5)) :: _) _ _ _ _
      rw [nI_add (5 * j) 5, show 5 * j + 5 = 5 * (j + 1) by omega]
      exact hW _ _ [(5, .int (nI (5 * (j + 1)))), (4, .ref 32), (3, .ref 31), (2, .ref 24), (1, .ref 1), (0, .ref 0)] _ _ _ _ (by simp) (ih _ _ _ _ _ _ _ _ _ _ _ _ _ _ _ _ _ _ _ _ _ _ hJ hA2 hR2 (by omega) (by omega))

set_option maxRecDepth 10000 in
/-- case 34: mean -/
theorem lc_mean {S : Nat × (Nat → Int32)} {d : Nat} {Q : eQ} {K : eK} (hK : ∀ (pc : Nat) (ls : eL) (st : List Value) (h : eH) (kc ks : Nat), eStep S MT (okCall S MT (d + 9)) ML_law (d + 9 + 1) Q K pc ls st h kc ks → K pc ls st h kc ks) (hW : ∀ (pc : Nat) (ls ls2 : eL) (st : List Value) (h : eH) (kc ks : Nat), (∀ q ∈ ls2, q ∈ ls) → K pc ls2 st h kc ks → K pc ls st h kc ks) {j : Nat} (h5 : 5 * j + 5 ≤ S.1) (hS : S.1 ≤ 2560) (ih : LN K (j + 1)) {b : Bool} {P : Nat → Nat → Bool} {R u v w : Nat → Bool} {kb : Nat → Nat} {f g e : Nat → Int32} {A mk ro nx pi : Nat → Int32} {kp : Nat → Int64} {km th : Int32} {oo : Nat → Int64} {od : Nat → UInt64} {kc ks : Nat} (hI : IvC P R) (hA : MI P A) (hR : RI R ro) (hkc : kc ≤ 42 + 7 * j) (hks : ks ≤ 1715 + 42 * j) : K 2486 [(5, .int (nI (5 * j))), (4, .ref 32), (3, .ref 31), (2, .ref 24), (1, .ref 1), (0, .ref 0)] [] (b, LW P R u v w kb f g e A mk ro nx pi kp km th oo od) kc ks := by
  iterate 5 refine hK _ _ _ _ _ _ (?_ : K _ _ _ _ _ _)
  refine hK _ _ _ _ _ _ (r_sld rfl (i := 5 * j + 1) (nI_add _ _) (by omega) (by omega) (?_ : K _ _ _ _ _ _))
  iterate 1 refine hK _ _ _ _ _ _ (?_ : K _ _ _ _ _ _)
  rcases ho : o_mean P R (S.2 (5 * j + 1)) with E | ⟨r9, P2, R2⟩
  · skip
    refine hK _ _ _ _ _ _ (r_callN rfl (fun _ => rfl) ⟨rfl, by show kc + 2 ≤ 601024; omega, by show ks + 12 ≤ 7293034; omega⟩ (kL_mean hI ho (fun u v w kb f g e => ?_)))
    show K 2498 _ [.int (nI (cmM E))] (false, LW P R u v w kb f g e A mk ro nx pi kp km th oo od) (kc + 2) (ks + 12)
    iterate 6 refine hK _ _ _ _ _ _ (?_ : K _ _ _ _ _ _)
    refine hK _ _ _ _ _ _ (r_sld rfl (i := 5 * j + 1) (nI_add _ _) (by omega) (by omega) (?_ : K _ _ _ _ _ _))
    refine hK _ _ _ _ _ _ (r_callV rfl (fun _ => rfl) rfl ⟨rfl, by show kc + 2 + 0 ≤ 601024; omega, by show ks + 12 + 0 ≤ 7293034; omega⟩ (kX7_mean (X := wX P R u v w kb f g e) hI hA hR (mqe ho (fun mk nx pi kp km => ?_))))
    show K 2510 _ [.double FP.dconst0] (false, LW P R u v w kb f g e A mk ro nx pi kp km (nI (cmM E)) oo od) (kc + 2) (ks + 12)
    iterate 2 refine hK _ _ _ _ _ _ (?_ : K _ _ _ _ _ _)
    refine hK _ _ _ _ _ _ (r_callV rfl (fun _ => rfl) rfl ⟨rfl, by show kc + 2 + 0 ≤ 601024; omega, by show ks + 12 + 0 ≤ 7293034; omega⟩ (kX7_thrown (X := wX P R u v w kb f g e) ?_))
    show K 2516 _ [.int (nI (cmM E))] (false, LW P R u v w kb f g e A mk ro nx pi kp km (nI (cmM E)) oo od) (kc + 2) (ks + 12)
    iterate 1 refine hK _ _ _ _ _ _ (?_ : K _ _ _ _ _ _)
    refine hK _ _ _ _ _ _ (And.intro (fun _ => ?_) (fun c9 => absurd (rfl) c9))
    iterate 1 refine hK _ _ _ _ _ _ (?_ : K _ _ _ _ _ _)
    refine hK _ _ _ _ _ _ (And.intro (fun c9 => absurd c9 (cmM_n E)) (fun _ => ?_))
    iterate 3 refine hK _ _ _ _ _ _ (?_ : K _ _ _ _ _ _)
    show K 28 ((5, .int (nI (5 * j) + nI 5)) :: _) _ _ _ _
    rw [nI_add (5 * j) 5, show 5 * j + 5 = 5 * (j + 1) by omega]
    exact hW _ _ [(5, .int (nI (5 * (j + 1)))), (4, .ref 32), (3, .ref 31), (2, .ref 24), (1, .ref 1), (0, .ref 0)] _ _ _ _ (by simp) (ih _ _ _ _ _ _ _ _ _ _ _ _ _ _ _ _ _ _ _ _ _ _ hI hA hR (by omega) (by omega))
  · skip
    have hk := oK_mean (P := P) (R := R) (x := S.2 (5 * j + 1))
    rw [ho] at hk
    obtain ⟨x9, rfl, hx9⟩ := hk
    have hJ := oJ_mean hI (x := S.2 (5 * j + 1))
    rw [ho] at hJ
    have hJ : IvC P2 R2 := hJ
    refine hK _ _ _ _ _ _ (r_callN rfl (fun _ => rfl) ⟨rfl, by show kc + 2 ≤ 601024; omega, by show ks + 12 ≤ 7293034; omega⟩ (kL_mean hI ho (fun u v w kb f g e od2 hoo => ?_)))
    show K 2498 _ [.int (nI 0)] (b, LW P2 R2 u v w kb f g e A mk ro nx pi kp km th oo od2) (kc + 2) (ks + 12)
    iterate 6 refine hK _ _ _ _ _ _ (?_ : K _ _ _ _ _ _)
    refine hK _ _ _ _ _ _ (r_sld rfl (i := 5 * j + 1) (nI_add _ _) (by omega) (by omega) (?_ : K _ _ _ _ _ _))
    refine hK _ _ _ _ _ _ (r_callV rfl (fun _ => rfl) rfl ⟨rfl, by show kc + 2 + 0 ≤ 601024; omega, by show ks + 12 + 0 ≤ 7293034; omega⟩ (kX7_mean (X := wX P2 R2 u v w kb f g e) hI hA hR (mqe ho (fun A2 mk ro2 nx pi kp km hA2 hR2 => ?_))))
    show K 2510 _ [.double x9] (b, LW P2 R2 u v w kb f g e A2 mk ro2 nx pi kp km (nI 0) oo od2) (kc + 2) (ks + 12)
    iterate 2 refine hK _ _ _ _ _ _ (?_ : K _ _ _ _ _ _)
    refine hK _ _ _ _ _ _ (r_callV rfl (fun _ => rfl) rfl ⟨rfl, by show kc + 2 + 0 ≤ 601024; omega, by show ks + 12 + 0 ≤ 7293034; omega⟩ (kX7_thrown (X := wX P2 R2 u v w kb f g e) ?_))
    show K 2516 _ [.int (nI 0)] (b, LW P2 R2 u v w kb f g e A2 mk ro2 nx pi kp km (nI 0) oo od2) (kc + 2) (ks + 12)
    iterate 1 refine hK _ _ _ _ _ _ (?_ : K _ _ _ _ _ _)
    refine hK _ _ _ _ _ _ (And.intro (fun _ => ?_) (fun c9 => absurd (rfl) c9))
    iterate 1 refine hK _ _ _ _ _ _ (?_ : K _ _ _ _ _ _)
    refine hK _ _ _ _ _ _ (And.intro (fun _ => ?_) (fun c9 => absurd (rfl) c9))
    iterate 2 refine hK _ _ _ _ _ _ (?_ : K _ _ _ _ _ _)
    refine hK _ _ _ _ _ _ (r_dald (v := x9) rfl (N := 1) (f := od2) rfl (vp_in_nI (by decide) (by decide)) (by rw [nI_clamp (by decide)]; exact hoo) (?_ : K _ _ _ _ _ _))
    iterate 2 refine hK _ _ _ _ _ _ (?_ : K _ _ _ _ _ _)
    refine hK _ _ _ _ _ _ (And.intro (fun _ => ?_) (fun c9 => absurd ((by rw [dcmp_s hx9]; rfl)) c9))
    iterate 3 refine hK _ _ _ _ _ _ (?_ : K _ _ _ _ _ _)
    show K 28 ((5, .int (nI (5 * j) + nI 5)) :: _) _ _ _ _
    rw [nI_add (5 * j) 5, show 5 * j + 5 = 5 * (j + 1) by omega]
    exact hW _ _ [(5, .int (nI (5 * (j + 1)))), (4, .ref 32), (3, .ref 31), (2, .ref 24), (1, .ref 1), (0, .ref 0)] _ _ _ _ (by simp) (ih _ _ _ _ _ _ _ _ _ _ _ _ _ _ _ _ _ _ _ _ _ _ hJ hA2 hR2 (by omega) (by omega))

set_option maxRecDepth 10000 in
/-- case 35: share -/
theorem lc_share {S : Nat × (Nat → Int32)} {d : Nat} {Q : eQ} {K : eK} (hK : ∀ (pc : Nat) (ls : eL) (st : List Value) (h : eH) (kc ks : Nat), eStep S MT (okCall S MT (d + 9)) ML_law (d + 9 + 1) Q K pc ls st h kc ks → K pc ls st h kc ks) (hW : ∀ (pc : Nat) (ls ls2 : eL) (st : List Value) (h : eH) (kc ks : Nat), (∀ q ∈ ls2, q ∈ ls) → K pc ls2 st h kc ks → K pc ls st h kc ks) {j : Nat} (h5 : 5 * j + 5 ≤ S.1) (hS : S.1 ≤ 2560) (ih : LN K (j + 1)) {b : Bool} {P : Nat → Nat → Bool} {R u v w : Nat → Bool} {kb : Nat → Nat} {f g e : Nat → Int32} {A mk ro nx pi : Nat → Int32} {kp : Nat → Int64} {km th : Int32} {oo : Nat → Int64} {od : Nat → UInt64} {kc ks : Nat} (hI : IvC P R) (hA : MI P A) (hR : RI R ro) (hkc : kc ≤ 42 + 7 * j) (hks : ks ≤ 1715 + 42 * j) : K 2563 [(5, .int (nI (5 * j))), (4, .ref 32), (3, .ref 31), (2, .ref 24), (1, .ref 1), (0, .ref 0)] [] (b, LW P R u v w kb f g e A mk ro nx pi kp km th oo od) kc ks := by
  iterate 5 refine hK _ _ _ _ _ _ (?_ : K _ _ _ _ _ _)
  refine hK _ _ _ _ _ _ (r_sld rfl (i := 5 * j + 1) (nI_add _ _) (by omega) (by omega) (?_ : K _ _ _ _ _ _))
  iterate 1 refine hK _ _ _ _ _ _ (?_ : K _ _ _ _ _ _)
  rcases ho : o_share P R (S.2 (5 * j + 1)) with E | ⟨r9, P2, R2⟩
  · skip
    refine hK _ _ _ _ _ _ (r_callN rfl (fun _ => rfl) ⟨rfl, by show kc + 1 ≤ 601024; omega, by show ks + 6 ≤ 7293034; omega⟩ (kL_share hI ho (fun u v w kb f g e => ?_)))
    show K 2575 _ [.int (nI (cmA E))] (false, LW P R u v w kb f g e A mk ro nx pi kp km th oo od) (kc + 1) (ks + 6)
    iterate 6 refine hK _ _ _ _ _ _ (?_ : K _ _ _ _ _ _)
    refine hK _ _ _ _ _ _ (r_sld rfl (i := 5 * j + 1) (nI_add _ _) (by omega) (by omega) (?_ : K _ _ _ _ _ _))
    refine hK _ _ _ _ _ _ (r_callV rfl (fun _ => rfl) rfl ⟨rfl, by show kc + 1 + 0 ≤ 601024; omega, by show ks + 6 + 0 ≤ 7293034; omega⟩ (kX7_share (X := wX P R u v w kb f g e) hI hA hR (mqe ho (fun mk nx pi kp km => ?_))))
    show K 2587 _ [.float FP.fconst0] (false, LW P R u v w kb f g e A mk ro nx pi kp km (nI (cmA E)) oo od) (kc + 1) (ks + 6)
    iterate 2 refine hK _ _ _ _ _ _ (?_ : K _ _ _ _ _ _)
    refine hK _ _ _ _ _ _ (r_callV rfl (fun _ => rfl) rfl ⟨rfl, by show kc + 1 + 0 ≤ 601024; omega, by show ks + 6 + 0 ≤ 7293034; omega⟩ (kX7_thrown (X := wX P R u v w kb f g e) ?_))
    show K 2593 _ [.int (nI (cmA E))] (false, LW P R u v w kb f g e A mk ro nx pi kp km (nI (cmA E)) oo od) (kc + 1) (ks + 6)
    iterate 1 refine hK _ _ _ _ _ _ (?_ : K _ _ _ _ _ _)
    refine hK _ _ _ _ _ _ (And.intro (fun _ => ?_) (fun c9 => absurd (rfl) c9))
    iterate 1 refine hK _ _ _ _ _ _ (?_ : K _ _ _ _ _ _)
    refine hK _ _ _ _ _ _ (And.intro (fun c9 => absurd c9 (cmA_n E)) (fun _ => ?_))
    iterate 3 refine hK _ _ _ _ _ _ (?_ : K _ _ _ _ _ _)
    show K 28 ((5, .int (nI (5 * j) + nI 5)) :: _) _ _ _ _
    rw [nI_add (5 * j) 5, show 5 * j + 5 = 5 * (j + 1) by omega]
    exact hW _ _ [(5, .int (nI (5 * (j + 1)))), (4, .ref 32), (3, .ref 31), (2, .ref 24), (1, .ref 1), (0, .ref 0)] _ _ _ _ (by simp) (ih _ _ _ _ _ _ _ _ _ _ _ _ _ _ _ _ _ _ _ _ _ _ hI hA hR (by omega) (by omega))
  · skip
    have hk := oK_share (P := P) (R := R) (x := S.2 (5 * j + 1))
    rw [ho] at hk
    obtain ⟨x9, rfl, hx9⟩ := hk
    have hJ := oJ_share hI (x := S.2 (5 * j + 1))
    rw [ho] at hJ
    have hJ : IvC P2 R2 := hJ
    refine hK _ _ _ _ _ _ (r_callN rfl (fun _ => rfl) ⟨rfl, by show kc + 1 ≤ 601024; omega, by show ks + 6 ≤ 7293034; omega⟩ (kL_share hI ho (fun u v w kb f g e od2 hoo => ?_)))
    show K 2575 _ [.int (nI 0)] (b, LW P2 R2 u v w kb f g e A mk ro nx pi kp km th oo od2) (kc + 1) (ks + 6)
    iterate 6 refine hK _ _ _ _ _ _ (?_ : K _ _ _ _ _ _)
    refine hK _ _ _ _ _ _ (r_sld rfl (i := 5 * j + 1) (nI_add _ _) (by omega) (by omega) (?_ : K _ _ _ _ _ _))
    refine hK _ _ _ _ _ _ (r_callV rfl (fun _ => rfl) rfl ⟨rfl, by show kc + 1 + 0 ≤ 601024; omega, by show ks + 6 + 0 ≤ 7293034; omega⟩ (kX7_share (X := wX P2 R2 u v w kb f g e) hI hA hR (mqe ho (fun A2 mk ro2 nx pi kp km hA2 hR2 => ?_))))
    show K 2587 _ [.float x9] (b, LW P2 R2 u v w kb f g e A2 mk ro2 nx pi kp km (nI 0) oo od2) (kc + 1) (ks + 6)
    iterate 2 refine hK _ _ _ _ _ _ (?_ : K _ _ _ _ _ _)
    refine hK _ _ _ _ _ _ (r_callV rfl (fun _ => rfl) rfl ⟨rfl, by show kc + 1 + 0 ≤ 601024; omega, by show ks + 6 + 0 ≤ 7293034; omega⟩ (kX7_thrown (X := wX P2 R2 u v w kb f g e) ?_))
    show K 2593 _ [.int (nI 0)] (b, LW P2 R2 u v w kb f g e A2 mk ro2 nx pi kp km (nI 0) oo od2) (kc + 1) (ks + 6)
    iterate 1 refine hK _ _ _ _ _ _ (?_ : K _ _ _ _ _ _)
    refine hK _ _ _ _ _ _ (And.intro (fun _ => ?_) (fun c9 => absurd (rfl) c9))
    iterate 1 refine hK _ _ _ _ _ _ (?_ : K _ _ _ _ _ _)
    refine hK _ _ _ _ _ _ (And.intro (fun _ => ?_) (fun c9 => absurd (rfl) c9))
    iterate 2 refine hK _ _ _ _ _ _ (?_ : K _ _ _ _ _ _)
    refine hK _ _ _ _ _ _ (r_dald (v := FP.f2d x9) rfl (N := 1) (f := od2) rfl (vp_in_nI (by decide) (by decide)) (by rw [nI_clamp (by decide)]; exact hoo) (?_ : K _ _ _ _ _ _))
    iterate 1 refine hK _ _ _ _ _ _ (?_ : K _ _ _ _ _ _)
    refine hK _ _ _ _ _ _ (r_f2d rfl (f2d_n hx9) (?_ : K _ _ _ _ _ _))
    iterate 1 refine hK _ _ _ _ _ _ (?_ : K _ _ _ _ _ _)
    refine hK _ _ _ _ _ _ (And.intro (fun _ => ?_) (fun c9 => absurd ((by rw [dcmp_s (f2d_n hx9)]; rfl)) c9))
    iterate 3 refine hK _ _ _ _ _ _ (?_ : K _ _ _ _ _ _)
    show K 28 ((5, .int (nI (5 * j) + nI 5)) :: _) _ _ _ _
    rw [nI_add (5 * j) 5, show 5 * j + 5 = 5 * (j + 1) by omega]
    exact hW _ _ [(5, .int (nI (5 * (j + 1)))), (4, .ref 32), (3, .ref 31), (2, .ref 24), (1, .ref 1), (0, .ref 0)] _ _ _ _ (by simp) (ih _ _ _ _ _ _ _ _ _ _ _ _ _ _ _ _ _ _ _ _ _ _ hJ hA2 hR2 (by omega) (by omega))

set_option maxRecDepth 10000 in
/-- case 36: checksum -/
theorem lc_checksum {S : Nat × (Nat → Int32)} {d : Nat} {Q : eQ} {K : eK} (hK : ∀ (pc : Nat) (ls : eL) (st : List Value) (h : eH) (kc ks : Nat), eStep S MT (okCall S MT (d + 9)) ML_law (d + 9 + 1) Q K pc ls st h kc ks → K pc ls st h kc ks) (hW : ∀ (pc : Nat) (ls ls2 : eL) (st : List Value) (h : eH) (kc ks : Nat), (∀ q ∈ ls2, q ∈ ls) → K pc ls2 st h kc ks → K pc ls st h kc ks) {j : Nat} (h5 : 5 * j + 5 ≤ S.1) (hS : S.1 ≤ 2560) (ih : LN K (j + 1)) {b : Bool} {P : Nat → Nat → Bool} {R u v w : Nat → Bool} {kb : Nat → Nat} {f g e : Nat → Int32} {A mk ro nx pi : Nat → Int32} {kp : Nat → Int64} {km th : Int32} {oo : Nat → Int64} {od : Nat → UInt64} {kc ks : Nat} (hI : IvC P R) (hA : MI P A) (hR : RI R ro) (hkc : kc ≤ 42 + 7 * j) (hks : ks ≤ 1715 + 42 * j) : K 2641 [(5, .int (nI (5 * j))), (4, .ref 32), (3, .ref 31), (2, .ref 24), (1, .ref 1), (0, .ref 0)] [] (b, LW P R u v w kb f g e A mk ro nx pi kp km th oo od) kc ks := by
  iterate 1 refine hK _ _ _ _ _ _ (?_ : K _ _ _ _ _ _)
  refine hK _ _ _ _ _ _ (r_callV rfl (fun _ => rfl) rfl ⟨rfl, by show kc + 0 ≤ 601024; omega, by show ks + 0 ≤ 7293034; omega⟩ (kX6_checksum ?_))
  show K 2645 _ [.long (ckF R (ckP P 6) 128)] (b, LW P R u v w kb f g e A mk ro nx pi kp km th oo od) kc ks
  iterate 1 refine hK _ _ _ _ _ _ (?_ : K _ _ _ _ _ _)
  refine hK _ _ _ _ _ _ (r_callV rfl (fun _ => rfl) rfl ⟨rfl, by show kc + 0 ≤ 601024; omega, by show ks + 0 ≤ 7293034; omega⟩ (kX7_checksum (X := wX P R u v w kb f g e) hI hA hR ?_))
  show K 2649 _ [.long (ckF R (ckP P 6) 128), .long (ckF R (ckP P 6) 128)] (b, LW P R u v w kb f g e A mk ro nx pi kp km th oo od) kc ks
  iterate 1 refine hK _ _ _ _ _ _ (?_ : K _ _ _ _ _ _)
  refine hK _ _ _ _ _ _ (And.intro (fun _ => ?_) (fun c9 => absurd ((lg_cmp_eq _ _).mpr rfl) c9))
  iterate 2 refine hK _ _ _ _ _ _ (?_ : K _ _ _ _ _ _)
  show K 28 ((5, .int (nI (5 * j) + nI 5)) :: _) _ _ _ _
  rw [nI_add (5 * j) 5, show 5 * j + 5 = 5 * (j + 1) by omega]
  exact hW _ _ [(5, .int (nI (5 * (j + 1)))), (4, .ref 32), (3, .ref 31), (2, .ref 24), (1, .ref 1), (0, .ref 0)] _ _ _ _ (by simp) (ih _ _ _ _ _ _ _ _ _ _ _ _ _ _ _ _ _ _ _ _ _ _ hI hA hR (by omega) (by omega))

set_option maxRecDepth 10000 in
/-- case 37: isSound -/
theorem lc_isSound {S : Nat × (Nat → Int32)} {d : Nat} {Q : eQ} {K : eK} (hK : ∀ (pc : Nat) (ls : eL) (st : List Value) (h : eH) (kc ks : Nat), eStep S MT (okCall S MT (d + 9)) ML_law (d + 9 + 1) Q K pc ls st h kc ks → K pc ls st h kc ks) (hW : ∀ (pc : Nat) (ls ls2 : eL) (st : List Value) (h : eH) (kc ks : Nat), (∀ q ∈ ls2, q ∈ ls) → K pc ls2 st h kc ks → K pc ls st h kc ks) {j : Nat} (h5 : 5 * j + 5 ≤ S.1) (hS : S.1 ≤ 2560) (ih : LN K (j + 1)) {b : Bool} {P : Nat → Nat → Bool} {R u v w : Nat → Bool} {kb : Nat → Nat} {f g e : Nat → Int32} {A mk ro nx pi : Nat → Int32} {kp : Nat → Int64} {km th : Int32} {oo : Nat → Int64} {od : Nat → UInt64} {kc ks : Nat} (hI : IvC P R) (hA : MI P A) (hR : RI R ro) (hkc : kc ≤ 42 + 7 * j) (hks : ks ≤ 1715 + 42 * j) : K 2655 [(5, .int (nI (5 * j))), (4, .ref 32), (3, .ref 31), (2, .ref 24), (1, .ref 1), (0, .ref 0)] [] (b, LW P R u v w kb f g e A mk ro nx pi kp km th oo od) kc ks := by
  iterate 5 refine hK _ _ _ _ _ _ (?_ : K _ _ _ _ _ _)
  refine hK _ _ _ _ _ _ (r_sld rfl (i := 5 * j + 1) (nI_add _ _) (by omega) (by omega) (?_ : K _ _ _ _ _ _))
  iterate 1 refine hK _ _ _ _ _ _ (?_ : K _ _ _ _ _ _)
  rcases ho : o_isSound P R (S.2 (5 * j + 1)) with E | ⟨r9, P2, R2⟩
  · skip
    refine hK _ _ _ _ _ _ (r_callN rfl (fun _ => rfl) ⟨rfl, by show kc + 1 ≤ 601024; omega, by show ks + 6 ≤ 7293034; omega⟩ (kL_isSound hI ho (fun u v w kb f g e => ?_)))
    show K 2666 _ [.int (nI (cmA E))] (false, LW P R u v w kb f g e A mk ro nx pi kp km th oo od) (kc + 1) (ks + 6)
    iterate 6 refine hK _ _ _ _ _ _ (?_ : K _ _ _ _ _ _)
    refine hK _ _ _ _ _ _ (r_sld rfl (i := 5 * j + 1) (nI_add _ _) (by omega) (by omega) (?_ : K _ _ _ _ _ _))
    refine hK _ _ _ _ _ _ (r_callV rfl (fun _ => rfl) rfl ⟨rfl, by show kc + 1 + 0 ≤ 601024; omega, by show ks + 6 + 0 ≤ 7293034; omega⟩ (kX7_isSound (X := wX P R u v w kb f g e) hI hA hR (mqe ho (fun mk nx pi kp km => ?_))))
    show K 2678 _ [.int (nI 0)] (false, LW P R u v w kb f g e A mk ro nx pi kp km (nI (cmA E)) oo od) (kc + 1) (ks + 6)
    iterate 2 refine hK _ _ _ _ _ _ (?_ : K _ _ _ _ _ _)
    refine hK _ _ _ _ _ _ (r_callV rfl (fun _ => rfl) rfl ⟨rfl, by show kc + 1 + 0 ≤ 601024; omega, by show ks + 6 + 0 ≤ 7293034; omega⟩ (kX7_thrown (X := wX P R u v w kb f g e) ?_))
    show K 2684 _ [.int (nI (cmA E))] (false, LW P R u v w kb f g e A mk ro nx pi kp km (nI (cmA E)) oo od) (kc + 1) (ks + 6)
    iterate 1 refine hK _ _ _ _ _ _ (?_ : K _ _ _ _ _ _)
    refine hK _ _ _ _ _ _ (And.intro (fun _ => ?_) (fun c9 => absurd (rfl) c9))
    iterate 1 refine hK _ _ _ _ _ _ (?_ : K _ _ _ _ _ _)
    refine hK _ _ _ _ _ _ (And.intro (fun c9 => absurd c9 (cmA_n E)) (fun _ => ?_))
    iterate 3 refine hK _ _ _ _ _ _ (?_ : K _ _ _ _ _ _)
    show K 28 ((5, .int (nI (5 * j) + nI 5)) :: _) _ _ _ _
    rw [nI_add (5 * j) 5, show 5 * j + 5 = 5 * (j + 1) by omega]
    exact hW _ _ [(5, .int (nI (5 * (j + 1)))), (4, .ref 32), (3, .ref 31), (2, .ref 24), (1, .ref 1), (0, .ref 0)] _ _ _ _ (by simp) (ih _ _ _ _ _ _ _ _ _ _ _ _ _ _ _ _ _ _ _ _ _ _ hI hA hR (by omega) (by omega))
  · skip
    have hk := oK_isSound (P := P) (R := R) (x := S.2 (5 * j + 1))
    rw [ho] at hk
    obtain ⟨z9, rfl⟩ := hk
    have hJ := oJ_isSound hI (x := S.2 (5 * j + 1))
    rw [ho] at hJ
    have hJ : IvC P2 R2 := hJ
    refine hK _ _ _ _ _ _ (r_callN rfl (fun _ => rfl) ⟨rfl, by show kc + 1 ≤ 601024; omega, by show ks + 6 ≤ 7293034; omega⟩ (kL_isSound hI ho (fun u v w kb f g e oo2 hoo => ?_)))
    show K 2666 _ [.int (nI 0)] (b, LW P2 R2 u v w kb f g e A mk ro nx pi kp km th oo2 od) (kc + 1) (ks + 6)
    iterate 6 refine hK _ _ _ _ _ _ (?_ : K _ _ _ _ _ _)
    refine hK _ _ _ _ _ _ (r_sld rfl (i := 5 * j + 1) (nI_add _ _) (by omega) (by omega) (?_ : K _ _ _ _ _ _))
    refine hK _ _ _ _ _ _ (r_callV rfl (fun _ => rfl) rfl ⟨rfl, by show kc + 1 + 0 ≤ 601024; omega, by show ks + 6 + 0 ≤ 7293034; omega⟩ (kX7_isSound (X := wX P2 R2 u v w kb f g e) hI hA hR (mqe ho (fun A2 mk ro2 nx pi kp km hA2 hR2 => ?_))))
    show K 2678 _ [.int (b2i z9)] (b, LW P2 R2 u v w kb f g e A2 mk ro2 nx pi kp km (nI 0) oo2 od) (kc + 1) (ks + 6)
    iterate 2 refine hK _ _ _ _ _ _ (?_ : K _ _ _ _ _ _)
    refine hK _ _ _ _ _ _ (r_callV rfl (fun _ => rfl) rfl ⟨rfl, by show kc + 1 + 0 ≤ 601024; omega, by show ks + 6 + 0 ≤ 7293034; omega⟩ (kX7_thrown (X := wX P2 R2 u v w kb f g e) ?_))
    show K 2684 _ [.int (nI 0)] (b, LW P2 R2 u v w kb f g e A2 mk ro2 nx pi kp km (nI 0) oo2 od) (kc + 1) (ks + 6)
    iterate 1 refine hK _ _ _ _ _ _ (?_ : K _ _ _ _ _ _)
    refine hK _ _ _ _ _ _ (And.intro (fun _ => ?_) (fun c9 => absurd (rfl) c9))
    iterate 1 refine hK _ _ _ _ _ _ (?_ : K _ _ _ _ _ _)
    refine hK _ _ _ _ _ _ (And.intro (fun _ => ?_) (fun c9 => absurd (rfl) c9))
    iterate 2 refine hK _ _ _ _ _ _ (?_ : K _ _ _ _ _ _)
    refine hK _ _ _ _ _ _ (r_lald' (v := (b2i z9).toInt64) rfl (N := 1) (f := oo2) rfl (vp_in_nI (by decide) (by decide)) (by rw [nI_clamp (by decide)]; exact hoo) (?_ : K _ _ _ _ _ _))
    iterate 1 refine hK _ _ _ _ _ _ (?_ : K _ _ _ _ _ _)
    refine hK _ _ _ _ _ _ (And.intro (fun c1 => ?_) (fun c1 => ?_))
    · skip
      iterate 2 refine hK _ _ _ _ _ _ (?_ : K _ _ _ _ _ _)
      refine hK _ _ _ _ _ _ (And.intro (fun _ => ?_) (fun c9 => absurd ((lg_cmp_eq _ _).mpr (by rw [b2L, b2i_0.mp c1]; rfl)) c9))
      iterate 3 refine hK _ _ _ _ _ _ (?_ : K _ _ _ _ _ _)
      show K 28 ((5, .int (nI (5 * j) + nI 5)) :: _) _ _ _ _
      rw [nI_add (5 * j) 5, show 5 * j + 5 = 5 * (j + 1) by omega]
      exact hW _ _ [(5, .int (nI (5 * (j + 1)))), (4, .ref 32), (3, .ref 31), (2, .ref 24), (1, .ref 1), (0, .ref 0)] _ _ _ _ (by simp) (ih _ _ _ _ _ _ _ _ _ _ _ _ _ _ _ _ _ _ _ _ _ _ hJ hA2 hR2 (by omega) (by omega))
    · skip
      iterate 3 refine hK _ _ _ _ _ _ (?_ : K _ _ _ _ _ _)
      refine hK _ _ _ _ _ _ (And.intro (fun _ => ?_) (fun c9 => absurd ((lg_cmp_eq _ _).mpr (by rw [b2L, show z9 = true from Bool.of_not_eq_false fun c8 => c1 (b2i_0.mpr c8)]; rfl)) c9))
      iterate 3 refine hK _ _ _ _ _ _ (?_ : K _ _ _ _ _ _)
      show K 28 ((5, .int (nI (5 * j) + nI 5)) :: _) _ _ _ _
      rw [nI_add (5 * j) 5, show 5 * j + 5 = 5 * (j + 1) by omega]
      exact hW _ _ [(5, .int (nI (5 * (j + 1)))), (4, .ref 32), (3, .ref 31), (2, .ref 24), (1, .ref 1), (0, .ref 0)] _ _ _ _ (by simp) (ih _ _ _ _ _ _ _ _ _ _ _ _ _ _ _ _ _ _ _ _ _ _ hJ hA2 hR2 (by omega) (by omega))

set_option maxRecDepth 10000 in
/-- case 38: isTrue -/
theorem lc_isTrue {S : Nat × (Nat → Int32)} {d : Nat} {Q : eQ} {K : eK} (hK : ∀ (pc : Nat) (ls : eL) (st : List Value) (h : eH) (kc ks : Nat), eStep S MT (okCall S MT (d + 9)) ML_law (d + 9 + 1) Q K pc ls st h kc ks → K pc ls st h kc ks) (hW : ∀ (pc : Nat) (ls ls2 : eL) (st : List Value) (h : eH) (kc ks : Nat), (∀ q ∈ ls2, q ∈ ls) → K pc ls2 st h kc ks → K pc ls st h kc ks) {j : Nat} (h5 : 5 * j + 5 ≤ S.1) (hS : S.1 ≤ 2560) (ih : LN K (j + 1)) {b : Bool} {P : Nat → Nat → Bool} {R u v w : Nat → Bool} {kb : Nat → Nat} {f g e : Nat → Int32} {A mk ro nx pi : Nat → Int32} {kp : Nat → Int64} {km th : Int32} {oo : Nat → Int64} {od : Nat → UInt64} {kc ks : Nat} (hI : IvC P R) (hA : MI P A) (hR : RI R ro) (hkc : kc ≤ 42 + 7 * j) (hks : ks ≤ 1715 + 42 * j) : K 2718 [(5, .int (nI (5 * j))), (4, .ref 32), (3, .ref 31), (2, .ref 24), (1, .ref 1), (0, .ref 0)] [] (b, LW P R u v w kb f g e A mk ro nx pi kp km th oo od) kc ks := by
  iterate 5 refine hK _ _ _ _ _ _ (?_ : K _ _ _ _ _ _)
  refine hK _ _ _ _ _ _ (r_sld rfl (i := 5 * j + 1) (nI_add _ _) (by omega) (by omega) (?_ : K _ _ _ _ _ _))
  iterate 4 refine hK _ _ _ _ _ _ (?_ : K _ _ _ _ _ _)
  refine hK _ _ _ _ _ _ (r_sld rfl (i := 5 * j + 2) (nI_add _ _) (by omega) (by omega) (?_ : K _ _ _ _ _ _))
  iterate 4 refine hK _ _ _ _ _ _ (?_ : K _ _ _ _ _ _)
  refine hK _ _ _ _ _ _ (r_sld rfl (i := 5 * j + 3) (nI_add _ _) (by omega) (by omega) (?_ : K _ _ _ _ _ _))
  iterate 1 refine hK _ _ _ _ _ _ (?_ : K _ _ _ _ _ _)
  rcases ho : o_isTrue P R (S.2 (5 * j + 1)) (S.2 (5 * j + 2)) (S.2 (5 * j + 3)) with E | ⟨r9, P2, R2⟩
  · skip
    refine hK _ _ _ _ _ _ (r_callN rfl (fun _ => rfl) ⟨rfl, by show kc + 3 ≤ 601024; omega, by show ks + 18 ≤ 7293034; omega⟩ (kL_isTrue hI ho (fun u v w kb f g e => ?_)))
    show K 2741 _ [.int (nI (cmA E))] (false, LW P R u v w kb f g e A mk ro nx pi kp km th oo od) (kc + 3) (ks + 18)
    iterate 6 refine hK _ _ _ _ _ _ (?_ : K _ _ _ _ _ _)
    refine hK _ _ _ _ _ _ (r_sld rfl (i := 5 * j + 1) (nI_add _ _) (by omega) (by omega) (?_ : K _ _ _ _ _ _))
    iterate 4 refine hK _ _ _ _ _ _ (?_ : K _ _ _ _ _ _)
    refine hK _ _ _ _ _ _ (r_sld rfl (i := 5 * j + 2) (nI_add _ _) (by omega) (by omega) (?_ : K _ _ _ _ _ _))
    iterate 4 refine hK _ _ _ _ _ _ (?_ : K _ _ _ _ _ _)
    refine hK _ _ _ _ _ _ (r_sld rfl (i := 5 * j + 3) (nI_add _ _) (by omega) (by omega) (?_ : K _ _ _ _ _ _))
    refine hK _ _ _ _ _ _ (r_callV rfl (fun _ => rfl) rfl ⟨rfl, by show kc + 3 + 0 ≤ 601024; omega, by show ks + 18 + 0 ≤ 7293034; omega⟩ (kX7_isTrue (X := wX P R u v w kb f g e) hI hA hR (mqe ho (fun mk nx pi kp km => ?_))))
    show K 2765 _ [.int (nI 0)] (false, LW P R u v w kb f g e A mk ro nx pi kp km (nI (cmA E)) oo od) (kc + 3) (ks + 18)
    iterate 2 refine hK _ _ _ _ _ _ (?_ : K _ _ _ _ _ _)
    refine hK _ _ _ _ _ _ (r_callV rfl (fun _ => rfl) rfl ⟨rfl, by show kc + 3 + 0 ≤ 601024; omega, by show ks + 18 + 0 ≤ 7293034; omega⟩ (kX7_thrown (X := wX P R u v w kb f g e) ?_))
    show K 2771 _ [.int (nI (cmA E))] (false, LW P R u v w kb f g e A mk ro nx pi kp km (nI (cmA E)) oo od) (kc + 3) (ks + 18)
    iterate 1 refine hK _ _ _ _ _ _ (?_ : K _ _ _ _ _ _)
    refine hK _ _ _ _ _ _ (And.intro (fun _ => ?_) (fun c9 => absurd (rfl) c9))
    iterate 1 refine hK _ _ _ _ _ _ (?_ : K _ _ _ _ _ _)
    refine hK _ _ _ _ _ _ (And.intro (fun c9 => absurd c9 (cmA_n E)) (fun _ => ?_))
    iterate 3 refine hK _ _ _ _ _ _ (?_ : K _ _ _ _ _ _)
    show K 28 ((5, .int (nI (5 * j) + nI 5)) :: _) _ _ _ _
    rw [nI_add (5 * j) 5, show 5 * j + 5 = 5 * (j + 1) by omega]
    exact hW _ _ [(5, .int (nI (5 * (j + 1)))), (4, .ref 32), (3, .ref 31), (2, .ref 24), (1, .ref 1), (0, .ref 0)] _ _ _ _ (by simp) (ih _ _ _ _ _ _ _ _ _ _ _ _ _ _ _ _ _ _ _ _ _ _ hI hA hR (by omega) (by omega))
  · skip
    have hk := oK_isTrue (P := P) (R := R) (x := S.2 (5 * j + 1)) (y := S.2 (5 * j + 2)) (z := S.2 (5 * j + 3))
    rw [ho] at hk
    obtain ⟨z9, rfl⟩ := hk
    have hJ := oJ_isTrue hI (x := S.2 (5 * j + 1)) (y := S.2 (5 * j + 2)) (z := S.2 (5 * j + 3))
    rw [ho] at hJ
    have hJ : IvC P2 R2 := hJ
    refine hK _ _ _ _ _ _ (r_callN rfl (fun _ => rfl) ⟨rfl, by show kc + 3 ≤ 601024; omega, by show ks + 18 ≤ 7293034; omega⟩ (kL_isTrue hI ho (fun u v w kb f g e oo2 hoo => ?_)))
    show K 2741 _ [.int (nI 0)] (b, LW P2 R2 u v w kb f g e A mk ro nx pi kp km th oo2 od) (kc + 3) (ks + 18)
    iterate 6 refine hK _ _ _ _ _ _ (?_ : K _ _ _ _ _ _)
    refine hK _ _ _ _ _ _ (r_sld rfl (i := 5 * j + 1) (nI_add _ _) (by omega) (by omega) (?_ : K _ _ _ _ _ _))
    iterate 4 refine hK _ _ _ _ _ _ (?_ : K _ _ _ _ _ _)
    refine hK _ _ _ _ _ _ (r_sld rfl (i := 5 * j + 2) (nI_add _ _) (by omega) (by omega) (?_ : K _ _ _ _ _ _))
    iterate 4 refine hK _ _ _ _ _ _ (?_ : K _ _ _ _ _ _)
    refine hK _ _ _ _ _ _ (r_sld rfl (i := 5 * j + 3) (nI_add _ _) (by omega) (by omega) (?_ : K _ _ _ _ _ _))
    refine hK _ _ _ _ _ _ (r_callV rfl (fun _ => rfl) rfl ⟨rfl, by show kc + 3 + 0 ≤ 601024; omega, by show ks + 18 + 0 ≤ 7293034; omega⟩ (kX7_isTrue (X := wX P2 R2 u v w kb f g e) hI hA hR (mqe ho (fun A2 mk ro2 nx pi kp km hA2 hR2 => ?_))))
    show K 2765 _ [.int (b2i z9)] (b, LW P2 R2 u v w kb f g e A2 mk ro2 nx pi kp km (nI 0) oo2 od) (kc + 3) (ks + 18)
    iterate 2 refine hK _ _ _ _ _ _ (?_ : K _ _ _ _ _ _)
    refine hK _ _ _ _ _ _ (r_callV rfl (fun _ => rfl) rfl ⟨rfl, by show kc + 3 + 0 ≤ 601024; omega, by show ks + 18 + 0 ≤ 7293034; omega⟩ (kX7_thrown (X := wX P2 R2 u v w kb f g e) ?_))
    show K 2771 _ [.int (nI 0)] (b, LW P2 R2 u v w kb f g e A2 mk ro2 nx pi kp km (nI 0) oo2 od) (kc + 3) (ks + 18)
    iterate 1 refine hK _ _ _ _ _ _ (?_ : K _ _ _ _ _ _)
    refine hK _ _ _ _ _ _ (And.intro (fun _ => ?_) (fun c9 => absurd (rfl) c9))
    iterate 1 refine hK _ _ _ _ _ _ (?_ : K _ _ _ _ _ _)
    refine hK _ _ _ _ _ _ (And.intro (fun _ => ?_) (fun c9 => absurd (rfl) c9))
    iterate 2 refine hK _ _ _ _ _ _ (?_ : K _ _ _ _ _ _)
    refine hK _ _ _ _ _ _ (r_lald' (v := (b2i z9).toInt64) rfl (N := 1) (f := oo2) rfl (vp_in_nI (by decide) (by decide)) (by rw [nI_clamp (by decide)]; exact hoo) (?_ : K _ _ _ _ _ _))
    iterate 1 refine hK _ _ _ _ _ _ (?_ : K _ _ _ _ _ _)
    refine hK _ _ _ _ _ _ (And.intro (fun c1 => ?_) (fun c1 => ?_))
    · skip
      iterate 2 refine hK _ _ _ _ _ _ (?_ : K _ _ _ _ _ _)
      refine hK _ _ _ _ _ _ (And.intro (fun _ => ?_) (fun c9 => absurd ((lg_cmp_eq _ _).mpr (by rw [b2L, b2i_0.mp c1]; rfl)) c9))
      iterate 3 refine hK _ _ _ _ _ _ (?_ : K _ _ _ _ _ _)
      show K 28 ((5, .int (nI (5 * j) + nI 5)) :: _) _ _ _ _
      rw [nI_add (5 * j) 5, show 5 * j + 5 = 5 * (j + 1) by omega]
      exact hW _ _ [(5, .int (nI (5 * (j + 1)))), (4, .ref 32), (3, .ref 31), (2, .ref 24), (1, .ref 1), (0, .ref 0)] _ _ _ _ (by simp) (ih _ _ _ _ _ _ _ _ _ _ _ _ _ _ _ _ _ _ _ _ _ _ hJ hA2 hR2 (by omega) (by omega))
    · skip
      iterate 3 refine hK _ _ _ _ _ _ (?_ : K _ _ _ _ _ _)
      refine hK _ _ _ _ _ _ (And.intro (fun _ => ?_) (fun c9 => absurd ((lg_cmp_eq _ _).mpr (by rw [b2L, show z9 = true from Bool.of_not_eq_false fun c8 => c1 (b2i_0.mpr c8)]; rfl)) c9))
      iterate 3 refine hK _ _ _ _ _ _ (?_ : K _ _ _ _ _ _)
      show K 28 ((5, .int (nI (5 * j) + nI 5)) :: _) _ _ _ _
      rw [nI_add (5 * j) 5, show 5 * j + 5 = 5 * (j + 1) by omega]
      exact hW _ _ [(5, .int (nI (5 * (j + 1)))), (4, .ref 32), (3, .ref 31), (2, .ref 24), (1, .ref 1), (0, .ref 0)] _ _ _ _ (by simp) (ih _ _ _ _ _ _ _ _ _ _ _ _ _ _ _ _ _ _ _ _ _ _ hJ hA2 hR2 (by omega) (by omega))

set_option maxRecDepth 10000 in
/-- case 39: faceIsTrue -/
theorem lc_faceIsTrue {S : Nat × (Nat → Int32)} {d : Nat} {Q : eQ} {K : eK} (hK : ∀ (pc : Nat) (ls : eL) (st : List Value) (h : eH) (kc ks : Nat), eStep S MT (okCall S MT (d + 9)) ML_law (d + 9 + 1) Q K pc ls st h kc ks → K pc ls st h kc ks) (hW : ∀ (pc : Nat) (ls ls2 : eL) (st : List Value) (h : eH) (kc ks : Nat), (∀ q ∈ ls2, q ∈ ls) → K pc ls2 st h kc ks → K pc ls st h kc ks) {j : Nat} (h5 : 5 * j + 5 ≤ S.1) (hS : S.1 ≤ 2560) (ih : LN K (j + 1)) {b : Bool} {P : Nat → Nat → Bool} {R u v w : Nat → Bool} {kb : Nat → Nat} {f g e : Nat → Int32} {A mk ro nx pi : Nat → Int32} {kp : Nat → Int64} {km th : Int32} {oo : Nat → Int64} {od : Nat → UInt64} {kc ks : Nat} (hI : IvC P R) (hA : MI P A) (hR : RI R ro) (hkc : kc ≤ 42 + 7 * j) (hks : ks ≤ 1715 + 42 * j) : K 2805 [(5, .int (nI (5 * j))), (4, .ref 32), (3, .ref 31), (2, .ref 24), (1, .ref 1), (0, .ref 0)] [] (b, LW P R u v w kb f g e A mk ro nx pi kp km th oo od) kc ks := by
  iterate 5 refine hK _ _ _ _ _ _ (?_ : K _ _ _ _ _ _)
  refine hK _ _ _ _ _ _ (r_sld rfl (i := 5 * j + 1) (nI_add _ _) (by omega) (by omega) (?_ : K _ _ _ _ _ _))
  iterate 4 refine hK _ _ _ _ _ _ (?_ : K _ _ _ _ _ _)
  refine hK _ _ _ _ _ _ (r_sld rfl (i := 5 * j + 2) (nI_add _ _) (by omega) (by omega) (?_ : K _ _ _ _ _ _))
  iterate 1 refine hK _ _ _ _ _ _ (?_ : K _ _ _ _ _ _)
  rcases ho : o_faceIsTrue P R (S.2 (5 * j + 1)) (S.2 (5 * j + 2)) with E | ⟨r9, P2, R2⟩
  · skip
    refine hK _ _ _ _ _ _ (r_callN rfl (fun _ => rfl) ⟨rfl, by show kc + 3 ≤ 601024; omega, by show ks + 18 ≤ 7293034; omega⟩ (kL_faceIsTrue hI ho (fun u v w kb f g e => ?_)))
    show K 2822 _ [.int (nI (cmA E))] (false, LW P R u v w kb f g e A mk ro nx pi kp km th oo od) (kc + 3) (ks + 18)
    iterate 6 refine hK _ _ _ _ _ _ (?_ : K _ _ _ _ _ _)
    refine hK _ _ _ _ _ _ (r_sld rfl (i := 5 * j + 1) (nI_add _ _) (by omega) (by omega) (?_ : K _ _ _ _ _ _))
    iterate 4 refine hK _ _ _ _ _ _ (?_ : K _ _ _ _ _ _)
    refine hK _ _ _ _ _ _ (r_sld rfl (i := 5 * j + 2) (nI_add _ _) (by omega) (by omega) (?_ : K _ _ _ _ _ _))
    refine hK _ _ _ _ _ _ (r_callV rfl (fun _ => rfl) rfl ⟨rfl, by show kc + 3 + 0 ≤ 601024; omega, by show ks + 18 + 0 ≤ 7293034; omega⟩ (kX7_faceIsTrue (X := wX P R u v w kb f g e) hI hA hR (mqe ho (fun mk nx pi kp km => ?_))))
    show K 2840 _ [.int (nI 0)] (false, LW P R u v w kb f g e A mk ro nx pi kp km (nI (cmA E)) oo od) (kc + 3) (ks + 18)
    iterate 2 refine hK _ _ _ _ _ _ (?_ : K _ _ _ _ _ _)
    refine hK _ _ _ _ _ _ (r_callV rfl (fun _ => rfl) rfl ⟨rfl, by show kc + 3 + 0 ≤ 601024; omega, by show ks + 18 + 0 ≤ 7293034; omega⟩ (kX7_thrown (X := wX P R u v w kb f g e) ?_))
    show K 2846 _ [.int (nI (cmA E))] (false, LW P R u v w kb f g e A mk ro nx pi kp km (nI (cmA E)) oo od) (kc + 3) (ks + 18)
    iterate 1 refine hK _ _ _ _ _ _ (?_ : K _ _ _ _ _ _)
    refine hK _ _ _ _ _ _ (And.intro (fun _ => ?_) (fun c9 => absurd (rfl) c9))
    iterate 1 refine hK _ _ _ _ _ _ (?_ : K _ _ _ _ _ _)
    refine hK _ _ _ _ _ _ (And.intro (fun c9 => absurd c9 (cmA_n E)) (fun _ => ?_))
    iterate 3 refine hK _ _ _ _ _ _ (?_ : K _ _ _ _ _ _)
    show K 28 ((5, .int (nI (5 * j) + nI 5)) :: _) _ _ _ _
    rw [nI_add (5 * j) 5, show 5 * j + 5 = 5 * (j + 1) by omega]
    exact hW _ _ [(5, .int (nI (5 * (j + 1)))), (4, .ref 32), (3, .ref 31), (2, .ref 24), (1, .ref 1), (0, .ref 0)] _ _ _ _ (by simp) (ih _ _ _ _ _ _ _ _ _ _ _ _ _ _ _ _ _ _ _ _ _ _ hI hA hR (by omega) (by omega))
  · skip
    have hk := oK_faceIsTrue (P := P) (R := R) (x := S.2 (5 * j + 1)) (y := S.2 (5 * j + 2))
    rw [ho] at hk
    obtain ⟨z9, rfl⟩ := hk
    have hJ := oJ_faceIsTrue hI (x := S.2 (5 * j + 1)) (y := S.2 (5 * j + 2))
    rw [ho] at hJ
    have hJ : IvC P2 R2 := hJ
    refine hK _ _ _ _ _ _ (r_callN rfl (fun _ => rfl) ⟨rfl, by show kc + 3 ≤ 601024; omega, by show ks + 18 ≤ 7293034; omega⟩ (kL_faceIsTrue hI ho (fun u v w kb f g e oo2 hoo => ?_)))
    show K 2822 _ [.int (nI 0)] (b, LW P2 R2 u v w kb f g e A mk ro nx pi kp km th oo2 od) (kc + 3) (ks + 18)
    iterate 6 refine hK _ _ _ _ _ _ (?_ : K _ _ _ _ _ _)
    refine hK _ _ _ _ _ _ (r_sld rfl (i := 5 * j + 1) (nI_add _ _) (by omega) (by omega) (?_ : K _ _ _ _ _ _))
    iterate 4 refine hK _ _ _ _ _ _ (?_ : K _ _ _ _ _ _)
    refine hK _ _ _ _ _ _ (r_sld rfl (i := 5 * j + 2) (nI_add _ _) (by omega) (by omega) (?_ : K _ _ _ _ _ _))
    refine hK _ _ _ _ _ _ (r_callV rfl (fun _ => rfl) rfl ⟨rfl, by show kc + 3 + 0 ≤ 601024; omega, by show ks + 18 + 0 ≤ 7293034; omega⟩ (kX7_faceIsTrue (X := wX P2 R2 u v w kb f g e) hI hA hR (mqe ho (fun A2 mk ro2 nx pi kp km hA2 hR2 => ?_))))
    show K 2840 _ [.int (b2i z9)] (b, LW P2 R2 u v w kb f g e A2 mk ro2 nx pi kp km (nI 0) oo2 od) (kc + 3) (ks + 18)
    iterate 2 refine hK _ _ _ _ _ _ (?_ : K _ _ _ _ _ _)
    refine hK _ _ _ _ _ _ (r_callV rfl (fun _ => rfl) rfl ⟨rfl, by show kc + 3 + 0 ≤ 601024; omega, by show ks + 18 + 0 ≤ 7293034; omega⟩ (kX7_thrown (X := wX P2 R2 u v w kb f g e) ?_))
    show K 2846 _ [.int (nI 0)] (b, LW P2 R2 u v w kb f g e A2 mk ro2 nx pi kp km (nI 0) oo2 od) (kc + 3) (ks + 18)
    iterate 1 refine hK _ _ _ _ _ _ (?_ : K _ _ _ _ _ _)
    refine hK _ _ _ _ _ _ (And.intro (fun _ => ?_) (fun c9 => absurd (rfl) c9))
    iterate 1 refine hK _ _ _ _ _ _ (?_ : K _ _ _ _ _ _)
    refine hK _ _ _ _ _ _ (And.intro (fun _ => ?_) (fun c9 => absurd (rfl) c9))
    iterate 2 refine hK _ _ _ _ _ _ (?_ : K _ _ _ _ _ _)
    refine hK _ _ _ _ _ _ (r_lald' (v := (b2i z9).toInt64) rfl (N := 1) (f := oo2) rfl (vp_in_nI (by decide) (by decide)) (by rw [nI_clamp (by decide)]; exact hoo) (?_ : K _ _ _ _ _ _))
    iterate 1 refine hK _ _ _ _ _ _ (?_ : K _ _ _ _ _ _)
    refine hK _ _ _ _ _ _ (And.intro (fun c1 => ?_) (fun c1 => ?_))
    · skip
      iterate 2 refine hK _ _ _ _ _ _ (?_ : K _ _ _ _ _ _)
      refine hK _ _ _ _ _ _ (And.intro (fun _ => ?_) (fun c9 => absurd ((lg_cmp_eq _ _).mpr (by rw [b2L, b2i_0.mp c1]; rfl)) c9))
      iterate 3 refine hK _ _ _ _ _ _ (?_ : K _ _ _ _ _ _)
      show K 28 ((5, .int (nI (5 * j) + nI 5)) :: _) _ _ _ _
      rw [nI_add (5 * j) 5, show 5 * j + 5 = 5 * (j + 1) by omega]
      exact hW _ _ [(5, .int (nI (5 * (j + 1)))), (4, .ref 32), (3, .ref 31), (2, .ref 24), (1, .ref 1), (0, .ref 0)] _ _ _ _ (by simp) (ih _ _ _ _ _ _ _ _ _ _ _ _ _ _ _ _ _ _ _ _ _ _ hJ hA2 hR2 (by omega) (by omega))
    · skip
      iterate 3 refine hK _ _ _ _ _ _ (?_ : K _ _ _ _ _ _)
      refine hK _ _ _ _ _ _ (And.intro (fun _ => ?_) (fun c9 => absurd ((lg_cmp_eq _ _).mpr (by rw [b2L, show z9 = true from Bool.of_not_eq_false fun c8 => c1 (b2i_0.mpr c8)]; rfl)) c9))
      iterate 3 refine hK _ _ _ _ _ _ (?_ : K _ _ _ _ _ _)
      show K 28 ((5, .int (nI (5 * j) + nI 5)) :: _) _ _ _ _
      rw [nI_add (5 * j) 5, show 5 * j + 5 = 5 * (j + 1) by omega]
      exact hW _ _ [(5, .int (nI (5 * (j + 1)))), (4, .ref 32), (3, .ref 31), (2, .ref 24), (1, .ref 1), (0, .ref 0)] _ _ _ _ (by simp) (ih _ _ _ _ _ _ _ _ _ _ _ _ _ _ _ _ _ _ _ _ _ _ hJ hA2 hR2 (by omega) (by omega))

set_option maxRecDepth 10000 in
/-- case 40: pairIsTrue -/
theorem lc_pairIsTrue {S : Nat × (Nat → Int32)} {d : Nat} {Q : eQ} {K : eK} (hK : ∀ (pc : Nat) (ls : eL) (st : List Value) (h : eH) (kc ks : Nat), eStep S MT (okCall S MT (d + 9)) ML_law (d + 9 + 1) Q K pc ls st h kc ks → K pc ls st h kc ks) (hW : ∀ (pc : Nat) (ls ls2 : eL) (st : List Value) (h : eH) (kc ks : Nat), (∀ q ∈ ls2, q ∈ ls) → K pc ls2 st h kc ks → K pc ls st h kc ks) {j : Nat} (h5 : 5 * j + 5 ≤ S.1) (hS : S.1 ≤ 2560) (ih : LN K (j + 1)) {b : Bool} {P : Nat → Nat → Bool} {R u v w : Nat → Bool} {kb : Nat → Nat} {f g e : Nat → Int32} {A mk ro nx pi : Nat → Int32} {kp : Nat → Int64} {km th : Int32} {oo : Nat → Int64} {od : Nat → UInt64} {kc ks : Nat} (hI : IvC P R) (hA : MI P A) (hR : RI R ro) (hkc : kc ≤ 42 + 7 * j) (hks : ks ≤ 1715 + 42 * j) : K 2880 [(5, .int (nI (5 * j))), (4, .ref 32), (3, .ref 31), (2, .ref 24), (1, .ref 1), (0, .ref 0)] [] (b, LW P R u v w kb f g e A mk ro nx pi kp km th oo od) kc ks := by
  iterate 5 refine hK _ _ _ _ _ _ (?_ : K _ _ _ _ _ _)
  refine hK _ _ _ _ _ _ (r_sld rfl (i := 5 * j + 1) (nI_add _ _) (by omega) (by omega) (?_ : K _ _ _ _ _ _))
  iterate 4 refine hK _ _ _ _ _ _ (?_ : K _ _ _ _ _ _)
  refine hK _ _ _ _ _ _ (r_sld rfl (i := 5 * j + 2) (nI_add _ _) (by omega) (by omega) (?_ : K _ _ _ _ _ _))
  iterate 1 refine hK _ _ _ _ _ _ (?_ : K _ _ _ _ _ _)
  rcases ho : o_pairIsTrue P R (S.2 (5 * j + 1)) (S.2 (5 * j + 2)) with E | ⟨r9, P2, R2⟩
  · skip
    refine hK _ _ _ _ _ _ (r_callN rfl (fun _ => rfl) ⟨rfl, by show kc + 2 ≤ 601024; omega, by show ks + 12 ≤ 7293034; omega⟩ (kL_pairIsTrue hI ho (fun u v w kb f g e => ?_)))
    show K 2897 _ [.int (nI (cmA E))] (false, LW P R u v w kb f g e A mk ro nx pi kp km th oo od) (kc + 2) (ks + 12)
    iterate 6 refine hK _ _ _ _ _ _ (?_ : K _ _ _ _ _ _)
    refine hK _ _ _ _ _ _ (r_sld rfl (i := 5 * j + 1) (nI_add _ _) (by omega) (by omega) (?_ : K _ _ _ _ _ _))
    iterate 4 refine hK _ _ _ _ _ _ (?_ : K _ _ _ _ _ _)
    refine hK _ _ _ _ _ _ (r_sld rfl (i := 5 * j + 2) (nI_add _ _) (by omega) (by omega) (?_ : K _ _ _ _ _ _))
    refine hK _ _ _ _ _ _ (r_callV rfl (fun _ => rfl) rfl ⟨rfl, by show kc + 2 + 0 ≤ 601024; omega, by show ks + 12 + 0 ≤ 7293034; omega⟩ (kX7_pairIsTrue (X := wX P R u v w kb f g e) hI hA hR (mqe ho (fun mk nx pi kp km => ?_))))
    show K 2915 _ [.int (nI 0)] (false, LW P R u v w kb f g e A mk ro nx pi kp km (nI (cmA E)) oo od) (kc + 2) (ks + 12)
    iterate 2 refine hK _ _ _ _ _ _ (?_ : K _ _ _ _ _ _)
    refine hK _ _ _ _ _ _ (r_callV rfl (fun _ => rfl) rfl ⟨rfl, by show kc + 2 + 0 ≤ 601024; omega, by show ks + 12 + 0 ≤ 7293034; omega⟩ (kX7_thrown (X := wX P R u v w kb f g e) ?_))
    show K 2921 _ [.int (nI (cmA E))] (false, LW P R u v w kb f g e A mk ro nx pi kp km (nI (cmA E)) oo od) (kc + 2) (ks + 12)
    iterate 1 refine hK _ _ _ _ _ _ (?_ : K _ _ _ _ _ _)
    refine hK _ _ _ _ _ _ (And.intro (fun _ => ?_) (fun c9 => absurd (rfl) c9))
    iterate 1 refine hK _ _ _ _ _ _ (?_ : K _ _ _ _ _ _)
    refine hK _ _ _ _ _ _ (And.intro (fun c9 => absurd c9 (cmA_n E)) (fun _ => ?_))
    iterate 3 refine hK _ _ _ _ _ _ (?_ : K _ _ _ _ _ _)
    show K 28 ((5, .int (nI (5 * j) + nI 5)) :: _) _ _ _ _
    rw [nI_add (5 * j) 5, show 5 * j + 5 = 5 * (j + 1) by omega]
    exact hW _ _ [(5, .int (nI (5 * (j + 1)))), (4, .ref 32), (3, .ref 31), (2, .ref 24), (1, .ref 1), (0, .ref 0)] _ _ _ _ (by simp) (ih _ _ _ _ _ _ _ _ _ _ _ _ _ _ _ _ _ _ _ _ _ _ hI hA hR (by omega) (by omega))
  · skip
    have hk := oK_pairIsTrue (P := P) (R := R) (x := S.2 (5 * j + 1)) (y := S.2 (5 * j + 2))
    rw [ho] at hk
    obtain ⟨z9, rfl⟩ := hk
    have hJ := oJ_pairIsTrue hI (x := S.2 (5 * j + 1)) (y := S.2 (5 * j + 2))
    rw [ho] at hJ
    have hJ : IvC P2 R2 := hJ
    refine hK _ _ _ _ _ _ (r_callN rfl (fun _ => rfl) ⟨rfl, by show kc + 2 ≤ 601024; omega, by show ks + 12 ≤ 7293034; omega⟩ (kL_pairIsTrue hI ho (fun u v w kb f g e oo2 hoo => ?_)))
    show K 2897 _ [.int (nI 0)] (b, LW P2 R2 u v w kb f g e A mk ro nx pi kp km th oo2 od) (kc + 2) (ks + 12)
    iterate 6 refine hK _ _ _ _ _ _ (?_ : K _ _ _ _ _ _)
    refine hK _ _ _ _ _ _ (r_sld rfl (i := 5 * j + 1) (nI_add _ _) (by omega) (by omega) (?_ : K _ _ _ _ _ _))
    iterate 4 refine hK _ _ _ _ _ _ (?_ : K _ _ _ _ _ _)
    refine hK _ _ _ _ _ _ (r_sld rfl (i := 5 * j + 2) (nI_add _ _) (by omega) (by omega) (?_ : K _ _ _ _ _ _))
    refine hK _ _ _ _ _ _ (r_callV rfl (fun _ => rfl) rfl ⟨rfl, by show kc + 2 + 0 ≤ 601024; omega, by show ks + 12 + 0 ≤ 7293034; omega⟩ (kX7_pairIsTrue (X := wX P2 R2 u v w kb f g e) hI hA hR (mqe ho (fun A2 mk ro2 nx pi kp km hA2 hR2 => ?_))))
    show K 2915 _ [.int (b2i z9)] (b, LW P2 R2 u v w kb f g e A2 mk ro2 nx pi kp km (nI 0) oo2 od) (kc + 2) (ks + 12)
    iterate 2 refine hK _ _ _ _ _ _ (?_ : K _ _ _ _ _ _)
    refine hK _ _ _ _ _ _ (r_callV rfl (fun _ => rfl) rfl ⟨rfl, by show kc + 2 + 0 ≤ 601024; omega, by show ks + 12 + 0 ≤ 7293034; omega⟩ (kX7_thrown (X := wX P2 R2 u v w kb f g e) ?_))
    show K 2921 _ [.int (nI 0)] (b, LW P2 R2 u v w kb f g e A2 mk ro2 nx pi kp km (nI 0) oo2 od) (kc + 2) (ks + 12)
    iterate 1 refine hK _ _ _ _ _ _ (?_ : K _ _ _ _ _ _)
    refine hK _ _ _ _ _ _ (And.intro (fun _ => ?_) (fun c9 => absurd (rfl) c9))
    iterate 1 refine hK _ _ _ _ _ _ (?_ : K _ _ _ _ _ _)
    refine hK _ _ _ _ _ _ (And.intro (fun _ => ?_) (fun c9 => absurd (rfl) c9))
    iterate 2 refine hK _ _ _ _ _ _ (?_ : K _ _ _ _ _ _)
    refine hK _ _ _ _ _ _ (r_lald' (v := (b2i z9).toInt64) rfl (N := 1) (f := oo2) rfl (vp_in_nI (by decide) (by decide)) (by rw [nI_clamp (by decide)]; exact hoo) (?_ : K _ _ _ _ _ _))
    iterate 1 refine hK _ _ _ _ _ _ (?_ : K _ _ _ _ _ _)
    refine hK _ _ _ _ _ _ (And.intro (fun c1 => ?_) (fun c1 => ?_))
    · skip
      iterate 2 refine hK _ _ _ _ _ _ (?_ : K _ _ _ _ _ _)
      refine hK _ _ _ _ _ _ (And.intro (fun _ => ?_) (fun c9 => absurd ((lg_cmp_eq _ _).mpr (by rw [b2L, b2i_0.mp c1]; rfl)) c9))
      iterate 3 refine hK _ _ _ _ _ _ (?_ : K _ _ _ _ _ _)
      show K 28 ((5, .int (nI (5 * j) + nI 5)) :: _) _ _ _ _
      rw [nI_add (5 * j) 5, show 5 * j + 5 = 5 * (j + 1) by omega]
      exact hW _ _ [(5, .int (nI (5 * (j + 1)))), (4, .ref 32), (3, .ref 31), (2, .ref 24), (1, .ref 1), (0, .ref 0)] _ _ _ _ (by simp) (ih _ _ _ _ _ _ _ _ _ _ _ _ _ _ _ _ _ _ _ _ _ _ hJ hA2 hR2 (by omega) (by omega))
    · skip
      iterate 3 refine hK _ _ _ _ _ _ (?_ : K _ _ _ _ _ _)
      refine hK _ _ _ _ _ _ (And.intro (fun _ => ?_) (fun c9 => absurd ((lg_cmp_eq _ _).mpr (by rw [b2L, show z9 = true from Bool.of_not_eq_false fun c8 => c1 (b2i_0.mpr c8)]; rfl)) c9))
      iterate 3 refine hK _ _ _ _ _ _ (?_ : K _ _ _ _ _ _)
      show K 28 ((5, .int (nI (5 * j) + nI 5)) :: _) _ _ _ _
      rw [nI_add (5 * j) 5, show 5 * j + 5 = 5 * (j + 1) by omega]
      exact hW _ _ [(5, .int (nI (5 * (j + 1)))), (4, .ref 32), (3, .ref 31), (2, .ref 24), (1, .ref 1), (0, .ref 0)] _ _ _ _ (by simp) (ih _ _ _ _ _ _ _ _ _ _ _ _ _ _ _ _ _ _ _ _ _ _ hJ hA2 hR2 (by omega) (by omega))

end LA
