section MR
theorem cF_lt {s : Nat → Bool} {i n : Nat} (h0 : 0 < i) (hi : i < n) (hs : s i = true) : cF s i < cF s n := by
  have h1 : cF s (i + 1) = cF s i + 1 := by
    show cF s i + (if (decide (0 < i) && s i) then 1 else 0) = _
    rw [decide_eq_true h0, hs]; rfl
  have h2 : cF s (i + 1) ≤ cF s n := fb_ct_mono _ (by omega)
  omega
theorem cF_128 (s : Nat → Bool) : cF s 128 < 2147483648 := Nat.lt_of_le_of_lt (fb_ct_le _ _) (by decide)
theorem cF_n (s : Nat → Bool) (n : Nat) : cF s n ≤ n := fb_ct_le _ _
theorem gat_n {s : Nat → Bool} {y : Int32} (h : y < nI 0 ∨ nI (cF s 128) - nI 1 < y) : ff (fAt s y) 128 = 0 := by
  refine Classical.byContradiction fun hn => ?_
  obtain ⟨h1, h2⟩ := ff_lt hn
  rw [Bool.and_eq_true, Bool.and_eq_true, decide_eq_true_eq, decide_eq_true_eq] at h2
  obtain ⟨h3, h4, h5⟩ := h2
  have h6 := cF_lt h3 h1 h4
  have h7 := cF_128 s
  rcases h with h | h
  · rw [← h5] at h; exact nI_nlt (Nat.zero_le _) (by omega) h
  · rw [nI_sub (cF s 128) 1 (cF s 128 - 1) (by omega), ← h5] at h
    exact nI_nlt (by omega) (by omega) h
theorem gat_s {s : Nat → Bool} {y : Int32} (h1 : ¬ y < nI 0) (h2 : ¬ nI (cF s 128) - nI 1 < y) : ∃ j F, y = nI j ∧ 0 < F ∧ F < 128 ∧ s F = true ∧ cF s F = j ∧ ff (fAt s y) 128 = F := by
  obtain ⟨j, hj, rfl⟩ := nI_of h1
  have h7 := cF_128 s
  have hc : j < cF s 128 := by
    by_cases hz : cF s 128 = 0
    · rw [hz] at h2
      exact absurd (show nI 0 - nI 1 < nI j by
        rw [Int32.lt_iff_toInt_lt, nI_toInt hj]
        have : (nI 0 - nI 1).toInt = -1 := by decide +kernel
        omega) h2
    · rw [nI_sub (cF s 128) 1 (cF s 128 - 1) (by omega)] at h2
      refine Nat.lt_of_not_le fun hle => h2 (nI_lt (by omega) (by omega))
  obtain ⟨F, f1, f2, f3⟩ := fb_ct_kth (p := fun i => decide (0 < i) && s i) hc
  rw [Bool.and_eq_true, decide_eq_true_eq] at f2
  refine ⟨j, F, rfl, f2.1, f1, f2.2, f3, ?_⟩
  have hF : fAt s (nI j) F = true := by
    have f3 : cF s F = j := f3
    show (decide (0 < F) && (s F && decide (nI (cF s F) = nI j))) = true
    rw [decide_eq_true f2.1, f2.2, f3, decide_eq_true rfl]; rfl
  have hne := ff_ex f2.1 f1 hF
  obtain ⟨g1, g2⟩ := ff_lt hne
  rw [Bool.and_eq_true, Bool.and_eq_true, decide_eq_true_eq, decide_eq_true_eq] at g2
  have g3 : cF s (ff (fAt s (nI j)) 128) = j := (nI_eq (by have := cF_n s (ff (fAt s (nI j)) 128); omega) hj).mp g2.2.2
  exact fb_ct_kth_one (p := fun i => decide (0 < i) && s i) (by rw [decide_eq_true g2.1, g2.2.1]; rfl) (by rw [decide_eq_true f2.1, f2.2]; rfl) (g3.trans f3.symm)
theorem lz_t {s : Nat → Bool} {j F : Nat} (hF : 0 < F) (hF7 : F < 128) (hs : s F = true) (hc : cF s F = j) : nZ ((j : Int) - (cF s (F + 1) : Nat)) < 0 := by
  have h1 : cF s (F + 1) = cF s F + 1 := by
    show cF s F + (if (decide (0 < F) && s F) then 1 else 0) = _
    rw [decide_eq_true hF, hs]; rfl
  rw [h1, hc, show ((j : Int) - ((j + 1 : Nat) : Int)) = -1 by omega]
  decide +kernel
theorem lz_f {s : Nat → Bool} {j F k : Nat} (hk : k < F) (hF7 : F < 128) (hc : cF s F = j) : ¬ nZ ((j : Int) - (cF s (k + 1) : Nat)) < 0 := by
  have h1 : cF s (k + 1) ≤ cF s F := fb_ct_mono _ (by omega)
  have h2 := cF_n s F
  rw [show ((j : Int) - (cF s (k + 1) : Nat)) = ((j - cF s (k + 1) : Nat) : Int) by omega, ← nZ_nI]
  exact nI_pos (by omega)
theorem lz_1 {s : Nat → Bool} {j k : Nat} (h : s (k + 1) = true) : nZ ((j : Int) - (cF s (k + 1) : Nat)) - nI 1 = nZ ((j : Int) - (cF s (k + 1 + 1) : Nat)) := by
  have h1 : cF s (k + 1 + 1) = cF s (k + 1) + 1 := by
    show cF s (k + 1) + (if (decide (0 < k + 1) && s (k + 1)) then 1 else 0) = _
    rw [decide_eq_true (by omega), h]; rfl
  rw [h1, nZ_nI 1, nZ_sub]
  congr 1
  omega
theorem lz_0 {s : Nat → Bool} {j k : Nat} (h : s (k + 1) = false) : nZ ((j : Int) - (cF s (k + 1) : Nat)) - nI 0 = nZ ((j : Int) - (cF s (k + 1 + 1) : Nat)) := by
  have h1 : cF s (k + 1 + 1) = cF s (k + 1) := by
    show cF s (k + 1) + (if (decide (0 < k + 1) && s (k + 1)) then 1 else 0) = _
    rw [h, Bool.and_false]; rfl
  rw [h1, nZ_nI 0, nZ_sub]
  congr 1
  omega
theorem gr_cF {s : Nat → Bool} (hs : Shp s) : cF (grB s) 128 = cF (grS s) 128 := by rw [gr_ct hs, cF_fb grS_0]
set_option maxRecDepth 10000 in
/-- Model.greatestAt -/
theorem kX7_greatestAt {S : Nat × (Nat → Int32)} {d : Nat} {Q : eQ} {b : Bool} {X : Nat → va_E} {A mk ro nx pi : Nat → Int32} {kp : Nat → Int64} {km th : Int32} {T : List va_E} {P : Nat → Nat → Bool} {R : Nat → Bool} {x : Int32} {y : Int32} (hI : IvC P R) (hA : MI P A) (hR : RI R ro) (hQ : mQ (.int (nI 0)) cmA (o_greatestAt P R x y) Q b X A ro T) : okCall S MT (d + 5) nX7_greatestAt [.ref 24, .int x, .int y] (b, mW X A mk ro nx pi kp km th T) Q := by
  refine okc (M := MX7_greatestAt) rfl rfl fun K hK hW => ?_
  show K 0 [(0, .ref 24), (1, .int x), (2, .int y)] [] (b, mW X A mk ro nx pi kp km th T) 0 0
  unfold o_greatestAt at hQ
  iterate 2 refine hK _ _ _ _ _ _ (?_ : K _ _ _ _ _ _)
  refine hK _ _ _ _ _ _ (r_callS rfl (fun _ => rfl) (b0 rfl rfl rfl) (kX7_isPlace (fun h9 => (?_ : K _ _ _ _ _ _)) (fun p _ hp hx h9 => (?_ : K _ _ _ _ _ _))))
  · skip
    refine hK _ _ _ _ _ _ (And.intro (fun _ => ?_) (fun c9 => absurd (rfl) c9))
    iterate 2 refine hK _ _ _ _ _ _ (?_ : K _ _ _ _ _ _)
    refine hK _ _ _ _ _ _ (r_callV rfl (fun _ => rfl) rfl (b0 rfl rfl rfl) (kw_n (n := 1) (by decide) (by decide) (?_ : K _ _ _ _ _ _)))
    refine hK _ _ _ _ _ _ (And.intro (fun c9 => absurd c9 (nI1_0)) (fun _ => ?_))
    iterate 1 refine hK _ _ _ _ _ _ (?_ : K _ _ _ _ _ _)
    exact hK _ _ _ _ _ _ (r_iret rfl rfl rfl rfl (mq_n h9 hQ))
  · skip
    subst hx
    have hQ1 := mq_s h9 hQ
    refine hK _ _ _ _ _ _ (And.intro (fun c9 => absurd c9 (nI1_0)) (fun _ => ?_))
    iterate 4 refine hK _ _ _ _ _ _ (?_ : K _ _ _ _ _ _)
    refine hK _ _ _ _ _ _ (r_callV rfl (fun _ => rfl) rfl (b0 rfl rfl rfl) (kX7_greatestOf hA hp (?_ : K _ _ _ _ _ _)))
    iterate 2 refine hK _ _ _ _ _ _ (?_ : K _ _ _ _ _ _)
    refine hK _ _ _ _ _ _ (r_callS rfl (fun _ => rfl) (b0 rfl rfl rfl) (kX7_isIn (fun h8 => (?_ : K _ _ _ _ _ _)) (fun h7 h8 => (?_ : K _ _ _ _ _ _))))
    · skip
      rw [gr_cF (hI.1 p hp)] at h8
      refine hK _ _ _ _ _ _ (And.intro (fun _ => ?_) (fun c9 => absurd (rfl) c9))
      iterate 2 refine hK _ _ _ _ _ _ (?_ : K _ _ _ _ _ _)
      refine hK _ _ _ _ _ _ (r_callV rfl (fun _ => rfl) rfl (b0 rfl rfl rfl) (kw_n (n := 1) (by decide) (by decide) (?_ : K _ _ _ _ _ _)))
      refine hK _ _ _ _ _ _ (And.intro (fun c9 => absurd c9 (nI1_0)) (fun _ => ?_))
      iterate 1 refine hK _ _ _ _ _ _ (?_ : K _ _ _ _ _ _)
      exact hK _ _ _ _ _ _ (r_iret rfl rfl rfl rfl (mb_f (ffB (gat_n h8)) hQ1))
    · skip
      rw [gr_cF (hI.1 p hp)] at h8
      obtain ⟨j, F, rfl, F1, F2, F3, F4, F5⟩ := gat_s h7 h8
      rw [F5] at hQ1
      have hQ2 := mb_t (ffB2 (by rw [F5]; omega)) hQ1
      refine hK _ _ _ _ _ _ (And.intro (fun c9 => absurd c9 (nI1_0)) (fun _ => ?_))
      iterate 1 refine hK _ _ _ _ _ _ (?_ : K _ _ _ _ _ _)
      refine hK _ _ _ _ _ _ (r_callV rfl (fun _ => rfl) rfl (b0 rfl rfl rfl) (kw_0 (?_ : K _ _ _ _ _ _)))
      refine hK _ _ _ _ _ _ (And.intro (fun _ => ?_) (fun c9 => absurd (rfl) c9))
      iterate 4 refine hK _ _ _ _ _ _ (?_ : K _ _ _ _ _ _)
      refine hW _ _ [(4, .int (nI (0))), (3, .int (nZ ((j : Int) - (cF (grS (P p)) (0 + 1) : Nat)))), (0, .ref 24), (1, .int (nI p))] _ _ _ _ (by simp [show nZ ((j : Int) - (cF (grS (P p)) (0 + 1) : Nat)) = nI j from by rw [nZ_nI, show cF (grS (P p)) (0 + 1) = 0 from rfl]; exact congrArg nZ (by omega)]) ?_
      refine up (P := fun k => K 41 [(4, .int (nI (k))), (3, .int (nZ ((j : Int) - (cF (grS (P p)) (k + 1) : Nat)))), (0, .ref 24), (1, .int (nI p))] [] (b, mW X A mk ro nx pi kp km (nI 0) T) 0 0) F 0 ?_ ?_ (by omega)
      · skip
        iterate 1 refine hK _ _ _ _ _ _ (?_ : K _ _ _ _ _ _)
        refine hK _ _ _ _ _ _ (And.intro (fun _ => ?_) (fun c9 => absurd (lz_t F1 F2 F3 F4) c9))
        iterate 1 refine hK _ _ _ _ _ _ (?_ : K _ _ _ _ _ _)
        exact hK _ _ _ _ _ _ (r_iret rfl rfl rfl rfl (mi hQ2 hA hR))
      · intro k h0k hk ihk
        iterate 1 refine hK _ _ _ _ _ _ (?_ : K _ _ _ _ _ _)
        refine hK _ _ _ _ _ _ (And.intro (fun c9 => absurd c9 (lz_f hk F2 F4)) (fun _ => ?_))
        iterate 5 refine hK _ _ _ _ _ _ (?_ : K _ _ _ _ _ _)
        refine hK _ _ _ _ _ _ (r_callV rfl (fun _ => rfl) rfl (b0 rfl rfl rfl) (okW (by rw [nI_add k 1]; first | done | rfl) (kX7_isGreatest (i := k + 1) hA hp (by omega) (by omega) (?_ : K _ _ _ _ _ _))))
        rw [← gr_m (hI.1 p hp) (by omega) (by omega)]
        refine hK _ _ _ _ _ _ (And.intro (fun c1 => ?_) (fun c1 => ?_))
        · skip
          iterate 4 refine hK _ _ _ _ _ _ (?_ : K _ _ _ _ _ _)
          rw [lz_0 (s := grS (P p)) (b2i_0.mp c1), nI_add k 1]
          first | exact ihk | exact hW _ _ _ _ _ _ _ (by simp) ihk
        · skip
          iterate 5 refine hK _ _ _ _ _ _ (?_ : K _ _ _ _ _ _)
          rw [lz_1 (s := grS (P p)) (Bool.of_not_eq_false fun c9 => c1 (b2i_0.mpr c9)), nI_add k 1]
          first | exact ihk | exact hW _ _ _ _ _ _ _ (by simp) ihk

set_option maxRecDepth 10000 in
/-- Model.signed -/
theorem kX7_signed {S : Nat × (Nat → Int32)} {d : Nat} {Q : eQ} {b : Bool} {X : Nat → va_E} {A mk ro nx pi : Nat → Int32} {kp : Nat → Int64} {km th : Int32} {T : List va_E} {P : Nat → Nat → Bool} {R : Nat → Bool} {x : Int32} (hI : IvC P R) (hA : MI P A) (hR : RI R ro) (hQ : mQ (.int (nI 0)) cmA (o_signed P R x) Q b X A ro T) : okCall S MT (d + 4) nX7_signed [.ref 24, .int x] (b, mW X A mk ro nx pi kp km th T) Q := by
  refine okc (M := MX7_signed) rfl rfl fun K hK hW => ?_
  show K 0 [(0, .ref 24), (1, .int x)] [] (b, mW X A mk ro nx pi kp km th T) 0 0
  unfold o_signed at hQ
  iterate 2 refine hK _ _ _ _ _ _ (?_ : K _ _ _ _ _ _)
  refine hK _ _ _ _ _ _ (r_callS rfl (fun _ => rfl) (b0 rfl rfl rfl) (kX7_isPlace (fun h9 => (?_ : K _ _ _ _ _ _)) (fun p _ hp hx h9 => (?_ : K _ _ _ _ _ _))))
  · skip
    refine hK _ _ _ _ _ _ (And.intro (fun _ => ?_) (fun c9 => absurd (rfl) c9))
    iterate 1 refine hK _ _ _ _ _ _ (?_ : K _ _ _ _ _ _)
    refine hK _ _ _ _ _ _ (r_callV rfl (fun _ => rfl) rfl (b0 rfl rfl rfl) (kw_n (n := 1) (by decide) (by decide) (?_ : K _ _ _ _ _ _)))
    refine hK _ _ _ _ _ _ (And.intro (fun c9 => absurd c9 (nI1_0)) (fun _ => ?_))
    iterate 1 refine hK _ _ _ _ _ _ (?_ : K _ _ _ _ _ _)
    exact hK _ _ _ _ _ _ (r_iret rfl rfl rfl rfl (mq_n h9 hQ))
  · skip
    subst hx
    have hQ1 := mq_s h9 hQ
    refine hK _ _ _ _ _ _ (And.intro (fun c9 => absurd c9 (nI1_0)) (fun _ => ?_))
    iterate 2 refine hK _ _ _ _ _ _ (?_ : K _ _ _ _ _ _)
    refine hK _ _ _ _ _ _ (r_callV rfl (fun _ => rfl) rfl (b0 rfl rfl rfl) (kw_0 (?_ : K _ _ _ _ _ _)))
    refine hK _ _ _ _ _ _ (And.intro (fun _ => ?_) (fun c9 => absurd (rfl) c9))
    iterate 4 refine hK _ _ _ _ _ _ (?_ : K _ _ _ _ _ _)
    refine hW _ _ [(3, .int (nI (0))), (2, .int (nZ (alt (fun t => (cnt (P p) t : Int)) (0)))), (0, .ref 24), (1, .int (nI p))] _ _ _ _ (by simp [show nZ (alt (fun t => (cnt (P p) t : Int)) 0) = nI 0 from rfl]) ?_
    refine up (P := fun k => K 25 [(3, .int (nI (k))), (2, .int (nZ (alt (fun t => (cnt (P p) t : Int)) (k)))), (0, .ref 24), (1, .int (nI p))] [] (b, mW X A mk ro nx pi kp km (nI 0) T) 0 0) 7 0 ?_ ?_ (by decide)
    · skip
      iterate 2 refine hK _ _ _ _ _ _ (?_ : K _ _ _ _ _ _)
      refine hK _ _ _ _ _ _ (And.intro (fun _ => ?_) (fun c9 => absurd (nI_le (Nat.le_refl 7) (by decide)) c9))
      iterate 1 refine hK _ _ _ _ _ _ (?_ : K _ _ _ _ _ _)
      rw [← sg_alt]
      exact hK _ _ _ _ _ _ (r_iret rfl rfl rfl rfl (mi hQ1 hA hR))
    · intro k h0k hk ihk
      iterate 2 refine hK _ _ _ _ _ _ (?_ : K _ _ _ _ _ _)
      refine hK _ _ _ _ _ _ (And.intro (fun c9 => absurd c9 (nI_ge (by omega) (by decide))) (fun _ => ?_))
      iterate 3 refine hK _ _ _ _ _ _ (?_ : K _ _ _ _ _ _)
      refine hK _ _ _ _ _ _ (r_irem rfl (by decide) (?_ : K _ _ _ _ _ _))
      refine hK _ _ _ _ _ _ (And.intro (fun c1 => ?_) (fun c1 => ?_))
      · skip
        iterate 3 refine hK _ _ _ _ _ _ (?_ : K _ _ _ _ _ _)
        refine hK _ _ _ _ _ _ (r_callV rfl (fun _ => rfl) rfl (b0 rfl rfl rfl) (kX7_facesOf hA hp (by omega) (?_ : K _ _ _ _ _ _)))
        iterate 5 refine hK _ _ _ _ _ _ (?_ : K _ _ _ _ _ _)
        have e1 : alt (fun t => (cnt (P p) t : Int)) (k + 1) = alt (fun t => (cnt (P p) t : Int)) k + (cnt (P p) k : Int) := by show alt _ k + (if k % 2 = 0 then _ else _) = _; rw [if_pos ((pc_par k (by omega)).mp c1)]
        rw [e1] at ihk
        rw [nI_add k 1, nZ_nI (cnt (P p) k), nZ_add]
        first | exact ihk | exact hW _ _ _ _ _ _ _ (by simp) ihk
      · skip
        iterate 3 refine hK _ _ _ _ _ _ (?_ : K _ _ _ _ _ _)
        refine hK _ _ _ _ _ _ (r_callV rfl (fun _ => rfl) rfl (b0 rfl rfl rfl) (kX7_facesOf hA hp (by omega) (?_ : K _ _ _ _ _ _)))
        iterate 5 refine hK _ _ _ _ _ _ (?_ : K _ _ _ _ _ _)
        have e1 : alt (fun t => (cnt (P p) t : Int)) (k + 1) = alt (fun t => (cnt (P p) t : Int)) k + - (cnt (P p) k : Int) := by show alt _ k + (if k % 2 = 0 then _ else _) = _; rw [if_neg (fun e => c1 ((pc_par k (by omega)).mpr e))]
        rw [e1] at ihk
        rw [nI_add k 1, nZ_nI (cnt (P p) k), nZ_neg, nZ_add]
        first | exact ihk | exact hW _ _ _ _ _ _ _ (by simp) ihk

set_option maxRecDepth 10000 in
/-- Model.rowMany -/
theorem kX7_rowMany {S : Nat × (Nat → Int32)} {d : Nat} {Q : eQ} {b : Bool} {X : Nat → va_E} {A mk ro nx pi : Nat → Int32} {kp : Nat → Int64} {km th : Int32} {T : List va_E} {R : Nat → Bool} (hR : RI R ro) (hQ : Q (.inl (some (.int (nI (cF R 128))))) (b, mW X A mk ro nx pi kp km th T)) : okCall S MT (d + 1) nX7_rowMany [.ref 24] (b, mW X A mk ro nx pi kp km th T) Q := by
  refine okc (M := MX7_rowMany) rfl rfl fun K hK hW => ?_
  show K 0 [(0, .ref 24)] [] (b, mW X A mk ro nx pi kp km th T) 0 0
  iterate 4 refine hK _ _ _ _ _ _ (?_ : K _ _ _ _ _ _)
  refine hW _ _ [(2, .int (nI (1))), (1, .int (nI (cF R (1)))), (0, .ref 24)] _ _ _ _ (by simp [cF_1]) ?_
  refine up (P := fun k => K 4 [(2, .int (nI (k))), (1, .int (nI (cF R (k)))), (0, .ref 24)] [] (b, mW X A mk ro nx pi kp km th T) 0 0) 128 1 ?_ ?_ (by decide)
  · skip
    iterate 2 refine hK _ _ _ _ _ _ (?_ : K _ _ _ _ _ _)
    refine hK _ _ _ _ _ _ (And.intro (fun _ => ?_) (fun c9 => absurd (nI_le (Nat.le_refl 128) (by decide)) c9))
    iterate 1 refine hK _ _ _ _ _ _ (?_ : K _ _ _ _ _ _)
    exact hK _ _ _ _ _ _ (r_iret rfl rfl rfl rfl hQ)
  · intro k h0k hk ihk
    iterate 2 refine hK _ _ _ _ _ _ (?_ : K _ _ _ _ _ _)
    refine hK _ _ _ _ _ _ (And.intro (fun c9 => absurd c9 (nI_ge (by omega) (by decide))) (fun _ => ?_))
    iterate 2 refine hK _ _ _ _ _ _ (?_ : K _ _ _ _ _ _)
    refine hK _ _ _ _ _ _ (r_get rfl rfl rfl (?_ : K _ _ _ _ _ _))
    iterate 1 refine hK _ _ _ _ _ _ (?_ : K _ _ _ _ _ _)
    refine hK _ _ _ _ _ _ (r_zald' (v := b2i (R k)) rfl (N := 128) (f := ro) rfl (vp_in_nI (by omega) (by decide)) (by show ro (nI (k)).toNatClampNeg = _; rw [nI_clamp (by omega)]; exact hR k (by omega) (by omega)) (?_ : K _ _ _ _ _ _))
    refine hK _ _ _ _ _ _ (And.intro (fun c1 => ?_) (fun c1 => ?_))
    · skip
      iterate 5 refine hK _ _ _ _ _ _ (?_ : K _ _ _ _ _ _)
      have e1 := (b2i_0.mp c1)
      rw [cF_f e1] at ihk
      rw [nI_add k 1, nI_p0]
      first | exact ihk | exact hW _ _ _ _ _ _ _ (by simp) ihk
    · skip
      iterate 6 refine hK _ _ _ _ _ _ (?_ : K _ _ _ _ _ _)
      have e1 := (Bool.of_not_eq_false fun c9 => c1 (b2i_0.mpr c9))
      rw [cF_t (by omega) e1, nI_add k 1]
      first | exact ihk | exact hW _ _ _ _ _ _ _ (by simp) ihk

set_option maxRecDepth 10000 in
/-- Model.rowHeight -/
theorem kX7_rowHeight {S : Nat × (Nat → Int32)} {d : Nat} {Q : eQ} {b : Bool} {X : Nat → va_E} {A mk ro nx pi : Nat → Int32} {kp : Nat → Int64} {km th : Int32} {T : List va_E} {R : Nat → Bool} (hR : RI R ro) (hQ : Q (.inl (some (.int (rhL R 128)))) (b, mW X A mk ro nx pi kp km th T)) : okCall S MT (d + 3) nX7_rowHeight [.ref 24] (b, mW X A mk ro nx pi kp km th T) Q := by
  refine okc (M := MX7_rowHeight) rfl rfl fun K hK hW => ?_
  show K 0 [(0, .ref 24)] [] (b, mW X A mk ro nx pi kp km th T) 0 0
  iterate 4 refine hK _ _ _ _ _ _ (?_ : K _ _ _ _ _ _)
  refine hW _ _ [(2, .int (nI (1))), (1, .int (rhL R (1))), (0, .ref 24)] _ _ _ _ (by simp [show rhL R 1 = -1 from rfl]) ?_
  refine up (P := fun k => K 4 [(2, .int (nI (k))), (1, .int (rhL R (k))), (0, .ref 24)] [] (b, mW X A mk ro nx pi kp km th T) 0 0) 128 1 ?_ ?_ (by decide)
  · skip
    iterate 2 refine hK _ _ _ _ _ _ (?_ : K _ _ _ _ _ _)
    refine hK _ _ _ _ _ _ (And.intro (fun _ => ?_) (fun c9 => absurd (nI_le (Nat.le_refl 128) (by decide)) c9))
    iterate 1 refine hK _ _ _ _ _ _ (?_ : K _ _ _ _ _ _)
    exact hK _ _ _ _ _ _ (r_iret rfl rfl rfl rfl hQ)
  · intro k h0k hk ihk
    iterate 2 refine hK _ _ _ _ _ _ (?_ : K _ _ _ _ _ _)
    refine hK _ _ _ _ _ _ (And.intro (fun c9 => absurd c9 (nI_ge (by omega) (by decide))) (fun _ => ?_))
    iterate 1 refine hK _ _ _ _ _ _ (?_ : K _ _ _ _ _ _)
    refine hK _ _ _ _ _ _ (r_get rfl rfl rfl (?_ : K _ _ _ _ _ _))
    iterate 1 refine hK _ _ _ _ _ _ (?_ : K _ _ _ _ _ _)
    refine hK _ _ _ _ _ _ (r_zald' (v := b2i (R k)) rfl (N := 128) (f := ro) rfl (vp_in_nI (by omega) (by decide)) (by show ro (nI (k)).toNatClampNeg = _; rw [nI_clamp (by omega)]; exact hR k (by omega) (by omega)) (?_ : K _ _ _ _ _ _))
    refine hK _ _ _ _ _ _ (And.intro (fun c1 => ?_) (fun c1 => ?_))
    · skip
      iterate 4 refine hK _ _ _ _ _ _ (?_ : K _ _ _ _ _ _)
      rw [rhL_f (b2i_0.mp c1)] at ihk
      rw [nI_add k 1]
      first | exact ihk | exact hW _ _ _ _ _ _ _ (by simp) ihk
    · skip
      iterate 1 refine hK _ _ _ _ _ _ (?_ : K _ _ _ _ _ _)
      refine hK _ _ _ _ _ _ (r_callS rfl (fun _ => rfl) (b0 rfl rfl rfl) (kX7_height (i := k) (by omega) (by omega) (?_ : K _ _ _ _ _ _)))
      iterate 4 refine hK _ _ _ _ _ _ (?_ : K _ _ _ _ _ _)
      rw [rhL_t (by omega) (Bool.of_not_eq_false fun c9 => c1 (b2i_0.mpr c9))] at ihk
      rw [nI_add k 1]
      first | exact ihk | exact hW _ _ _ _ _ _ _ (by simp) ihk

theorem RI_tog {R : Nat → Bool} {ro : Nat → Int32} {i : Nat} (h : RI R ro) : RI (sTog R i) (upd ro i (b2i (!R i))) := fun k h1 h2 => by
  show (if k = i then b2i (!R i) else ro k) = b2i (R k ^^ (k == i))
  by_cases e : k = i
  · subst e; rw [if_pos rfl, beq_self_eq_true]; cases R k <;> rfl
  · rw [if_neg e, beq_eq_false_iff_ne.mpr e, h k h1 h2]; simp
set_option maxRecDepth 10000 in
/-- Model.flip -/
theorem kX7_flip {S : Nat × (Nat → Int32)} {d : Nat} {Q : eQ} {b : Bool} {X : Nat → va_E} {A mk ro nx pi : Nat → Int32} {kp : Nat → Int64} {km th : Int32} {T : List va_E} {P : Nat → Nat → Bool} {R : Nat → Bool} {x : Int32} (hI : IvC P R) (hA : MI P A) (hR : RI R ro) (hQ : mQ (.int (nI 0)) cmR (o_flip P R x) Q b X A ro T) : okCall S MT (d + 4) nX7_flip [.ref 24, .int x] (b, mW X A mk ro nx pi kp km th T) Q := by
  refine okc (M := MX7_flip) rfl rfl fun K hK hW => ?_
  show K 0 [(0, .ref 24), (1, .int x)] [] (b, mW X A mk ro nx pi kp km th T) 0 0
  unfold o_flip at hQ
  iterate 2 refine hK _ _ _ _ _ _ (?_ : K _ _ _ _ _ _)
  refine hK _ _ _ _ _ _ (r_callS rfl (fun _ => rfl) (b0 rfl rfl rfl) (kX7_isFace (fun h9 => (?_ : K _ _ _ _ _ _)) (fun i hi1 hi hx h9 => (?_ : K _ _ _ _ _ _))))
  · skip
    refine hK _ _ _ _ _ _ (And.intro (fun _ => ?_) (fun c9 => absurd (rfl) c9))
    iterate 2 refine hK _ _ _ _ _ _ (?_ : K _ _ _ _ _ _)
    refine hK _ _ _ _ _ _ (r_callV rfl (fun _ => rfl) rfl (b0 rfl rfl rfl) (kw_n (n := 1) (by decide) (by decide) (?_ : K _ _ _ _ _ _)))
    refine hK _ _ _ _ _ _ (And.intro (fun c9 => absurd c9 (nI1_0)) (fun _ => ?_))
    iterate 1 refine hK _ _ _ _ _ _ (?_ : K _ _ _ _ _ _)
    exact hK _ _ _ _ _ _ (r_iret rfl rfl rfl rfl (mq_n h9 hQ))
  · skip
    subst hx
    have hQ1 := mq_s h9 hQ
    obtain ⟨n, hRw⟩ := hI.2
    refine hK _ _ _ _ _ _ (And.intro (fun c9 => absurd c9 (nI1_0)) (fun _ => ?_))
    iterate 1 refine hK _ _ _ _ _ _ (?_ : K _ _ _ _ _ _)
    refine hK _ _ _ _ _ _ (r_callV rfl (fun _ => rfl) rfl (b0 rfl rfl rfl) (kX7_rowMany hR (?_ : K _ _ _ _ _ _)))
    refine hK _ _ _ _ _ _ (And.intro (fun c1 => ?_) (fun c1 => ?_))
    · skip
      have he0 : fb_ct R 128 = 0 := by rw [← cF_fb hRw.1]; exact Classical.byContradiction fun c => nI_ge (b := cF R 128) (a := 0) (by omega) (cF_128 R) c1
      have hQ2 := mb_t (by rw [decide_eq_true he0]; rfl) hQ1
      iterate 1 refine hK _ _ _ _ _ _ (?_ : K _ _ _ _ _ _)
      refine hK _ _ _ _ _ _ (r_callV rfl (fun _ => rfl) rfl (b0 rfl rfl rfl) (kw_0 (?_ : K _ _ _ _ _ _)))
      refine hK _ _ _ _ _ _ (And.intro (fun _ => ?_) (fun c9 => absurd (rfl) c9))
      iterate 1 refine hK _ _ _ _ _ _ (?_ : K _ _ _ _ _ _)
      refine hK _ _ _ _ _ _ (r_get rfl rfl rfl (?_ : K _ _ _ _ _ _))
      iterate 2 refine hK _ _ _ _ _ _ (?_ : K _ _ _ _ _ _)
      refine hK _ _ _ _ _ _ (r_get rfl rfl rfl (?_ : K _ _ _ _ _ _))
      iterate 1 refine hK _ _ _ _ _ _ (?_ : K _ _ _ _ _ _)
      refine hK _ _ _ _ _ _ (r_zald' (v := b2i (R i)) rfl (N := 128) (f := ro) rfl (vp_in_nI hi (by decide)) (by rw [nI_clamp (by omega)]; exact hR i hi1 hi) (?_ : K _ _ _ _ _ _))
      refine hK _ _ _ _ _ _ (And.intro (fun c3 => ?_) (fun c3 => ?_))
      · skip
        iterate 2 refine hK _ _ _ _ _ _ (?_ : K _ _ _ _ _ _)
        refine hK _ _ _ _ _ _ (r_zast' rfl (N := 128) (f := ro) rfl (vp_in_nI hi (by decide)) (show (zA 128 (upd ro (nI i).toNatClampNeg (vp_nar .boolean (nI 1))) : va_E) = zA 128 (upd ro i (b2i (!R i))) by rw [nI_clamp (by omega), (b2i_0.mp c3)]; rfl) (?_ : K _ _ _ _ _ _))
        show K _ _ _ (b, mW X A mk (upd ro i (b2i (!R i))) nx pi kp km (nI 0) T) _ _
        iterate 1 refine hK _ _ _ _ _ _ (?_ : K _ _ _ _ _ _)
        refine hK _ _ _ _ _ _ (r_callV rfl (fun _ => rfl) rfl (b0 rfl rfl rfl) (kX7_rowMany (R := sTog R i) (RI_tog hR) (?_ : K _ _ _ _ _ _)))
        rw [cF_fb (s := sTog R i) (by show (R 0 ^^ (0 == i)) = false; rw [hRw.1, beq_eq_false_iff_ne.mpr (by omega)]; rfl)]
        exact hK _ _ _ _ _ _ (r_iret rfl rfl rfl rfl (mi hQ2 hA (RI_tog hR)))
      · skip
        iterate 1 refine hK _ _ _ _ _ _ (?_ : K _ _ _ _ _ _)
        refine hK _ _ _ _ _ _ (r_zast' rfl (N := 128) (f := ro) rfl (vp_in_nI hi (by decide)) (show (zA 128 (upd ro (nI i).toNatClampNeg (vp_nar .boolean (nI 0))) : va_E) = zA 128 (upd ro i (b2i (!R i))) by rw [nI_clamp (by omega), (Bool.of_not_eq_false fun c9 => c3 (b2i_0.mpr c9))]; rfl) (?_ : K _ _ _ _ _ _))
        show K _ _ _ (b, mW X A mk (upd ro i (b2i (!R i))) nx pi kp km (nI 0) T) _ _
        iterate 1 refine hK _ _ _ _ _ _ (?_ : K _ _ _ _ _ _)
        refine hK _ _ _ _ _ _ (r_callV rfl (fun _ => rfl) rfl (b0 rfl rfl rfl) (kX7_rowMany (R := sTog R i) (RI_tog hR) (?_ : K _ _ _ _ _ _)))
        rw [cF_fb (s := sTog R i) (by show (R 0 ^^ (0 == i)) = false; rw [hRw.1, beq_eq_false_iff_ne.mpr (by omega)]; rfl)]
        exact hK _ _ _ _ _ _ (r_iret rfl rfl rfl rfl (mi hQ2 hA (RI_tog hR)))
    · skip
      have hne : fb_ct R 128 ≠ 0 := fun c => c1 (by rw [cF_fb hRw.1, c]; exact nI_le (Nat.le_refl 0) (by decide))
      iterate 1 refine hK _ _ _ _ _ _ (?_ : K _ _ _ _ _ _)
      refine hK _ _ _ _ _ _ (r_callV rfl (fun _ => rfl) rfl (b0 rfl rfl rfl) (kX7_rowHeight hR (?_ : K _ _ _ _ _ _)))
      iterate 1 refine hK _ _ _ _ _ _ (?_ : K _ _ _ _ _ _)
      refine hK _ _ _ _ _ _ (r_callS rfl (fun _ => rfl) (b0 rfl rfl rfl) (kX7_height (i := i) hi hi1 (?_ : K _ _ _ _ _ _)))
      refine hK _ _ _ _ _ _ (And.intro (fun c2 => ?_) (fun c2 => ?_))
      · skip
        rw [rhL_R hRw hne] at c2
        have hr7 := (rh_n hRw hne).1
        have hn7 := hRw.2.2.1
        have hh : rh R = ht i := (nI_eq (by omega) (by have := ht_7 hi; omega)).mp c2
        have hQ2 := mb_t (by rw [hh, beq_self_eq_true, Bool.or_true]) hQ1
        iterate 1 refine hK _ _ _ _ _ _ (?_ : K _ _ _ _ _ _)
        refine hK _ _ _ _ _ _ (r_callV rfl (fun _ => rfl) rfl (b0 rfl rfl rfl) (kw_0 (?_ : K _ _ _ _ _ _)))
        refine hK _ _ _ _ _ _ (And.intro (fun _ => ?_) (fun c9 => absurd (rfl) c9))
        iterate 1 refine hK _ _ _ _ _ _ (?_ : K _ _ _ _ _ _)
        refine hK _ _ _ _ _ _ (r_get rfl rfl rfl (?_ : K _ _ _ _ _ _))
        iterate 2 refine hK _ _ _ _ _ _ (?_ : K _ _ _ _ _ _)
        refine hK _ _ _ _ _ _ (r_get rfl rfl rfl (?_ : K _ _ _ _ _ _))
        iterate 1 refine hK _ _ _ _ _ _ (?_ : K _ _ _ _ _ _)
        refine hK _ _ _ _ _ _ (r_zald' (v := b2i (R i)) rfl (N := 128) (f := ro) rfl (vp_in_nI hi (by decide)) (by rw [nI_clamp (by omega)]; exact hR i hi1 hi) (?_ : K _ _ _ _ _ _))
        refine hK _ _ _ _ _ _ (And.intro (fun c3 => ?_) (fun c3 => ?_))
        · skip
          iterate 2 refine hK _ _ _ _ _ _ (?_ : K _ _ _ _ _ _)
          refine hK _ _ _ _ _ _ (r_zast' rfl (N := 128) (f := ro) rfl (vp_in_nI hi (by decide)) (show (zA 128 (upd ro (nI i).toNatClampNeg (vp_nar .boolean (nI 1))) : va_E) = zA 128 (upd ro i (b2i (!R i))) by rw [nI_clamp (by omega), (b2i_0.mp c3)]; rfl) (?_ : K _ _ _ _ _ _))
          show K _ _ _ (b, mW X A mk (upd ro i (b2i (!R i))) nx pi kp km (nI 0) T) _ _
          iterate 1 refine hK _ _ _ _ _ _ (?_ : K _ _ _ _ _ _)
          refine hK _ _ _ _ _ _ (r_callV rfl (fun _ => rfl) rfl (b0 rfl rfl rfl) (kX7_rowMany (R := sTog R i) (RI_tog hR) (?_ : K _ _ _ _ _ _)))
          rw [cF_fb (s := sTog R i) (by show (R 0 ^^ (0 == i)) = false; rw [hRw.1, beq_eq_false_iff_ne.mpr (by omega)]; rfl)]
          exact hK _ _ _ _ _ _ (r_iret rfl rfl rfl rfl (mi hQ2 hA (RI_tog hR)))
        · skip
          iterate 1 refine hK _ _ _ _ _ _ (?_ : K _ _ _ _ _ _)
          refine hK _ _ _ _ _ _ (r_zast' rfl (N := 128) (f := ro) rfl (vp_in_nI hi (by decide)) (show (zA 128 (upd ro (nI i).toNatClampNeg (vp_nar .boolean (nI 0))) : va_E) = zA 128 (upd ro i (b2i (!R i))) by rw [nI_clamp (by omega), (Bool.of_not_eq_false fun c9 => c3 (b2i_0.mpr c9))]; rfl) (?_ : K _ _ _ _ _ _))
          show K _ _ _ (b, mW X A mk (upd ro i (b2i (!R i))) nx pi kp km (nI 0) T) _ _
          iterate 1 refine hK _ _ _ _ _ _ (?_ : K _ _ _ _ _ _)
          refine hK _ _ _ _ _ _ (r_callV rfl (fun _ => rfl) rfl (b0 rfl rfl rfl) (kX7_rowMany (R := sTog R i) (RI_tog hR) (?_ : K _ _ _ _ _ _)))
          rw [cF_fb (s := sTog R i) (by show (R 0 ^^ (0 == i)) = false; rw [hRw.1, beq_eq_false_iff_ne.mpr (by omega)]; rfl)]
          exact hK _ _ _ _ _ _ (r_iret rfl rfl rfl rfl (mi hQ2 hA (RI_tog hR)))
      · skip
        rw [rhL_R hRw hne] at c2
        have hh : rh R ≠ ht i := fun c9 => c2 (by rw [c9])
        iterate 2 refine hK _ _ _ _ _ _ (?_ : K _ _ _ _ _ _)
        refine hK _ _ _ _ _ _ (r_callV rfl (fun _ => rfl) rfl (b0 rfl rfl rfl) (kw_n (n := 2) (by decide) (by decide) (?_ : K _ _ _ _ _ _)))
        refine hK _ _ _ _ _ _ (And.intro (fun c9 => absurd c9 (nI1_0)) (fun _ => ?_))
        iterate 1 refine hK _ _ _ _ _ _ (?_ : K _ _ _ _ _ _)
        exact hK _ _ _ _ _ _ (r_iret rfl rfl rfl rfl (mb_f (by rw [beq_eq_false_iff_ne.mpr hh, decide_eq_false hne]; rfl) hQ1))

def nxF (nx : Nat → Int32) (R : Nat → Bool) (k j : Nat) : Nat → Int32 := upd (fl 0 nx (bdS R) k) k (b2i (nbX R k j))
theorem nxF_s (nx : Nat → Int32) (R : Nat → Bool) (k j : Nat) (x : Int32) (h : x = b2i (nbX R k (j + 1))) (hk : k < 2 ^ 31) : upd (nxF nx R k j) (nI k).toNatClampNeg (vp_nar .boolean x) = nxF nx R k (j + 1) := by
  subst h
  rw [nI_clamp hk, nar_b]
  funext i
  unfold nxF
  show (if i = k then _ else if i = k then _ else _) = if i = k then _ else _
  by_cases e : i = k
  · rw [if_pos e, if_pos e]
  · rw [if_neg e, if_neg e, if_neg e]
theorem nxF_0 (nx : Nat → Int32) (R : Nat → Bool) (k : Nat) (hk : k < 2 ^ 31) : upd (fl 0 nx (bdS R) k) (nI k).toNatClampNeg (vp_nar .boolean (nI 0)) = nxF nx R k 0 := by
  rw [nI_clamp hk]; rfl
theorem nxF_7 (nx : Nat → Int32) (R : Nat → Bool) {k : Nat} (h1 : 1 ≤ k) (hk : k < 128) : nxF nx R k 7 = fl 0 nx (bdS R) (k + 1) := by
  unfold nxF
  rw [← bdS_nb h1 hk]
  have := fl_s (B := 0) (A := nx) (s := bdS R) h1
  rw [Nat.zero_add] at this
  exact this
theorem nxF_k (nx : Nat → Int32) (R : Nat → Bool) (k j : Nat) : nxF nx R k j k = b2i (nbX R k j) := if_pos rfl
theorem nb_s1 {R : Nat → Bool} {k j : Nat} (h1 : k.testBit j = false) (h2 : R (k ||| 2 ^ j) = true) : b2i (nbX R k j) ^^^ nI 1 = b2i (nbX R k (j + 1)) := by
  rw [xor_1]; unfold nbX; rw [h1, h2]; cases j <;> rfl
theorem nb_s0 {R : Nat → Bool} {k j : Nat} (h : k.testBit j = true ∨ R (k ||| 2 ^ j) = false) : b2i (nbX R k j) ^^^ nI 0 = b2i (nbX R k (j + 1)) := by
  rw [xor_0b]
  have e : nbX R k (j + 1) = (nbX R k j ^^ (!k.testBit j && R (k ||| 2 ^ j))) := rfl
  rw [e]
  rcases h with h | h
  · rw [h]; simp
  · rw [h]; simp
set_option maxRecDepth 10000 in
/-- Model.findBorder -/
theorem kX7_findBorder {S : Nat × (Nat → Int32)} {d : Nat} {Q : eQ} {b : Bool} {X : Nat → va_E} {A mk ro nx pi : Nat → Int32} {kp : Nat → Int64} {km th : Int32} {T : List va_E} {R : Nat → Bool} (hR : RI R ro) (hQ : Q (.inl none) (b, mW X A mk ro (fl 0 nx (bdS R) 128) pi kp km th T)) : okCall S MT (d + 2) nX7_findBorder [.ref 24] (b, mW X A mk ro nx pi kp km th T) Q := by
  refine okc (M := MX7_findBorder) rfl rfl fun K hK hW => ?_
  show K 0 [(0, .ref 24)] [] (b, mW X A mk ro nx pi kp km th T) 0 0
  iterate 2 refine hK _ _ _ _ _ _ (?_ : K _ _ _ _ _ _)
  have e0 := fl_1 0 nx (bdS R)
  rw [← e0]
  refine hW _ _ [(1, .int (nI (1))), (0, .ref 24)] _ _ _ _ (by simp) ?_
  refine up (P := fun k => K 2 [(1, .int (nI (k))), (0, .ref 24)] [] (b, mW X A mk ro (fl 0 nx (bdS R) (k)) pi kp km th T) 0 0) 128 1 ?_ ?_ (by decide)
  · skip
    iterate 2 refine hK _ _ _ _ _ _ (?_ : K _ _ _ _ _ _)
    refine hK _ _ _ _ _ _ (And.intro (fun _ => ?_) (fun c9 => absurd (nI_le (Nat.le_refl 128) (by decide)) c9))
    exact hK _ _ _ _ _ _ (r_vret rfl rfl rfl hQ)
  · intro k h0k hk ihk
    iterate 2 refine hK _ _ _ _ _ _ (?_ : K _ _ _ _ _ _)
    refine hK _ _ _ _ _ _ (And.intro (fun c9 => absurd c9 (nI_ge (by omega) (by decide))) (fun _ => ?_))
    iterate 1 refine hK _ _ _ _ _ _ (?_ : K _ _ _ _ _ _)
    refine hK _ _ _ _ _ _ (r_get rfl rfl rfl (?_ : K _ _ _ _ _ _))
    iterate 2 refine hK _ _ _ _ _ _ (?_ : K _ _ _ _ _ _)
    refine hK _ _ _ _ _ _ (r_zast' rfl (N := 128) (f := fl 0 nx (bdS R) k) rfl (vp_in_nI (by omega) (by decide)) (show (zA 128 _ : va_E) = zA 128 (nxF nx R k 0) by rw [nxF_0 nx R k (by omega)]) (?_ : K _ _ _ _ _ _))
    show K _ _ _ (b, mW X A mk ro (nxF nx R k 0) pi kp km th T) _ _
    iterate 2 refine hK _ _ _ _ _ _ (?_ : K _ _ _ _ _ _)
    refine hW _ _ [(2, .int (nI (0))), (0, .ref 24), (1, .int (nI k))] _ _ _ _ (by simp) ?_
    refine up (P := fun j => K 18 [(2, .int (nI (j))), (0, .ref 24), (1, .int (nI k))] [] (b, mW X A mk ro (nxF nx R k (j)) pi kp km th T) 0 0) 7 0 ?_ ?_ (by decide)
    · skip
      iterate 2 refine hK _ _ _ _ _ _ (?_ : K _ _ _ _ _ _)
      refine hK _ _ _ _ _ _ (And.intro (fun _ => ?_) (fun c9 => absurd (nI_le (Nat.le_refl 7) (by decide)) c9))
      iterate 2 refine hK _ _ _ _ _ _ (?_ : K _ _ _ _ _ _)
      rw [nxF_7 nx R (by omega) (by omega), nI_add k 1]
      first | exact ihk | exact hW _ _ _ _ _ _ _ (by simp) ihk
    · intro j h0j hj ihj
      iterate 2 refine hK _ _ _ _ _ _ (?_ : K _ _ _ _ _ _)
      refine hK _ _ _ _ _ _ (And.intro (fun c9 => absurd c9 (nI_ge (by omega) (by decide))) (fun _ => ?_))
      iterate 1 refine hK _ _ _ _ _ _ (?_ : K _ _ _ _ _ _)
      refine hK _ _ _ _ _ _ (r_get rfl rfl rfl (?_ : K _ _ _ _ _ _))
      iterate 2 refine hK _ _ _ _ _ _ (?_ : K _ _ _ _ _ _)
      refine hK _ _ _ _ _ _ (r_zald' (v := b2i (nbX R k j)) rfl (N := 128) (f := nxF nx R k j) rfl (vp_in_nI (by omega) (by decide)) (by rw [nI_clamp (by omega)]; exact nxF_k nx R k j) (?_ : K _ _ _ _ _ _))
      iterate 5 refine hK _ _ _ _ _ _ (?_ : K _ _ _ _ _ _)
      refine hK _ _ _ _ _ _ (And.intro (fun c1 => ?_) (fun c1 => ?_))
      · skip
        rw [cb_ok j hj k (by omega)] at c1
        iterate 1 refine hK _ _ _ _ _ _ (?_ : K _ _ _ _ _ _)
        refine hK _ _ _ _ _ _ (r_get rfl rfl rfl (?_ : K _ _ _ _ _ _))
        iterate 5 refine hK _ _ _ _ _ _ (?_ : K _ _ _ _ _ _)
        rw [sh1 j hj, nx_or]
        refine hK _ _ _ _ _ _ (r_zald' (v := b2i (R (k ||| 2 ^ j))) rfl (N := 128) (f := ro) rfl (vp_in_nI (or_lt (by omega) hj) (by decide)) (by rw [nI_clamp (Nat.lt_trans (or_lt (show k < 128 by omega) hj) (by decide))]; exact hR _ (by have := isP_le (isP_o1 k (2 ^ j)); omega) (or_lt (by omega) hj)) (?_ : K _ _ _ _ _ _))
        refine hK _ _ _ _ _ _ (And.intro (fun c2 => ?_) (fun c2 => ?_))
        · skip
          iterate 2 refine hK _ _ _ _ _ _ (?_ : K _ _ _ _ _ _)
          refine hK _ _ _ _ _ _ (r_zast' rfl (N := 128) (f := nxF nx R k j) rfl (vp_in_nI (by omega) (by decide)) (show (zA 128 _ : va_E) = zA 128 (nxF nx R k (j + 1)) by rw [nxF_s nx R k j _ (nb_s0 (Or.inr (b2i_0.mp c2))) (by omega)]) (?_ : K _ _ _ _ _ _))
          show K _ _ _ (b, mW X A mk ro (nxF nx R k (j + 1)) pi kp km th T) _ _
          iterate 2 refine hK _ _ _ _ _ _ (?_ : K _ _ _ _ _ _)
          rw [nI_add j 1]
          first | exact ihj | exact hW _ _ _ _ _ _ _ (by simp) ihj
        · skip
          iterate 3 refine hK _ _ _ _ _ _ (?_ : K _ _ _ _ _ _)
          refine hK _ _ _ _ _ _ (r_zast' rfl (N := 128) (f := nxF nx R k j) rfl (vp_in_nI (by omega) (by decide)) (show (zA 128 _ : va_E) = zA 128 (nxF nx R k (j + 1)) by rw [nxF_s nx R k j _ (nb_s1 (b2i_0.mp c1) (Bool.of_not_eq_false fun c9 => c2 (b2i_0.mpr c9))) (by omega)]) (?_ : K _ _ _ _ _ _))
          show K _ _ _ (b, mW X A mk ro (nxF nx R k (j + 1)) pi kp km th T) _ _
          iterate 2 refine hK _ _ _ _ _ _ (?_ : K _ _ _ _ _ _)
          rw [nI_add j 1]
          first | exact ihj | exact hW _ _ _ _ _ _ _ (by simp) ihj
      · skip
        rw [cb_ok j hj k (by omega)] at c1
        iterate 2 refine hK _ _ _ _ _ _ (?_ : K _ _ _ _ _ _)
        refine hK _ _ _ _ _ _ (r_zast' rfl (N := 128) (f := nxF nx R k j) rfl (vp_in_nI (by omega) (by decide)) (show (zA 128 _ : va_E) = zA 128 (nxF nx R k (j + 1)) by rw [nxF_s nx R k j _ (nb_s0 (Or.inl (Bool.of_not_eq_false fun c9 => c1 (b2i_0.mpr c9)))) (by omega)]) (?_ : K _ _ _ _ _ _))
        show K _ _ _ (b, mW X A mk ro (nxF nx R k (j + 1)) pi kp km th T) _ _
        iterate 2 refine hK _ _ _ _ _ _ (?_ : K _ _ _ _ _ _)
        rw [nI_add j 1]
        first | exact ihj | exact hW _ _ _ _ _ _ _ (by simp) ihj

set_option maxRecDepth 10000 in
/-- Model.border -/
theorem kX7_border {S : Nat × (Nat → Int32)} {d : Nat} {Q : eQ} {b : Bool} {X : Nat → va_E} {A mk ro nx pi : Nat → Int32} {kp : Nat → Int64} {km th : Int32} {T : List va_E} {R : Nat → Bool} (hR : RI R ro) (hQ : ∀ nx2 ro2, RI (bdS R) ro2 → Q (.inl (some (.int (nI (fb_ct (bdS R) 128))))) (b, mW X A mk ro2 nx2 pi kp km th T)) : okCall S MT (d + 3) nX7_border [.ref 24] (b, mW X A mk ro nx pi kp km th T) Q := by
  refine okc (M := MX7_border) rfl rfl fun K hK hW => ?_
  show K 0 [(0, .ref 24)] [] (b, mW X A mk ro nx pi kp km th T) 0 0
  iterate 1 refine hK _ _ _ _ _ _ (?_ : K _ _ _ _ _ _)
  refine hK _ _ _ _ _ _ (r_callV rfl (fun _ => rfl) rfl (b0 rfl rfl rfl) (kX7_findBorder hR (?_ : K _ _ _ _ _ _)))
  iterate 2 refine hK _ _ _ _ _ _ (?_ : K _ _ _ _ _ _)
  have e0 := fl_1 0 ro (bdS R)
  rw [← e0]
  refine hW _ _ [(1, .int (nI (1))), (0, .ref 24)] _ _ _ _ (by simp) ?_
  refine up (P := fun k => K 6 [(1, .int (nI (k))), (0, .ref 24)] [] (b, mW X A mk (fl 0 ro (bdS R) (k)) (fl 0 nx (bdS R) 128) pi kp km th T) 0 0) 128 1 ?_ ?_ (by decide)
  · skip
    iterate 2 refine hK _ _ _ _ _ _ (?_ : K _ _ _ _ _ _)
    refine hK _ _ _ _ _ _ (And.intro (fun _ => ?_) (fun c9 => absurd (nI_le (Nat.le_refl 128) (by decide)) c9))
    iterate 1 refine hK _ _ _ _ _ _ (?_ : K _ _ _ _ _ _)
    refine hK _ _ _ _ _ _ (r_callV rfl (fun _ => rfl) rfl (b0 rfl rfl rfl) (kX7_rowMany (R := bdS R) fl_RI (?_ : K _ _ _ _ _ _)))
    rw [cF_fb (bdS_0 R)]
    exact hK _ _ _ _ _ _ (r_iret rfl rfl rfl rfl (hQ _ _ fl_RI))
  · intro k h0k hk ihk
    iterate 2 refine hK _ _ _ _ _ _ (?_ : K _ _ _ _ _ _)
    refine hK _ _ _ _ _ _ (And.intro (fun c9 => absurd c9 (nI_ge (by omega) (by decide))) (fun _ => ?_))
    iterate 1 refine hK _ _ _ _ _ _ (?_ : K _ _ _ _ _ _)
    refine hK _ _ _ _ _ _ (r_get rfl rfl rfl (?_ : K _ _ _ _ _ _))
    iterate 2 refine hK _ _ _ _ _ _ (?_ : K _ _ _ _ _ _)
    refine hK _ _ _ _ _ _ (r_get rfl rfl rfl (?_ : K _ _ _ _ _ _))
    iterate 1 refine hK _ _ _ _ _ _ (?_ : K _ _ _ _ _ _)
    refine hK _ _ _ _ _ _ (r_zald' (v := b2i (bdS R k)) rfl (N := 128) (f := fl 0 nx (bdS R) 128) rfl (vp_in_nI (by omega) (by decide)) (by rw [nI_clamp (by omega)]; exact fl_RI k (by omega) (by omega)) (?_ : K _ _ _ _ _ _))
    refine hK _ _ _ _ _ _ (r_zastF (B := 0) (k := k) (s := (bdS R)) (N := 128) rfl (by rw [Nat.zero_add]) (nar_b _) (by omega) (by omega) (by decide) rfl (?_ : K _ _ _ _ _ _))
    show K _ _ _ (b, mW X A mk (fl 0 ro (bdS R) (k + 1)) (fl 0 nx (bdS R) 128) pi kp km th T) _ _
    iterate 2 refine hK _ _ _ _ _ _ (?_ : K _ _ _ _ _ _)
    rw [nI_add k 1]
    first | exact ihk | exact hW _ _ _ _ _ _ _ (by simp) ihk

set_option maxRecDepth 10000 in
/-- Model.drop -/
theorem kX7_drop {S : Nat × (Nat → Int32)} {d : Nat} {Q : eQ} {b : Bool} {X : Nat → va_E} {A mk ro nx pi : Nat → Int32} {kp : Nat → Int64} {km th : Int32} {T : List va_E} {R : Nat → Bool} (hR : RI R ro) (h0 : R 0 = false) (hQ : ∀ ro2, RI no9 ro2 → Q (.inl (some (.int (nI (fb_ct R 128))))) (b, mW X A mk ro2 nx pi kp km th T)) : okCall S MT (d + 2) nX7_drop [.ref 24] (b, mW X A mk ro nx pi kp km th T) Q := by
  refine okc (M := MX7_drop) rfl rfl fun K hK hW => ?_
  show K 0 [(0, .ref 24)] [] (b, mW X A mk ro nx pi kp km th T) 0 0
  iterate 1 refine hK _ _ _ _ _ _ (?_ : K _ _ _ _ _ _)
  refine hK _ _ _ _ _ _ (r_callV rfl (fun _ => rfl) rfl (b0 rfl rfl rfl) (kX7_rowMany hR (?_ : K _ _ _ _ _ _)))
  iterate 3 refine hK _ _ _ _ _ _ (?_ : K _ _ _ _ _ _)
  have e0 := fl_1 0 ro no9
  rw [← e0]
  refine hW _ _ [(2, .int (nI (1))), (1, .int (nI (cF R 128))), (0, .ref 24)] _ _ _ _ (by simp) ?_
  refine up (P := fun k => K 7 [(2, .int (nI (k))), (1, .int (nI (cF R 128))), (0, .ref 24)] [] (b, mW X A mk (fl 0 ro no9 (k)) nx pi kp km th T) 0 0) 128 1 ?_ ?_ (by decide)
  · skip
    iterate 2 refine hK _ _ _ _ _ _ (?_ : K _ _ _ _ _ _)
    refine hK _ _ _ _ _ _ (And.intro (fun _ => ?_) (fun c9 => absurd (nI_le (Nat.le_refl 128) (by decide)) c9))
    iterate 1 refine hK _ _ _ _ _ _ (?_ : K _ _ _ _ _ _)
    rw [cF_fb h0]
    exact hK _ _ _ _ _ _ (r_iret rfl rfl rfl rfl (hQ _ fl_RI))
  · intro k h0k hk ihk
    iterate 2 refine hK _ _ _ _ _ _ (?_ : K _ _ _ _ _ _)
    refine hK _ _ _ _ _ _ (And.intro (fun c9 => absurd c9 (nI_ge (by omega) (by decide))) (fun _ => ?_))
    iterate 1 refine hK _ _ _ _ _ _ (?_ : K _ _ _ _ _ _)
    refine hK _ _ _ _ _ _ (r_get rfl rfl rfl (?_ : K _ _ _ _ _ _))
    iterate 2 refine hK _ _ _ _ _ _ (?_ : K _ _ _ _ _ _)
    refine hK _ _ _ _ _ _ (r_zastF (B := 0) (k := k) (s := no9) (N := 128) rfl (by rw [Nat.zero_add]) (nar_f rfl) (by omega) (by omega) (by decide) rfl (?_ : K _ _ _ _ _ _))
    show K _ _ _ (b, mW X A mk (fl 0 ro no9 (k + 1)) nx pi kp km th T) _ _
    iterate 2 refine hK _ _ _ _ _ _ (?_ : K _ _ _ _ _ _)
    rw [nI_add k 1]
    first | exact ihk | exact hW _ _ _ _ _ _ _ (by simp) ihk

set_option maxRecDepth 10000 in
/-- Model.rowAt -/
theorem kX7_rowAt {S : Nat × (Nat → Int32)} {d : Nat} {Q : eQ} {b : Bool} {X : Nat → va_E} {A mk ro nx pi : Nat → Int32} {kp : Nat → Int64} {km th : Int32} {T : List va_E} {P : Nat → Nat → Bool} {R : Nat → Bool} {x : Int32} (hI : IvC P R) (hA : MI P A) (hR : RI R ro) (hQ : mQ (.int (nI 0)) cmA (o_rowAt P R x) Q b X A ro T) : okCall S MT (d + 3) nX7_rowAt [.ref 24, .int x] (b, mW X A mk ro nx pi kp km th T) Q := by
  refine okc (M := MX7_rowAt) rfl rfl fun K hK hW => ?_
  show K 0 [(0, .ref 24), (1, .int x)] [] (b, mW X A mk ro nx pi kp km th T) 0 0
  unfold o_rowAt at hQ
  iterate 4 refine hK _ _ _ _ _ _ (?_ : K _ _ _ _ _ _)
  refine hK _ _ _ _ _ _ (r_callV rfl (fun _ => rfl) rfl (b0 rfl rfl rfl) (kX7_rowMany hR (?_ : K _ _ _ _ _ _)))
  iterate 2 refine hK _ _ _ _ _ _ (?_ : K _ _ _ _ _ _)
  refine hK _ _ _ _ _ _ (r_callS rfl (fun _ => rfl) (b0 rfl rfl rfl) (kX7_isIn (fun h8 => (?_ : K _ _ _ _ _ _)) (fun h7 h8 => (?_ : K _ _ _ _ _ _))))
  · skip
    refine hK _ _ _ _ _ _ (And.intro (fun _ => ?_) (fun c9 => absurd (rfl) c9))
    iterate 1 refine hK _ _ _ _ _ _ (?_ : K _ _ _ _ _ _)
    refine hK _ _ _ _ _ _ (r_callV rfl (fun _ => rfl) rfl (b0 rfl rfl rfl) (kw_n (n := 1) (by decide) (by decide) (?_ : K _ _ _ _ _ _)))
    refine hK _ _ _ _ _ _ (And.intro (fun c9 => absurd c9 (nI1_0)) (fun _ => ?_))
    iterate 1 refine hK _ _ _ _ _ _ (?_ : K _ _ _ _ _ _)
    exact hK _ _ _ _ _ _ (r_iret rfl rfl rfl rfl (mb_f (ffB (gat_n h8)) hQ))
  · skip
    obtain ⟨j, F, rfl, F1, F2, F3, F4, F5⟩ := gat_s h7 h8
    rw [F5] at hQ
    have hQ2 := mb_t (ffB2 (by rw [F5]; omega)) hQ
    refine hK _ _ _ _ _ _ (And.intro (fun c9 => absurd c9 (nI1_0)) (fun _ => ?_))
    iterate 2 refine hK _ _ _ _ _ _ (?_ : K _ _ _ _ _ _)
    refine hK _ _ _ _ _ _ (r_callV rfl (fun _ => rfl) rfl (b0 rfl rfl rfl) (kw_0 (?_ : K _ _ _ _ _ _)))
    refine hK _ _ _ _ _ _ (And.intro (fun _ => ?_) (fun c9 => absurd (rfl) c9))
    iterate 4 refine hK _ _ _ _ _ _ (?_ : K _ _ _ _ _ _)
    refine hW _ _ [(3, .int (nI (0))), (2, .int (nZ ((j : Int) - (cF R (0 + 1) : Nat)))), (0, .ref 24)] _ _ _ _ (by simp [show nZ ((j : Int) - (cF R (0 + 1) : Nat)) = nI j from by rw [nZ_nI, show cF R (0 + 1) = 0 from rfl]; exact congrArg nZ (by omega)]) ?_
    refine up (P := fun k => K 32 [(3, .int (nI (k))), (2, .int (nZ ((j : Int) - (cF R (k + 1) : Nat)))), (0, .ref 24)] [] (b, mW X A mk ro nx pi kp km (nI 0) T) 0 0) F 0 ?_ ?_ (by omega)
    · skip
      iterate 1 refine hK _ _ _ _ _ _ (?_ : K _ _ _ _ _ _)
      refine hK _ _ _ _ _ _ (And.intro (fun _ => ?_) (fun c9 => absurd (lz_t F1 F2 F3 F4) c9))
      iterate 1 refine hK _ _ _ _ _ _ (?_ : K _ _ _ _ _ _)
      exact hK _ _ _ _ _ _ (r_iret rfl rfl rfl rfl (mi hQ2 hA hR))
    · intro k h0k hk ihk
      iterate 1 refine hK _ _ _ _ _ _ (?_ : K _ _ _ _ _ _)
      refine hK _ _ _ _ _ _ (And.intro (fun c9 => absurd c9 (lz_f hk F2 F4)) (fun _ => ?_))
      iterate 3 refine hK _ _ _ _ _ _ (?_ : K _ _ _ _ _ _)
      refine hK _ _ _ _ _ _ (r_get rfl rfl rfl (?_ : K _ _ _ _ _ _))
      iterate 1 refine hK _ _ _ _ _ _ (?_ : K _ _ _ _ _ _)
      rw [nI_add k 1]
      refine hK _ _ _ _ _ _ (r_zald' (v := b2i (R (k + 1))) rfl (N := 128) (f := ro) rfl (vp_in_nI (by omega) (by decide)) (by show ro (nI ((k + 1))).toNatClampNeg = _; rw [nI_clamp (by omega)]; exact hR (k + 1) (by omega) (by omega)) (?_ : K _ _ _ _ _ _))
      refine hK _ _ _ _ _ _ (And.intro (fun c1 => ?_) (fun c1 => ?_))
      · skip
        iterate 4 refine hK _ _ _ _ _ _ (?_ : K _ _ _ _ _ _)
        rw [lz_0 (s := R) (b2i_0.mp c1)]
        first | exact ihk | exact hW _ _ _ _ _ _ _ (by simp) ihk
      · skip
        iterate 5 refine hK _ _ _ _ _ _ (?_ : K _ _ _ _ _ _)
        rw [lz_1 (s := R) (Bool.of_not_eq_false fun c9 => c1 (b2i_0.mpr c9))]
        first | exact ihk | exact hW _ _ _ _ _ _ _ (by simp) ihk

def alB (s : Nat → Bool) (k : Nat) : Bool := sAll (fun f => f == 0 || !s f) k
theorem alB_s {s : Nat → Bool} {k : Nat} (h : 1 ≤ k) : alB s (k + 1) = (alB s k && !s k) := by
  show (alB s k && (k == 0 || !s k)) = _
  rw [beq_eq_false_iff_ne.mpr (show k ≠ 0 by omega)]; rfl
theorem alB_v {s : Nat → Bool} (h0 : s 0 = false) : decide (fb_ct s 128 = 0) = alB s 128 := by
  rw [Bool.eq_iff_iff, decide_eq_true_eq, fb_ct_zero]
  unfold alB
  rw [sAll_iff]
  constructor
  · intro h i hi; rw [h i hi]; simp
  · intro h i hi
    by_cases e : i = 0
    · subst e; exact h0
    · have := h i hi
      rw [beq_eq_false_iff_ne.mpr e] at this
      simpa using this
set_option maxRecDepth 10000 in
/-- Model.isRound -/
theorem kX7_isRound {S : Nat × (Nat → Int32)} {d : Nat} {Q : eQ} {b : Bool} {X : Nat → va_E} {A mk ro nx pi : Nat → Int32} {kp : Nat → Int64} {km th : Int32} {T : List va_E} {R : Nat → Bool} (hR : RI R ro) (hQ : ∀ nx2, Q (.inl (some (.int (b2i (decide (fb_ct (bdS R) 128 = 0)))))) (b, mW X A mk ro nx2 pi kp km th T)) : okCall S MT (d + 3) nX7_isRound [.ref 24] (b, mW X A mk ro nx pi kp km th T) Q := by
  refine okc (M := MX7_isRound) rfl rfl fun K hK hW => ?_
  show K 0 [(0, .ref 24)] [] (b, mW X A mk ro nx pi kp km th T) 0 0
  iterate 1 refine hK _ _ _ _ _ _ (?_ : K _ _ _ _ _ _)
  refine hK _ _ _ _ _ _ (r_callV rfl (fun _ => rfl) rfl (b0 rfl rfl rfl) (kX7_findBorder hR (?_ : K _ _ _ _ _ _)))
  iterate 4 refine hK _ _ _ _ _ _ (?_ : K _ _ _ _ _ _)
  refine hW _ _ [(2, .int (nI (1))), (1, .int (b2i (alB (bdS R) (1)))), (0, .ref 24)] _ _ _ _ (by simp [show b2i (alB (bdS R) 1) = nI 1 from rfl]) ?_
  refine up (P := fun k => K 8 [(2, .int (nI (k))), (1, .int (b2i (alB (bdS R) (k)))), (0, .ref 24)] [] (b, mW X A mk ro (fl 0 nx (bdS R) 128) pi kp km th T) 0 0) 128 1 ?_ ?_ (by decide)
  · skip
    iterate 2 refine hK _ _ _ _ _ _ (?_ : K _ _ _ _ _ _)
    refine hK _ _ _ _ _ _ (And.intro (fun _ => ?_) (fun c9 => absurd (nI_le (Nat.le_refl 128) (by decide)) c9))
    iterate 1 refine hK _ _ _ _ _ _ (?_ : K _ _ _ _ _ _)
    rw [← alB_v (bdS_0 R)]
    exact hK _ _ _ _ _ _ (r_iret rfl (b2i_nar _) rfl rfl (hQ _))
  · intro k h0k hk ihk
    iterate 2 refine hK _ _ _ _ _ _ (?_ : K _ _ _ _ _ _)
    refine hK _ _ _ _ _ _ (And.intro (fun c9 => absurd c9 (nI_ge (by omega) (by decide))) (fun _ => ?_))
    iterate 2 refine hK _ _ _ _ _ _ (?_ : K _ _ _ _ _ _)
    refine hK _ _ _ _ _ _ (r_get rfl rfl rfl (?_ : K _ _ _ _ _ _))
    iterate 1 refine hK _ _ _ _ _ _ (?_ : K _ _ _ _ _ _)
    refine hK _ _ _ _ _ _ (r_zald' (v := b2i (bdS R k)) rfl (N := 128) (f := fl 0 nx (bdS R) 128) rfl (vp_in_nI (by omega) (by decide)) (by rw [nI_clamp (by omega)]; exact fl_RI k (by omega) (by omega)) (?_ : K _ _ _ _ _ _))
    refine hK _ _ _ _ _ _ (And.intro (fun c1 => ?_) (fun c1 => ?_))
    · skip
      iterate 6 refine hK _ _ _ _ _ _ (?_ : K _ _ _ _ _ _)
      have e1 : alB (bdS R) (k + 1) = alB (bdS R) k := by rw [alB_s (by omega), (b2i_0.mp c1)]; simp
      rw [e1] at ihk
      rw [and_1, nI_add k 1]
      first | exact ihk | exact hW _ _ _ _ _ _ _ (by simp) ihk
    · skip
      iterate 5 refine hK _ _ _ _ _ _ (?_ : K _ _ _ _ _ _)
      have e1 : alB (bdS R) (k + 1) = false := by rw [alB_s (by omega), (Bool.of_not_eq_false fun c9 => c1 (b2i_0.mpr c9))]; simp
      rw [e1] at ihk
      rw [and_0, nI_add k 1]
      first | exact ihk | exact hW _ _ _ _ _ _ _ (by simp) ihk

theorem ck_c {s : Nat → Bool} (h0 : s 0 = false) (x : Int64) : lN 31 * x + lN (cF s 128) = ckF s x 1 := by
  rw [cF_fb h0, Int64.mul_comm]; rfl
set_option maxRecDepth 10000 in
/-- Model.checksum -/
theorem kX7_checksum {S : Nat × (Nat → Int32)} {d : Nat} {Q : eQ} {b : Bool} {X : Nat → va_E} {A mk ro nx pi : Nat → Int32} {kp : Nat → Int64} {km th : Int32} {T : List va_E} {P : Nat → Nat → Bool} {R : Nat → Bool} (hI : IvC P R) (hA : MI P A) (hR : RI R ro) (hQ : Q (.inl (some (.long (ckF R (ckP P 6) 128)))) (b, mW X A mk ro nx pi kp km th T)) : okCall S MT (d + 3) nX7_checksum [.ref 24] (b, mW X A mk ro nx pi kp km th T) Q := by
  refine okc (M := MX7_checksum) rfl rfl fun K hK hW => ?_
  show K 0 [(0, .ref 24)] [] (b, mW X A mk ro nx pi kp km th T) 0 0
  iterate 4 refine hK _ _ _ _ _ _ (?_ : K _ _ _ _ _ _)
  refine hW _ _ [(3, .int (nI (0))), (1, .long (ckP P (0))), (0, .ref 24)] _ _ _ _ (by simp [show ckP P 0 = lN 17 from rfl]) ?_
  refine up (P := fun p => K 6 [(3, .int (nI (p))), (1, .long (ckP P (p))), (0, .ref 24)] [] (b, mW X A mk ro nx pi kp km th T) 0 0) 6 0 ?_ ?_ (by decide)
  · skip
    iterate 2 refine hK _ _ _ _ _ _ (?_ : K _ _ _ _ _ _)
    refine hK _ _ _ _ _ _ (And.intro (fun _ => ?_) (fun c9 => absurd (nI_le (Nat.le_refl 6) (by decide)) c9))
    iterate 4 refine hK _ _ _ _ _ _ (?_ : K _ _ _ _ _ _)
    refine hK _ _ _ _ _ _ (r_callV rfl (fun _ => rfl) rfl (b0 rfl rfl rfl) (kX7_rowMany hR (?_ : K _ _ _ _ _ _)))
    iterate 5 refine hK _ _ _ _ _ _ (?_ : K _ _ _ _ _ _)
    obtain ⟨n, hRw⟩ := hI.2
    rw [nI_l (cF_128 R), ck_c hRw.1]
    refine hW _ _ [(3, .int (nI (1))), (1, .long (ckF R (ckP P 6) (1))), (0, .ref 24)] _ _ _ _ (by simp) ?_
    refine up (P := fun k => K 86 [(3, .int (nI (k))), (1, .long (ckF R (ckP P 6) (k))), (0, .ref 24)] [] (b, mW X A mk ro nx pi kp km th T) 0 0) 128 1 ?_ ?_ (by decide)
    · skip
      iterate 2 refine hK _ _ _ _ _ _ (?_ : K _ _ _ _ _ _)
      refine hK _ _ _ _ _ _ (And.intro (fun _ => ?_) (fun c9 => absurd (nI_le (Nat.le_refl 128) (by decide)) c9))
      iterate 1 refine hK _ _ _ _ _ _ (?_ : K _ _ _ _ _ _)
      exact hK _ _ _ _ _ _ (r_lret rfl rfl rfl hQ)
    · intro k h0k hk ihk
      iterate 2 refine hK _ _ _ _ _ _ (?_ : K _ _ _ _ _ _)
      refine hK _ _ _ _ _ _ (And.intro (fun c9 => absurd c9 (nI_ge (by omega) (by decide))) (fun _ => ?_))
      iterate 1 refine hK _ _ _ _ _ _ (?_ : K _ _ _ _ _ _)
      refine hK _ _ _ _ _ _ (r_get rfl rfl rfl (?_ : K _ _ _ _ _ _))
      iterate 1 refine hK _ _ _ _ _ _ (?_ : K _ _ _ _ _ _)
      refine hK _ _ _ _ _ _ (r_zald' (v := b2i (R k)) rfl (N := 128) (f := ro) rfl (vp_in_nI (by omega) (by decide)) (by show ro (nI (k)).toNatClampNeg = _; rw [nI_clamp (by omega)]; exact hR k (by omega) (by omega)) (?_ : K _ _ _ _ _ _))
      refine hK _ _ _ _ _ _ (And.intro (fun c1 => ?_) (fun c1 => ?_))
      · skip
        iterate 4 refine hK _ _ _ _ _ _ (?_ : K _ _ _ _ _ _)
        rw [ck_f (b2i_0.mp c1)] at ihk
        rw [nI_add k 1]
        first | exact ihk | exact hW _ _ _ _ _ _ _ (by simp) ihk
      · skip
        iterate 10 refine hK _ _ _ _ _ _ (?_ : K _ _ _ _ _ _)
        rw [ck_t (by omega) (Bool.of_not_eq_false fun c9 => c1 (b2i_0.mpr c9)), Int64.mul_comm] at ihk
        rw [nI_add k 1, nI_l (by omega)]
        first | exact ihk | exact hW _ _ _ _ _ _ _ (by simp) ihk
  · intro p h0p hp ihp
    iterate 2 refine hK _ _ _ _ _ _ (?_ : K _ _ _ _ _ _)
    refine hK _ _ _ _ _ _ (And.intro (fun c9 => absurd c9 (nI_ge (by omega) (by decide))) (fun _ => ?_))
    iterate 5 refine hK _ _ _ _ _ _ (?_ : K _ _ _ _ _ _)
    refine hK _ _ _ _ _ _ (r_callV rfl (fun _ => rfl) rfl (b0 rfl rfl rfl) (kX7_sizeOf (p := p) hA hp (?_ : K _ _ _ _ _ _)))
    iterate 5 refine hK _ _ _ _ _ _ (?_ : K _ _ _ _ _ _)
    rw [nI_l (cF_128 (P p)), ck_c (hI.1 p hp).1]
    refine hW _ _ [(4, .int (nI (1))), (1, .long (ckF (P p) (ckP P p) (1))), (0, .ref 24), (3, .int (nI p))] _ _ _ _ (by simp) ?_
    refine up (P := fun k => K 28 [(4, .int (nI (k))), (1, .long (ckF (P p) (ckP P p) (k))), (0, .ref 24), (3, .int (nI p))] [] (b, mW X A mk ro nx pi kp km th T) 0 0) 128 1 ?_ ?_ (by decide)
    · skip
      iterate 2 refine hK _ _ _ _ _ _ (?_ : K _ _ _ _ _ _)
      refine hK _ _ _ _ _ _ (And.intro (fun _ => ?_) (fun c9 => absurd (nI_le (Nat.le_refl 128) (by decide)) c9))
      iterate 2 refine hK _ _ _ _ _ _ (?_ : K _ _ _ _ _ _)
      rw [show ckF (P p) (ckP P p) 128 = ckP P (p + 1) from rfl, nI_add p 1]
      first | exact ihp | exact hW _ _ _ _ _ _ _ (by simp) ihp
    · intro k h0k hk ihk
      iterate 2 refine hK _ _ _ _ _ _ (?_ : K _ _ _ _ _ _)
      refine hK _ _ _ _ _ _ (And.intro (fun c9 => absurd c9 (nI_ge (by omega) (by decide))) (fun _ => ?_))
      iterate 3 refine hK _ _ _ _ _ _ (?_ : K _ _ _ _ _ _)
      refine hK _ _ _ _ _ _ (r_callV rfl (fun _ => rfl) rfl (b0 rfl rfl rfl) (kX7_isThere (i := k) hA hp (by omega) (by omega) (?_ : K _ _ _ _ _ _)))
      refine hK _ _ _ _ _ _ (And.intro (fun c1 => ?_) (fun c1 => ?_))
      · skip
        iterate 4 refine hK _ _ _ _ _ _ (?_ : K _ _ _ _ _ _)
        rw [ck_f (b2i_0.mp c1)] at ihk
        rw [nI_add k 1]
        first | exact ihk | exact hW _ _ _ _ _ _ _ (by simp) ihk
      · skip
        iterate 10 refine hK _ _ _ _ _ _ (?_ : K _ _ _ _ _ _)
        rw [ck_t (by omega) (Bool.of_not_eq_false fun c9 => c1 (b2i_0.mpr c9)), Int64.mul_comm] at ihk
        rw [nI_add k 1, nI_l (by omega)]
        first | exact ihk | exact hW _ _ _ _ _ _ _ (by simp) ihk

end MR
