section FS
def wO (lo up : Int64) (f : Int32) : Int64 := bif decide (64 ≤ f) then up else lo
def hB (w : Int64) (f : Int32) : Bool := decide (¬ lg_cmp ((w.toUInt64 >>> (f.toInt64.toUInt64 &&& Int64.toUInt64 63)).toInt64 &&& lN 1) (lN 0) = 0)
set_option maxRecDepth 10000 in
/-- FaceSet.holds -/
theorem kX1_holds {S : Nat × (Nat → Int32)} {d : Nat} {h : eH} {Q : eQ} {k : Nat} {lo up : Int64} {f : Int32} (hk : h.2[k]? = some (fsO lo up)) (hQ : Q (.inl (some (.int (b2i (hB (wO lo up f) f))))) h) : okCall S MT (d + 1) nX1_holds [.ref (k + 1), .int f] h Q := by
  refine okc (M := MX1_holds) rfl rfl fun K hK hW => ?_
  show K 0 [(0, .ref (k + 1)), (1, .int f)] [] h 0 0
  iterate 2 refine hK _ _ _ _ _ _ (?_ : K _ _ _ _ _ _)
  refine hK _ _ _ _ _ _ (And.intro (fun c1 => ?_) (fun c1 => ?_))
  · skip
    iterate 1 refine hK _ _ _ _ _ _ (?_ : K _ _ _ _ _ _)
    refine hK _ _ _ _ _ _ (r_get rfl (by assumption) rfl (?_ : K _ _ _ _ _ _))
    iterate 8 refine hK _ _ _ _ _ _ (?_ : K _ _ _ _ _ _)
    refine hK _ _ _ _ _ _ (And.intro (fun c2 => ?_) (fun c2 => ?_))
    · skip
      iterate 1 refine hK _ _ _ _ _ _ (?_ : K _ _ _ _ _ _)
      sorry
    · skip
      iterate 2 refine hK _ _ _ _ _ _ (?_ : K _ _ _ _ _ _)
      sorry
  · skip
    iterate 1 refine hK _ _ _ _ _ _ (?_ : K _ _ _ _ _ _)
    refine hK _ _ _ _ _ _ (r_get rfl (by assumption) rfl (?_ : K _ _ _ _ _ _))
    iterate 9 refine hK _ _ _ _ _ _ (?_ : K _ _ _ _ _ _)
    refine hK _ _ _ _ _ _ (And.intro (fun c3 => ?_) (fun c3 => ?_))
    · skip
      iterate 1 refine hK _ _ _ _ _ _ (?_ : K _ _ _ _ _ _)
      sorry
    · skip
      iterate 2 refine hK _ _ _ _ _ _ (?_ : K _ _ _ _ _ _)
      sorry

end FS
