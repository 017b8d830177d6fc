/-! THE ENGINE: what its heap stands for -/
def eAd (base b : Nat) : Nat → Nat
  | 0 => b
  | k + 1 => base + k
def eV (base b : Nat) (v : Value) : Value := match v with
  | .ref k => .ref (eAd base b k)
  | v => v
def eZ (dA : Nat → ClassId) (base b : Nat) (o : va_E) : va_E := match o with
  | .inl (t, n, x) => .inl (dA t, n, match x with
    | .inr (.inr (.inr (.inr f))) => .inr (.inr (.inr (.inr (fun j => (f j).map (eAd base b)))))
    | x => x)
  | .inr (ci, fs) => .inr (ci, fs.map (eV base b))
def eRH (D : va_G) (dA : Nat → ClassId) (base b : Nat) (h : eH) (H : Heap) : Prop :=
  (∀ (k : Nat) (o : va_E), h.2[k]? = some o → va_at D vwCl (base + k, eZ dA base b o) H) ∧ (h.1 = true → H.size = base + h.2.length) ∧ base + h.2.length ≤ H.size
def eEV (S : Nat × (Nat → Int32)) (D : va_G) (dA : Nat → ClassId) (base b : Nat) (U : State) : Prop :=
  (∀ w, eX w → va_Nw w U) ∧ (∀ (own : String) (k : Nat) (tx : String), Cond.stringRef own k tx ∈ tables_1 → ∃ a, vk_R own k tx a U) ∧
  vx_Zq Bundle.tN "UNASSIGNED_STACK" Bundle.steD (fun q => base ≤ q) U U.heap ∧ vx_Zq Bundle.tN "SUPPRESSED_SENTINEL" Bundle.listD (fun q => base ≤ q) U U.heap ∧
  va_AO RX1 U ∧ va_K D vwCl [] U ∧ (∀ t, t ≤ 4 → ArrOfT U (dA t) (eTyA t) ∧ va_RA U (dA t) (eTyA t)) ∧
  va_X b S.1 S.2 U U.heap ∧ b < base ∧ base ≤ U.heap.size ∧ (∀ E n, E ≤ 3 → n ≤ 3 → E ≠ n → va_Nc (exN E) (exN n) U)
theorem eV_cat (base b : Nat) (v : Value) : (eV base b v).category = v.category := by cases v <;> rfl
theorem eCat_sum (base b : Nat) : ∀ r : List Value, ((r.map (eV base b)).map fun v => v.category).sum = eCat r
  | [] => rfl
  | v :: r => by
    have ih := eCat_sum base b r
    simp only [List.map_cons, List.sum_cons, eV_cat, eCat] at ih ⊢
    rw [ih]
abbrev eLs (base b : Nat) (ls : eL) : List (Nat × Value) := ls.map (fun q => (q.1, eV base b q.2))
theorem eFil1_spec {i : Nat} : ∀ {ls : eL} {k : eL → Prop}, eFil1 i ls k → k (ls.filter (fun q => !(q.1 == i) && !(q.1 + 1 == i && q.2.category == 2)))
  | [], _, h => h
  | q :: r, k, h => by
    unfold eFil1 at h
    rw [List.filter_cons]
    cases hc : (!(q.1 == i) && !(q.1 + 1 == i && q.2.category == 2)) with
    | true => rw [hc] at h; exact eFil1_spec (ls := r) (k := fun r' => k (q :: r')) h
    | false => rw [hc] at h; exact eFil1_spec (ls := r) (k := k) h
theorem eFil2_spec {i : Nat} : ∀ {ls : eL} {k : eL → Prop}, eFil2 i ls k → k (ls.filter (fun q => !(q.1 == i) && (!(q.1 == i + 1) && !(q.1 + 1 == i && q.2.category == 2))))
  | [], _, h => h
  | q :: r, k, h => by
    unfold eFil2 at h
    rw [List.filter_cons]
    cases hc : (!(q.1 == i) && (!(q.1 == i + 1) && !(q.1 + 1 == i && q.2.category == 2))) with
    | true => rw [hc] at h; exact eFil2_spec (ls := r) (k := fun r' => k (q :: r')) h
    | false => rw [hc] at h; exact eFil2_spec (ls := r) (k := k) h
theorem eFil1_map (base b i : Nat) (v : Value) (ls : eL) : (i, eV base b v) :: (eLs base b ls).filter (fun q => !(q.1 == i) && !(q.1 + 1 == i && q.2.category == 2)) = eLs base b ((i, v) :: ls.filter (fun q => !(q.1 == i) && !(q.1 + 1 == i && q.2.category == 2))) := by
  show _ = (i, eV base b v) :: _
  congr 1
  rw [List.filter_map]
  congr 1
  refine List.filter_congr fun q _ => ?_
  simp only [Function.comp, eV_cat]
theorem eFil2_map (base b i : Nat) (v : Value) (ls : eL) : (i, eV base b v) :: (eLs base b ls).filter (fun q => !(q.1 == i) && (!(q.1 == i + 1) && !(q.1 + 1 == i && q.2.category == 2))) = eLs base b ((i, v) :: ls.filter (fun q => !(q.1 == i) && (!(q.1 == i + 1) && !(q.1 + 1 == i && q.2.category == 2)))) := by
  show _ = (i, eV base b v) :: _
  congr 1
  rw [List.filter_map]
  congr 1
  refine List.filter_congr fun q _ => ?_
  simp only [Function.comp, eV_cat]
theorem lkp_mem : ∀ {ls : eL} {i : Nat} {v : Value}, lkp ls i = some v → (i, v) ∈ ls
  | [], _, _, h => by cases h
  | q :: r, i, v, h => by
    unfold lkp at h
    cases hq : q.1 == i with
    | true =>
      rw [hq] at h
      have h1 : q.2 = v := Option.some.inj h
      have h2 : q.1 = i := eq_of_beq hq
      rw [← h1, ← h2]
      exact List.mem_cons_self
    | false => rw [hq] at h; exact List.mem_cons_of_mem _ (lkp_mem h)
theorem lkp_has {base b nL : Nat} {lsA : Array Slot} {ls : eL} {i : Nat} {v : Value} (hl : lv_has lsA nL (eLs base b ls)) (h : lkp ls i = some v) : lsA[i]? = some (.val (eV base b v)) :=
  hl.2.2 (i, eV base b v) (List.mem_map.mpr ⟨(i, v), lkp_mem h, rfl⟩)
-- what the small words say
theorem pII_s {f : Int32 → Int32 → Int32} {st : List Value} {k : List Value → Prop} (h : pII f st k) : ∃ x y r, st = .int y :: .int x :: r ∧ k (.int (f x y) :: r) := by
  unfold pII at h
  split at h
  · exact ⟨_, _, _, rfl, h⟩
  · exact h.elim
theorem pLL_s {f : Int64 → Int64 → Value} {st : List Value} {k : List Value → Prop} (h : pLL f st k) : ∃ x y r, st = .long y :: .long x :: r ∧ k (f x y :: r) := by
  unfold pLL at h
  split at h
  · exact ⟨_, _, _, rfl, h⟩
  · exact h.elim
theorem pLI_s {f : Int64 → Int32 → Int64} {st : List Value} {k : List Value → Prop} (h : pLI f st k) : ∃ x y r, st = .int y :: .long x :: r ∧ k (.long (f x y) :: r) := by
  unfold pLI at h
  split at h
  · exact ⟨_, _, _, rfl, h⟩
  · exact h.elim
theorem pI_s {f : Int32 → Value} {st : List Value} {k : List Value → Prop} (h : pI f st k) : ∃ x r, st = .int x :: r ∧ k (f x :: r) := by
  unfold pI at h
  split at h
  · exact ⟨_, _, rfl, h⟩
  · exact h.elim
theorem pL_s {f : Int64 → Value} {st : List Value} {k : List Value → Prop} (h : pL f st k) : ∃ x r, st = .long x :: r ∧ k (f x :: r) := by
  unfold pL at h
  split at h
  · exact ⟨_, _, rfl, h⟩
  · exact h.elim
theorem bI_s {P : Int32 → Prop} {st : List Value} {kt kf : List Value → Prop} (h : bI P st kt kf) : ∃ x r, st = .int x :: r ∧ (P x → kt r) ∧ (¬ P x → kf r) := by
  unfold bI at h
  split at h
  · exact ⟨_, _, rfl, h⟩
  · exact h.elim
theorem bII_s {P : Int32 → Int32 → Prop} {st : List Value} {kt kf : List Value → Prop} (h : bII P st kt kf) : ∃ x y r, st = .int y :: .int x :: r ∧ (P x y → kt r) ∧ (¬ P x y → kf r) := by
  unfold bII at h
  split at h
  · exact ⟨_, _, _, rfl, h⟩
  · exact h.elim
theorem mR_s {st : List Value} {k : Nat → List Value → Prop} (h : mR st k) : ∃ q r, st = .ref q :: r ∧ k q r := by
  unfold mR at h
  split at h
  · exact ⟨_, _, rfl, h⟩
  · exact h.elim
theorem mI_s {st : List Value} {k : Int32 → List Value → Prop} (h : mI st k) : ∃ x r, st = .int x :: r ∧ k x r := by
  unfold mI at h
  split at h
  · exact ⟨_, _, rfl, h⟩
  · exact h.elim
theorem mJ_s {st : List Value} {k : Int64 → List Value → Prop} (h : mJ st k) : ∃ x r, st = .long x :: r ∧ k x r := by
  unfold mJ at h
  split at h
  · exact ⟨_, _, rfl, h⟩
  · exact h.elim
theorem mF_s {st : List Value} {k : UInt32 → List Value → Prop} (h : mF st k) : ∃ x r, st = .float x :: r ∧ k x r := by
  unfold mF at h
  split at h
  · exact ⟨_, _, rfl, h⟩
  · exact h.elim
theorem mD_s {st : List Value} {k : UInt64 → List Value → Prop} (h : mD st k) : ∃ x r, st = .double x :: r ∧ k x r := by
  unfold mD at h
  split at h
  · exact ⟨_, _, rfl, h⟩
  · exact h.elim
theorem mV_s {st : List Value} {k : Value → List Value → Prop} (h : mV st k) : ∃ x r, st = x :: r ∧ k x r := by
  unfold mV at h
  split at h
  · exact ⟨_, _, rfl, h⟩
  · exact h.elim
theorem mO_s {q : Nat} {k : Nat → Prop} (h : mO q k) : ∃ z, q = z + 1 ∧ k z := by
  unfold mO at h
  split at h
  · exact h.elim
  · exact ⟨_, rfl, h⟩
theorem mN_s {st : List Value} {k : Prop} (h : mN st k) : st = [] ∧ k := by
  unfold mN at h
  split at h
  · exact ⟨rfl, h⟩
  · exact h.elim
theorem bif_s {c : Bool} {p : Prop} (h : (bif c then p else False)) : c = true ∧ p := by
  cases c
  · exact h.elim
  · exact ⟨rfl, h⟩
theorem pLd_s {t : Nat} {ls : eL} {i : Nat} {k : Value → Prop} (h : pLd t ls i k) : ∃ v, lkp ls i = some v ∧ eIsA t v = true ∧ k v := by
  unfold pLd at h
  split at h
  · exact ⟨_, by assumption, bif_s h⟩
  · exact h.elim
theorem eIsA_0 {v : Value} (h : eIsA 0 v = true) : ∃ k, v = .ref k := by cases v <;> first | exact ⟨_, rfl⟩ | (exact absurd h (by decide)) | simp [eIsA] at h
theorem eIsA_1 {v : Value} (h : eIsA 1 v = true) : ∃ k, v = .int k := by cases v <;> first | exact ⟨_, rfl⟩ | (exact absurd h (by decide)) | simp [eIsA] at h
theorem eIsA_2 {v : Value} (h : eIsA 2 v = true) : ∃ k, v = .long k := by cases v <;> first | exact ⟨_, rfl⟩ | (exact absurd h (by decide)) | simp [eIsA] at h
theorem eIsA_3 {v : Value} (h : eIsA 3 v = true) : ∃ k, v = .float k := by cases v <;> first | exact ⟨_, rfl⟩ | (exact absurd h (by decide)) | simp [eIsA] at h
theorem eIsA_4 {v : Value} (h : eIsA 4 v = true) : ∃ k, v = .double k := by cases v <;> first | exact ⟨_, rfl⟩ | (exact absurd h (by decide)) | simp [eIsA] at h
theorem pSt1_s {t : Nat} {st : List Value} {i : Nat} {ls : eL} {k : eL → List Value → Prop} (h : pSt1 t st i ls k) : ∃ v r, st = v :: r ∧ eIsA t v = true ∧ k ((i, v) :: ls.filter (fun q => !(q.1 == i) && !(q.1 + 1 == i && q.2.category == 2))) r := by
  unfold pSt1 at h
  split at h
  · obtain ⟨h1, h2⟩ := bif_s h
    exact ⟨_, _, rfl, h1, eFil1_spec h2⟩
  · exact h.elim
theorem pSt2_s {t : Nat} {st : List Value} {i : Nat} {ls : eL} {k : eL → List Value → Prop} (h : pSt2 t st i ls k) : ∃ v r, st = v :: r ∧ eIsA t v = true ∧ k ((i, v) :: ls.filter (fun q => !(q.1 == i) && (!(q.1 == i + 1) && !(q.1 + 1 == i && q.2.category == 2)))) r := by
  unfold pSt2 at h
  split at h
  · obtain ⟨h1, h2⟩ := bif_s h
    exact ⟨_, _, rfl, h1, eFil2_spec h2⟩
  · exact h.elim
theorem eArg_s : ∀ {n : Nat} {st acc : List Value} {k : List Value → List Value → Prop}, eArg n st acc k → ∃ as r, st = as.reverse ++ r ∧ as.length = n ∧ k (as ++ acc) r
  | 0, st, acc, k, h => ⟨[], st, rfl, rfl, h⟩
  | n + 1, [], acc, k, h => h.elim
  | n + 1, v :: r, acc, k, h => by
    obtain ⟨as, r', h1, h2, h3⟩ := eArg_s (n := n) (st := r) (acc := v :: acc) (k := k) h
    refine ⟨as ++ [v], r', ?_, by simp [h2], ?_⟩
    · rw [h1]; simp
    · rw [List.append_assoc]; exact h3
theorem eFind_mem : ∀ {l : List eE} {pc : Nat} {x : Instr × Nat × Nat × Nat × Nat}, eFind l pc = some x → (pc, x) ∈ l
  | [], _, _, h => by cases h
  | e :: r, pc, x, h => by
    unfold eFind at h
    cases hq : e.1 == pc with
    | true =>
      rw [hq] at h
      have h1 : e.2 = x := Option.some.inj h
      have h2 : e.1 = pc := eq_of_beq hq
      rw [← h1, ← h2]
      exact List.mem_cons_self
    | false => rw [hq] at h; exact List.mem_cons_of_mem _ (eFind_mem h)
theorem eAt_mem {P : List (List eE)} {pc : Nat} {x : Instr × Nat × Nat × Nat × Nat} (h : eAt P pc = some x) : (pc, x) ∈ P.flatten := by
  unfold eAt at h
  split at h
  · cases h
  · rename_i c hc
    exact List.mem_flatten.mpr ⟨c, List.mem_of_getElem? hc, eFind_mem h⟩
theorem eNg_good {w : Cond} (h : eNgw w = true) : w.onTables = true := by cases w <;> first | rfl | (simp [eNgw] at h)
theorem eNg_warm {w : Cond} {s U : State} (h : eNgw w = true) (hW : s.WarmedH U.vm) (hZ : va_Nw w s) : va_Nw w U := by
  cases w <;> first | exact va_Nw.warmM hW hZ | exact va_Nw.warmC hW hZ | exact va_Nw.warmD hW hZ | (simp [eNgw] at h)
-- the heap through a change
theorem eRH.kept {D : va_G} {dA : Nat → ClassId} {base b : Nat} {h : eH} {H H1 : Heap} (hR : eRH D dA base b h H) (hs : H.size ≤ H1.size) (hq : ∀ q : Nat, q < H.size → H1[q]? = H[q]?) : eRH D dA base b (false, h.2) H1 := by
  refine ⟨fun k o hk => ?_, (fun h => by cases h), Nat.le_trans hR.2.2 hs⟩
  have h1 := hR.1 k o hk
  exact h1.kept (hq _ h1.lt)
theorem eRH.set {D : va_G} {dA : Nat → ClassId} {base b k : Nat} {h : eH} {H H1 : Heap} {o o' : va_E} (hR : eRH D dA base b h H) (hk : h.2[k]? = some o) (ho : va_at D vwCl (base + k, eZ dA base b o') H1) (hz : H1.size = H.size) (hq : ∀ q : Nat, q ≠ base + k → H1[q]? = H[q]?) : eRH D dA base b (h.1, h.2.set k o') H1 := by
  refine ⟨fun j x hj => ?_, fun h1 => ?_, ?_⟩
  · by_cases hjk : j = k
    · subst hjk
      have hlt : j < h.2.length := (List.getElem?_eq_some_iff.mp hk).1
      have h2 : (h.2.set j o')[j]? = some o' := List.getElem?_set_self hlt
      cases h2.symm.trans hj
      exact ho
    · have h2 : (h.2.set k o')[j]? = h.2[j]? := List.getElem?_set_ne (fun e => hjk e.symm)
      have h3 := hR.1 j x (h2 ▸ hj)
      exact h3.kept (hq _ (by show base + j ≠ base + k; omega))
  · show H1.size = base + (h.2.set k o').length
    rw [hz, List.length_set]
    exact hR.2.1 h1
  · show base + (h.2.set k o').length ≤ H1.size
    rw [hz, List.length_set]
    exact hR.2.2
theorem eRH.push {D : va_G} {dA : Nat → ClassId} {base b : Nat} {h : eH} {H H1 : Heap} {o : va_E} (hR : eRH D dA base b h H) (ho : h.1 = true) (hv : va_at D vwCl (H.size, eZ dA base b o) H1) (hz : H1.size = H.size + 1) (hq : ∀ q : Nat, q < H.size → H1[q]? = H[q]?) : eRH D dA base b (h.1, h.2 ++ [o]) H1 := by
  have hs := hR.2.1 ho
  refine ⟨fun j x hj => ?_, fun _ => ?_, ?_⟩
  · by_cases hjk : j < h.2.length
    · rw [List.getElem?_append_left hjk] at hj
      have h3 := hR.1 j x hj
      exact h3.kept (hq _ h3.lt)
    · have hl : j < (h.2 ++ [o]).length := (List.getElem?_eq_some_iff.mp hj).1
      rw [List.length_append] at hl
      have hl1 : j = h.2.length := by simp at hl; omega
      subst hl1
      rw [List.getElem?_append_right (Nat.le_refl _)] at hj
      simp at hj
      subst hj
      rw [← hs]
      exact hv
  · show H1.size = base + (h.2 ++ [o]).length
    rw [hz, hs, List.length_append]; simp; omega
  · show base + (h.2 ++ [o]).length ≤ H1.size
    rw [hz, List.length_append]; simp; omega
