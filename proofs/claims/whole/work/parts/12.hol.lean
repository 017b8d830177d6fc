/-! borders, ranks, and what a tip does -/
section Hol
def bx (f : Nat) : Nat → Nat
  | 0 => 0
  | k + 1 => bx f k ^^^ (bif f.testBit k then 2 ^ (f - 2 ^ k) else 0)
def bd (f : Nat) : Nat := bx f 7
def dB (v : Nat) : Nat := ex bd v 128
def px (X : Nat → Bool) (n f : Nat) : Bool := X f && pc f == n
def cX (X : Nat → Bool) (n : Nat) : List Nat := cs (px X n) 128
def fX (X : Nat → Bool) (n : Nat) : Nat := fb_ct (px X n) 128
def bX (X : Nat → Bool) (n : Nat) : List Nat := (fs (px X n) 128).map bd
def rX (X : Nat → Bool) (n : Nat) : Nat := rk (bX X n)
def Cx (X : Nat → Bool) : Prop := ∀ f k, f < 128 → k < 7 → f.testBit k = true → X f = true → X (f - 2 ^ k) = true
theorem dB_L : Lmap dB := ex_L bd 128
theorem dB_e {f : Nat} (h : f < 128) : dB (2 ^ f) = bd f := ex_e' h
theorem px_1 {X : Nat → Bool} {n f : Nat} : px X n f = true ↔ X f = true ∧ pc f = n := by
  unfold px
  rw [Bool.and_eq_true, beq_iff_eq]
theorem bX_eq (X : Nat → Bool) (n : Nat) : bX X n = (cX X n).map dB := by
  unfold bX cX cs
  rw [List.map_map]
  refine List.map_congr_left fun f hf => ?_
  exact (dB_e (fs_mem.mp hf).1).symm
theorem cX_rk (X : Nat → Bool) (n : Nat) : rk (cX X n) = fX X n := cs_rk _ _
theorem cX_m {X : Nat → Bool} {n f : Nat} (h1 : f < 128) (h2 : X f = true) (h3 : pc f = n) : sp (cX X n) (2 ^ f) = true := cs_in h1 (px_1.mpr ⟨h2, h3⟩)
theorem cX_u {X : Nat → Bool} {n u : Nat} (h : u ∈ cX X n) : ∃ f, f < 128 ∧ X f = true ∧ pc f = n ∧ u = 2 ^ f := by
  obtain ⟨f, h1, h2, h3⟩ := cs_mem.mp h
  obtain ⟨h4, h5⟩ := px_1.mp h2
  exact ⟨f, h1, h4, h5, h3⟩
theorem cX_lt {X : Nat → Bool} {n v : Nat} (h : sp (cX X n) v = true) : v < 2 ^ 128 := (cs_sp.mp h).1
theorem cX_sp {X : Nat → Bool} {n v : Nat} : sp (cX X n) v = true ↔ v < 2 ^ 128 ∧ ∀ f, v.testBit f = true → X f = true ∧ pc f = n := by
  unfold cX
  rw [cs_sp]
  constructor
  · rintro ⟨h1, h2⟩; exact ⟨h1, fun f hf => px_1.mp (h2 f hf)⟩
  · rintro ⟨h1, h2⟩; exact ⟨h1, fun f hf => px_1.mpr (h2 f hf)⟩
theorem pc_dn : ∀ f, f < 128 → ∀ k, k < 7 → f.testBit k = true → pc (f - 2 ^ k) + 1 = pc f := by decide +kernel
theorem bx_sp {L : List Nat} {f : Nat} : ∀ n, (∀ k, k < n → f.testBit k = true → sp L (2 ^ (f - 2 ^ k)) = true) → sp L (bx f n) = true
  | 0, _ => sp_0 L
  | n + 1, h => by
    unfold bx
    refine sp_x (bx_sp n fun k hk => h k (Nat.lt_succ_of_lt hk)) ?_
    cases hv : f.testBit n
    · exact sp_0 L
    · exact h n (Nat.lt_succ_self n) hv
theorem bd_sp {X : Nat → Bool} (hX : Cx X) {n f : Nat} (hf : f < 128) (h1 : X f = true) (h2 : pc f = n + 1) : sp (cX X n) (bd f) = true := bx_sp 7 fun k hk ht => cX_m (Nat.lt_of_le_of_lt (Nat.sub_le f (2 ^ k)) hf) (hX f k hf hk ht h1) (by have := pc_dn f hf k hk ht; omega)
theorem bd_0 : ∀ f, f < 128 → pc f = 0 → bd f = 0 := by decide +kernel
theorem bX_in {X : Nat → Bool} (hX : Cx X) {n u : Nat} (h : u ∈ bX X (n + 1)) : sp (cX X n) u = true := by
  obtain ⟨f, hf, rfl⟩ := List.mem_map.mp h
  obtain ⟨h1, h2⟩ := fs_mem.mp hf
  obtain ⟨h3, h4⟩ := px_1.mp h2
  exact bd_sp hX h1 h3 h4
theorem dd_f : ∀ f, f < 128 → dB (bd f) = 0 := by decide +kernel
theorem bd_lt : ∀ f, f < 128 → bd f < 2 ^ 128 := by decide +kernel
theorem dB_lt (v : Nat) : dB v < 2 ^ 128 := ex_lt v 128 bd_lt
theorem dd (v : Nat) : dB (dB v) = 0 := by
  have h := L_ex dB_L bd v 128
  have h1 : dB (dB v) = ex (fun f => dB (bd f)) v 128 := h
  rw [h1, ex_cg v 128 (t' := fun _ => 0) dd_f]
  have := L_ex L_0 bd v 128
  exact this.symm
theorem bX_u {X : Nat → Bool} {n u : Nat} (h : u ∈ bX X n) : ∃ f, f < 128 ∧ X f = true ∧ pc f = n ∧ u = bd f := by
  obtain ⟨f, hf, rfl⟩ := List.mem_map.mp h
  obtain ⟨h1, h2⟩ := fs_mem.mp hf
  obtain ⟨h3, h4⟩ := px_1.mp h2
  exact ⟨f, h1, h3, h4, rfl⟩
theorem bX_m {X : Nat → Bool} {n f : Nat} (h1 : f < 128) (h2 : X f = true) (h3 : pc f = n) : sp (bX X n) (bd f) = true := sp_m (List.mem_map.mpr ⟨f, fs_mem.mpr ⟨h1, px_1.mpr ⟨h2, h3⟩⟩, rfl⟩)
theorem bX_lt {X : Nat → Bool} {n v : Nat} (h : sp (bX X n) v = true) : v < 2 ^ 128 := sp_lt (fun u hu => by
  obtain ⟨f, h1, -, -, rfl⟩ := bX_u hu
  exact bd_lt f h1) h
theorem bX_d {X : Nat → Bool} {n v : Nat} (h : sp (cX X n) v = true) : sp (bX X n) (dB v) = true := by rw [bX_eq]; exact sp_T dB_L h
theorem bX_dv {X : Nat → Bool} {n v : Nat} (h : sp (bX X n) v = true) : ∃ w, sp (cX X n) w = true ∧ dB w = v := by rw [bX_eq] at h; exact sp_Tinv dB_L h
theorem bX_z {X : Nat → Bool} {n v : Nat} (h : sp (bX X n) v = true) : dB v = 0 := by
  obtain ⟨w, -, rfl⟩ := bX_dv h
  exact dd w
/-- the round rows, and the count of them -/
theorem zX (X : Nat → Bool) (n : Nat) : ∃ Z : List Nat, (∀ v, sp Z v = true ↔ sp (cX X n) v = true ∧ dB v = 0) ∧ fX X n = rk Z + rX X n := by
  obtain ⟨Z, h1, h2⟩ := rk_ker dB_L (cX X n)
  refine ⟨Z, h1, ?_⟩
  rw [cX_rk, ← bX_eq] at h2
  exact h2
theorem rX_le {X : Nat → Bool} (hX : Cx X) (n : Nat) : rX X n + rX X (n + 1) ≤ fX X n := by
  obtain ⟨Z, h1, h2⟩ := zX X n
  have : rX X (n + 1) ≤ rk Z := rk_le fun u hu => (h1 u).mpr ⟨bX_in hX hu, bX_z (sp_m hu)⟩
  omega
/-- where the counts agree, what is round is a border -/
theorem rX_full {X : Nat → Bool} (hX : Cx X) {n v : Nat} (h : fX X n = rX X n + rX X (n + 1)) (hv : sp (cX X n) v = true) (hd : dB v = 0) : sp (bX X (n + 1)) v = true := by
  obtain ⟨Z, h1, h2⟩ := zX X n
  cases hs : sp (bX X (n + 1)) v with
  | true => rfl
  | false =>
    have h3 : rk (v :: bX X (n + 1)) ≤ rk Z := rk_le fun u hu => by
      rcases List.mem_cons.mp hu with rfl | hu
      · exact (h1 u).mpr ⟨hv, hd⟩
      · exact (h1 u).mpr ⟨bX_in hX hu, bX_z (sp_m hu)⟩
    rw [rk_out hs] at h3
    have h4 : rX X (n + 1) + 1 ≤ rk Z := h3
    omega
/-- each face with a tip -/
def tA (a f : Nat) : Nat := bif f.testBit a then 0 else 2 ^ (f ||| 2 ^ a)
def aB (a v : Nat) : Nat := ex (tA a) v 128
theorem aB_L (a : Nat) : Lmap (aB a) := ex_L (tA a) 128
theorem aB_e {a f : Nat} (h : f < 128) : aB a (2 ^ f) = tA a f := ex_e' h
theorem or_lt {a f : Nat} (hf : f < 128) (ha : a < 7) : f ||| 2 ^ a < 128 := Nat.or_lt_two_pow (n := 7) hf (Nat.pow_lt_pow_right (by decide) ha)
theorem pc_up : ∀ f, f < 128 → ∀ k, k < 7 → f.testBit k = false → pc (f ||| 2 ^ k) = pc f + 1 := by decide +kernel
theorem hA_f : ∀ a, a < 7 → ∀ f, f < 128 → dB (tA a f) ^^^ aB a (bd f) = 2 ^ f := by decide +kernel
theorem hA {a v : Nat} (ha : a < 7) (hv : v < 2 ^ 128) : dB (aB a v) ^^^ aB a (dB v) = v := by
  refine L_ext (T := fun v => dB (aB a v) ^^^ aB a (dB v)) (T' := fun v => v) (L_xor (L_comp dB_L (aB_L a)) (L_comp (aB_L a) dB_L)) L_id hv fun f hf => ?_
  show dB (aB a (2 ^ f)) ^^^ aB a (dB (2 ^ f)) = 2 ^ f
  rw [aB_e hf, dB_e hf]
  exact hA_f a ha f hf
theorem aB_in {X : Nat → Bool} {a n v : Nat} (ha : a < 7) (hX : ∀ f, f < 128 → X f = true → X (f ||| 2 ^ a) = true) (h : sp (cX X n) v = true) : sp (cX X (n + 1)) (aB a v) = true := by
  refine sp_mono (fun u hu => ?_) (sp_T (aB_L a) h)
  obtain ⟨w, hw, rfl⟩ := List.mem_map.mp hu
  obtain ⟨f, h1, h2, h3, rfl⟩ := cX_u hw
  rw [aB_e h1]
  unfold tA
  cases ht : f.testBit a with
  | true => exact sp_0 _
  | false => exact cX_m (or_lt h1 ha) (hX f h1 h2) (by rw [pc_up f h1 a ha ht, h3])
/-- with a tip all that is round is a border -/
theorem acy {X : Nat → Bool} {a : Nat} (hX : Cx X) (ha : a < 7) (ht : ∀ f, f < 128 → X f = true → X (f ||| 2 ^ a) = true) (n : Nat) : fX X n = rX X n + rX X (n + 1) := by
  obtain ⟨Z, h1, h2⟩ := zX X n
  have : rk Z = rX X (n + 1) := rk_eq (fun u hu => ?_) (fun u hu => ?_)
  · omega
  · obtain ⟨h3, h4⟩ := (h1 u).mp (sp_m hu)
    have h5 := hA ha (cX_lt h3)
    rw [h4, (aB_L a).1, Nat.xor_zero] at h5
    rw [← h5]
    exact bX_d (aB_in ha ht h3)
  · exact (h1 u).mpr ⟨bX_in hX hu, bX_z (sp_m hu)⟩
end Hol
