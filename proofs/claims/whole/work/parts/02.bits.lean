/-! ===== stores, small numbers (rows of the kit's papers) ===== -/
theorem pk_us {f : Nat → Int32} {k : Nat} {x : Int32} : upd f k x k = x := if_pos rfl
theorem pk_un {f : Nat → Int32} {k j : Nat} {x : Int32} (h : j ≠ k) : upd f k x j = f j := if_neg h
theorem pk_uLs {f : Nat → Int64} {k : Nat} {x : Int64} : vp_updL f k x k = x := if_pos rfl
theorem pk_uLn {f : Nat → Int64} {k j : Nat} {x : Int64} (h : j ≠ k) : vp_updL f k x j = f j := if_neg h
theorem pk_mul (a b : Nat) : nI a * nI b = nI (a * b) := (Int32.ofNat_mul a b).symm
theorem pk_le {x y : Int32} {A B : Prop} (a b : Nat) (f : a ≤ b → A) (g : b < a → B) (hx : x = nI a := by rfl) (hy : y = nI b := by rfl) (ha : a < 2 ^ 31 := by omega) (hb : b < 2 ^ 31 := by omega) : (x ≤ y → A) ∧ (¬ x ≤ y → B) := by
  subst hx hy
  rw [nI_leI ha hb]
  exact ⟨f, fun z => g (by omega)⟩
theorem pk_lt {x y : Int32} {A B : Prop} (a b : Nat) (f : a < b → A) (g : b ≤ a → B) (hx : x = nI a := by rfl) (hy : y = nI b := by rfl) (ha : a < 2 ^ 31 := by omega) (hb : b < 2 ^ 31 := by omega) : (x < y → A) ∧ (¬ x < y → B) := by
  subst hx hy
  rw [nI_ltI ha hb]
  exact ⟨f, fun z => g (by omega)⟩
theorem pk_eq {x y : Int32} {A B : Prop} (a b : Nat) (f : a = b → A) (g : a ≠ b → B) (hx : x = nI a := by rfl) (hy : y = nI b := by rfl) (ha : a < 2 ^ 31 := by omega) (hb : b < 2 ^ 31 := by omega) : (x = y → A) ∧ (¬ x = y → B) := by
  subst hx hy
  rw [nI_eq ha hb]
  exact ⟨f, g⟩
theorem pk_in {x : Int32} (n N : Nat) (h : n < N) (hx : x = nI n := by rfl) (hN : N < 2 ^ 31 := by omega) : vp_in x N := by
  subst hx
  exact vp_in_nI h hN
theorem pk_cl {x : Int32} (n : Nat) (hx : x = nI n := by rfl) (h : n < 2 ^ 31 := by omega) : x.toNatClampNeg = n := by
  subst hx
  exact nI_clamp h
theorem pk_ix (x : Int32) {n : Nat} (hn : n < 2 ^ 31) : x < 0 ∨ nI n ≤ x ∨ ∃ j : Nat, j < n ∧ x = nI j := by
  by_cases h : x < 0
  · exact Or.inl h
  · obtain ⟨j, hj, rfl⟩ := nI_of h
    by_cases h2 : j < n
    · exact Or.inr (Or.inr ⟨j, h2, rfl⟩)
    · exact Or.inr (Or.inl (nI_le (by omega) hj))
theorem pk_m1 (n : Nat) : nI (n + 1) + (-1) = nI n := by
  rw [← nI_1, Int32.add_assoc, show (1 : Int32) + (-1) = 0 from rfl, Int32.add_zero]
theorem ek_if {c d A B : Prop} (e : c ↔ d) (f : d → A) (g : ¬ d → B) : (c → A) ∧ (¬ c → B) := ⟨fun h => f (e.mp h), fun h => g (fun z => h (e.mpr z))⟩
/-! ===== a long as a set of states ===== -/
def lb_b (w : Int64) (j : Nat) : Prop := w.toBitVec.getLsbD j = true
theorem lb_lt {w : Int64} {j : Nat} (h : lb_b w j) : j < 64 := by
  rcases Nat.lt_or_ge j 64 with z | z
  · exact z
  · have h : w.toBitVec.getLsbD j = true := h
    rw [BitVec.getLsbD_of_ge _ _ z] at h
    exact absurd h (by decide)
theorem lb_ext {x y : Int64} (h : ∀ j, j < 64 → (lb_b x j ↔ lb_b y j)) : x = y := by
  apply Int64.toBitVec_inj.mp
  apply BitVec.eq_of_getLsbD_eq
  intro i hi
  have g : x.toBitVec.getLsbD i = true ↔ y.toBitVec.getLsbD i = true := h i hi
  exact Bool.eq_iff_iff.mpr g
theorem lb_or (x y : Int64) (j : Nat) : lb_b (x ||| y) j ↔ (lb_b x j ∨ lb_b y j) := by
  unfold lb_b
  rw [Int64.toBitVec_or, BitVec.getLsbD_or, Bool.or_eq_true]
theorem lb_and (x y : Int64) (j : Nat) : lb_b (x &&& y) j ↔ (lb_b x j ∧ lb_b y j) := by
  unfold lb_b
  rw [Int64.toBitVec_and, BitVec.getLsbD_and, Bool.and_eq_true]
theorem lb_not (x : Int64) {j : Nat} (hj : j < 64) : lb_b (x ^^^ (-1)) j ↔ ¬ lb_b x j := by
  have ha : (-1 : Int64).toBitVec = BitVec.allOnes 64 := by decide
  unfold lb_b
  rw [Int64.toBitVec_xor, ha, BitVec.getLsbD_xor, BitVec.getLsbD_allOnes, decide_eq_true hj]
  cases x.toBitVec.getLsbD j <;> decide
theorem lb_0 (j : Nat) : ¬ lb_b 0 j := by
  intro h
  have h : (0#64).getLsbD j = true := h
  rw [BitVec.getLsbD_zero] at h
  exact absurd h (by decide)
theorem lb_m1 {j : Nat} (hj : j < 64) : lb_b (-1) j := by
  have ha : (-1 : Int64).toBitVec = BitVec.allOnes 64 := by decide
  unfold lb_b
  rw [ha, BitVec.getLsbD_allOnes, decide_eq_true hj]
theorem lb_nz {x : Int64} : ¬ x = 0 ↔ ∃ j, j < 64 ∧ lb_b x j := by
  constructor
  · intro h
    apply Classical.byContradiction
    intro z
    apply h
    apply lb_ext
    intro j hj
    exact ⟨fun hb => absurd ⟨j, hj, hb⟩ z, fun hb => absurd hb (lb_0 j)⟩
  · intro h z
    obtain ⟨j, _, hb⟩ := h
    rw [z] at hb
    exact lb_0 j hb
theorem lb_z {x : Int64} : x = 0 ↔ ¬ ∃ j, j < 64 ∧ lb_b x j := by
  rw [← lb_nz]
  exact ⟨fun h z => z h, fun h => Classical.byContradiction h⟩
theorem lb_tp : ∀ l, l < 64 → ((1 : Int64) <<< ((nI l).toInt64 &&& 63)).toBitVec = BitVec.twoPow 64 l := by decide +kernel
theorem lb_shl {l : Nat} (hl : l < 64) (j : Nat) : lb_b ((1 : Int64) <<< ((nI l).toInt64 &&& 63)) j ↔ j = l := by
  unfold lb_b
  rw [lb_tp l hl, BitVec.getLsbD_twoPow]
  constructor
  · intro h
    have h := (Bool.and_eq_true _ _).mp h
    exact (of_decide_eq_true h.2).symm
  · intro h
    subst h
    rw [decide_eq_true hl, decide_eq_true rfl]
    rfl
theorem lb_cu : ∀ k, k < 64 → ((nI k).toInt64.toUInt64 &&& Int64.toUInt64 63).toNat = k := by decide +kernel
theorem lb_bv {w : Int64} {s : UInt64} {j : Nat} (hj : j < 64) (hs : s.toNat = j) : ((w.toUInt64 >>> s).toInt64 &&& 1) = if w.toBitVec.getLsbD j = true then 1 else 0 := by
  have e : (w.toUInt64 >>> s).toInt64.toBitVec = w.toBitVec >>> j := by
    apply BitVec.eq_of_toNat_eq
    show (w.toUInt64 >>> s).toNat = _
    rw [UInt64.toNat_shiftRight, hs, Nat.mod_eq_of_lt hj, BitVec.toNat_ushiftRight]
    rfl
  apply Int64.toBitVec_inj.mp
  rw [Int64.toBitVec_and, e]
  by_cases h : w.toBitVec.getLsbD j = true
  · rw [if_pos h]
    show w.toBitVec >>> j &&& 1#64 = 1#64
    apply BitVec.eq_of_getLsbD_eq
    intro i hi
    cases i with
    | zero => simp [h]
    | succ i => simp
  · rw [if_neg h]
    have h : w.toBitVec.getLsbD j = false := Bool.eq_false_iff.mpr h
    show w.toBitVec >>> j &&& 1#64 = 0#64
    apply BitVec.eq_of_getLsbD_eq
    intro i hi
    cases i with
    | zero => simp [h]
    | succ i => simp
theorem lb_t0 {w : Int64} {j : Nat} (hj : j < 64) : ((w.toUInt64 >>> ((nI j).toInt64.toUInt64 &&& Int64.toUInt64 63)).toInt64 &&& 1) = 0 ↔ ¬ lb_b w j := by
  rw [lb_bv hj (lb_cu j hj)]
  unfold lb_b
  by_cases h : w.toBitVec.getLsbD j = true
  · rw [if_pos h]
    exact ⟨fun z => absurd z (by decide), fun z => absurd h z⟩
  · rw [if_neg h]
    exact ⟨fun _ => h, fun _ => rfl⟩
theorem lb_t1 {w : Int64} {j : Nat} (hj : j < 64) : ((w.toUInt64 >>> ((nI j).toInt64.toUInt64 &&& Int64.toUInt64 63)).toInt64 &&& 1) = 1 ↔ lb_b w j := by
  rw [lb_bv hj (lb_cu j hj)]
  unfold lb_b
  by_cases h : w.toBitVec.getLsbD j = true
  · rw [if_pos h]
    exact ⟨fun _ => h, fun _ => rfl⟩
  · rw [if_neg h]
    exact ⟨fun z => absurd z (by decide), fun z => absurd z h⟩
/-! ===== truth as 0 and 1 ===== -/
noncomputable def lb_i (P : Prop) : Int32 := @ite Int32 P (Classical.propDecidable P) 1 0
theorem lb_i1 {P : Prop} (h : P) : lb_i P = 1 := if_pos h
theorem lb_i0 {P : Prop} (h : ¬ P) : lb_i P = 0 := if_neg h
theorem lb_iz {P : Prop} : lb_i P = 0 ↔ ¬ P := by
  by_cases h : P
  · rw [lb_i1 h]; exact ⟨fun z => absurd z (by decide), fun z => absurd h z⟩
  · rw [lb_i0 h]; exact ⟨fun _ => h, fun _ => rfl⟩
theorem lb_in {P : Prop} : ¬ lb_i P = 0 ↔ P := by
  rw [lb_iz]
  exact ⟨fun h => Classical.byContradiction h, fun h z => z h⟩
theorem lb_ic {P Q : Prop} (h : P ↔ Q) : lb_i P = lb_i Q := by rw [propext h]
theorem lb_ie {P Q : Prop} : lb_i P = lb_i Q ↔ (P ↔ Q) := by
  constructor
  · intro h
    constructor
    · intro p
      rw [lb_i1 p] at h
      exact lb_in.mp (by rw [← h]; decide)
    · intro q
      rw [lb_i1 q] at h
      exact lb_in.mp (by rw [h]; decide)
  · exact lb_ic
theorem lb_01 (P : Prop) : lb_i P = 0 ∨ lb_i P = 1 := by
  by_cases h : P
  · exact Or.inr (lb_i1 h)
  · exact Or.inl (lb_i0 h)
theorem lb_nar (P : Prop) : narrow .boolean (.int (lb_i P)) = .int (lb_i P) := by
  rcases lb_01 P with h | h <;> rw [h] <;> rfl
theorem lb_vn (P : Prop) : vp_nar .boolean (lb_i P) = lb_i P := by
  unfold vp_nar
  rw [lb_nar]
theorem lb_v0 : vp_nar .boolean 0 = 0 := rfl
theorem lb_v1 : vp_nar .boolean 1 = 1 := rfl
/-! ===== counting and the member number k ===== -/
theorem lb_szc {P Q : Nat → Prop} {n : Nat} (h : ∀ i, i < n → (P i ↔ Q i)) : gr_sz P n = gr_sz Q n :=
  Nat.le_antisymm (gr_sz_mono n (fun i hi => (h i hi).mp)) (gr_sz_mono n (fun i hi => (h i hi).mpr))
theorem lb_szt {P : Nat → Prop} {n : Nat} (h : P n) : gr_sz P (n + 1) = gr_sz P n + 1 := by
  show gr_sz P n + _ = _
  rw [if_pos h]
theorem lb_szf {P : Nat → Prop} {n : Nat} (h : ¬ P n) : gr_sz P (n + 1) = gr_sz P n := by
  show gr_sz P n + _ = _
  rw [if_neg h, Nat.add_zero]
noncomputable def lb_mem (P : Nat → Prop) (k : Int32) : Nat → Nat → Nat → Int32
  | 0, _, _ => -3
  | d + 1, s, b => @ite Int32 (P s) (Classical.propDecidable _) (if nI b = k then nI s else lb_mem P k d (s + 1) (b + 1)) (lb_mem P k d (s + 1) b)
theorem lb_memf {P : Nat → Prop} {k : Int32} {d s b : Nat} (h : ¬ P s) : lb_mem P k (d + 1) s b = lb_mem P k d (s + 1) b := if_neg h
theorem lb_memt {P : Nat → Prop} {k : Int32} {d s b : Nat} (h : P s) (e : nI b = k) : lb_mem P k (d + 1) s b = nI s := (if_pos h).trans (if_pos e)
theorem lb_memn {P : Nat → Prop} {k : Int32} {d s b : Nat} (h : P s) (e : ¬ nI b = k) : lb_mem P k (d + 1) s b = lb_mem P k d (s + 1) (b + 1) := (if_pos h).trans (if_neg e)
theorem lb_memc {P Q : Nat → Prop} {k : Int32} : ∀ d s b, (∀ i, i < s + d → (P i ↔ Q i)) → lb_mem P k d s b = lb_mem Q k d s b := by
  intro d
  induction d with
  | zero => intro s b _; rfl
  | succ d ih =>
    intro s b h
    have h1 := h s (by omega)
    have h2 : ∀ b', lb_mem P k d (s + 1) b' = lb_mem Q k d (s + 1) b' := fun b' => ih (s + 1) b' (fun i hi => h i (by omega))
    by_cases p : P s
    · by_cases e : nI b = k
      · rw [lb_memt p e, lb_memt (h1.mp p) e]
      · rw [lb_memn p e, lb_memn (h1.mp p) e, h2]
    · rw [lb_memf p, lb_memf (fun q => p (h1.mpr q)), h2]
/-! ===== a row of an array filled from a place on ===== -/
def lb_fl (E : Nat → Int64) (b n : Nat) (V : Nat → Int64) : Nat → Int64 := fun j => if b ≤ j ∧ j < b + n then V (j - b) else E j
def lb_fi (E : Nat → Int32) (b n : Nat) (V : Nat → Int32) : Nat → Int32 := fun j => if b ≤ j ∧ j < b + n then V (j - b) else E j
theorem lb_fl0 (E : Nat → Int64) (b : Nat) (V : Nat → Int64) : lb_fl E b 0 V = E := by
  funext j
  exact if_neg (by omega)
theorem lb_fi0 (E : Nat → Int32) (b : Nat) (V : Nat → Int32) : lb_fi E b 0 V = E := by
  funext j
  exact if_neg (by omega)
theorem lb_flS (E : Nat → Int64) (b n : Nat) (V : Nat → Int64) : vp_updL (lb_fl E b n V) (b + n) (V n) = lb_fl E b (n + 1) V := by
  funext j
  show (if j = b + n then V n else if b ≤ j ∧ j < b + n then V (j - b) else E j) = if b ≤ j ∧ j < b + (n + 1) then V (j - b) else E j
  by_cases e : j = b + n
  · subst e
    rw [if_pos rfl, if_pos (by omega), Nat.add_sub_cancel_left]
  · rw [if_neg e]
    by_cases c : b ≤ j ∧ j < b + n
    · rw [if_pos c, if_pos (by omega)]
    · rw [if_neg c, if_neg (by omega)]
theorem lb_fiS (E : Nat → Int32) (b n : Nat) (V : Nat → Int32) : upd (lb_fi E b n V) (b + n) (V n) = lb_fi E b (n + 1) V := by
  funext j
  show (if j = b + n then V n else if b ≤ j ∧ j < b + n then V (j - b) else E j) = if b ≤ j ∧ j < b + (n + 1) then V (j - b) else E j
  by_cases e : j = b + n
  · subst e
    rw [if_pos rfl, if_pos (by omega), Nat.add_sub_cancel_left]
  · rw [if_neg e]
    by_cases c : b ≤ j ∧ j < b + n
    · rw [if_pos c, if_pos (by omega)]
    · rw [if_neg c, if_neg (by omega)]
theorem lb_flN {E : Nat → Int64} {b n j : Nat} {V : Nat → Int64} (h : j < b ∨ b + n ≤ j) : lb_fl E b n V j = E j := if_neg (by omega)
theorem lb_fiN {E : Nat → Int32} {b n j : Nat} {V : Nat → Int32} (h : j < b ∨ b + n ≤ j) : lb_fi E b n V j = E j := if_neg (by omega)
theorem lb_flI {E : Nat → Int64} {b n s : Nat} {V : Nat → Int64} (h : s < n) : lb_fl E b n V (b + s) = V s := by
  show (if b ≤ b + s ∧ b + s < b + n then V (b + s - b) else E (b + s)) = V s
  rw [if_pos (by omega), Nat.add_sub_cancel_left]
theorem lb_fiI {E : Nat → Int32} {b n s : Nat} {V : Nat → Int32} (h : s < n) : lb_fi E b n V (b + s) = V s := by
  show (if b ≤ b + s ∧ b + s < b + n then V (b + s - b) else E (b + s)) = V s
  rw [if_pos (by omega), Nat.add_sub_cancel_left]
theorem lb_flC {E : Nat → Int64} {b n : Nat} {V V' : Nat → Int64} (h : ∀ s, s < n → V s = V' s) : lb_fl E b n V = lb_fl E b n V' := by
  funext j
  show (if b ≤ j ∧ j < b + n then V (j - b) else E j) = if b ≤ j ∧ j < b + n then V' (j - b) else E j
  by_cases c : b ≤ j ∧ j < b + n
  · rw [if_pos c, if_pos c, h _ (by omega)]
  · rw [if_neg c, if_neg c]
theorem lb_fiC {E : Nat → Int32} {b n : Nat} {V V' : Nat → Int32} (h : ∀ s, s < n → V s = V' s) : lb_fi E b n V = lb_fi E b n V' := by
  funext j
  show (if b ≤ j ∧ j < b + n then V (j - b) else E j) = if b ≤ j ∧ j < b + n then V' (j - b) else E j
  by_cases c : b ≤ j ∧ j < b + n
  · rw [if_pos c, if_pos c, h _ (by omega)]
  · rw [if_neg c, if_neg c]
theorem lb_uu {f : Nat → Int32} {k : Nat} {x y : Int32} : upd (upd f k x) k y = upd f k y := by
  funext j
  show (if j = k then y else if j = k then x else f j) = if j = k then y else f j
  by_cases e : j = k
  · rw [if_pos e, if_pos e]
  · rw [if_neg e, if_neg e, if_neg e]
theorem lb_uuL {f : Nat → Int64} {k : Nat} {x y : Int64} : vp_updL (vp_updL f k x) k y = vp_updL f k y := by
  funext j
  show (if j = k then y else if j = k then x else f j) = if j = k then y else f j
  by_cases e : j = k
  · rw [if_pos e, if_pos e]
  · rw [if_neg e, if_neg e, if_neg e]
theorem lb_us {f : Nat → Int32} {k : Nat} : upd f k (f k) = f := by
  funext j
  show (if j = k then f k else f j) = f j
  by_cases e : j = k
  · rw [if_pos e, e]
  · rw [if_neg e]
theorem lb_usL {f : Nat → Int64} {k : Nat} : vp_updL f k (f k) = f := by
  funext j
  show (if j = k then f k else f j) = f j
  by_cases e : j = k
  · rw [if_pos e, e]
  · rw [if_neg e]
/-! ===== the set of the states of which P holds ===== -/
noncomputable def lb_mk (P : Nat → Prop) : Nat → Int64
  | 0 => 0
  | n + 1 => @ite Int64 (P n) (Classical.propDecidable _) (lb_mk P n ||| ((1 : Int64) <<< ((nI n).toInt64 &&& 63))) (lb_mk P n)
theorem lb_mkb (P : Nat → Prop) : ∀ n, n ≤ 64 → ∀ j, lb_b (lb_mk P n) j ↔ (j < n ∧ P j) := by
  intro n
  induction n with
  | zero =>
    intro _ j
    exact ⟨fun h => absurd h (lb_0 j), fun h => by omega⟩
  | succ n ih =>
    intro hn j
    have h1 := ih (by omega) j
    by_cases p : P n
    · have e : lb_mk P (n + 1) = lb_mk P n ||| ((1 : Int64) <<< ((nI n).toInt64 &&& 63)) := if_pos p
      rw [e, lb_or, h1, lb_shl (by omega)]
      constructor
      · intro h
        rcases h with h | h
        · exact ⟨by omega, h.2⟩
        · subst h; exact ⟨by omega, p⟩
      · intro h
        by_cases e : j = n
        · exact Or.inr e
        · exact Or.inl ⟨by omega, h.2⟩
    · have e : lb_mk P (n + 1) = lb_mk P n := if_neg p
      rw [e, h1]
      constructor
      · intro h; exact ⟨by omega, h.2⟩
      · intro h
        by_cases e : j = n
        · subst e; exact absurd h.2 p
        · exact ⟨by omega, h.2⟩
noncomputable def lb_S (P : Nat → Prop) : Int64 := lb_mk P 64
theorem lb_Sb {P : Nat → Prop} {j : Nat} (hj : j < 64) : lb_b (lb_S P) j ↔ P j := by
  show lb_b (lb_mk P 64) j ↔ P j
  rw [lb_mkb P 64 (by omega) j]
  exact ⟨fun h => h.2, fun h => ⟨hj, h⟩⟩
theorem lb_Se {P : Nat → Prop} {w : Int64} (h : ∀ j, j < 64 → (lb_b w j ↔ P j)) : w = lb_S P := lb_ext (fun j hj => (h j hj).trans (lb_Sb hj).symm)
theorem lb_or0 (x : Int64) : 0 ||| x = x := by
  apply lb_ext
  intro j _
  rw [lb_or]
  exact ⟨fun h => h.elim (fun z => absurd z (lb_0 j)) id, Or.inr⟩
/-! ===== an index that is there ===== -/
def lb_x (n : Nat) (x : Int32) : Prop := ∃ j, j < n ∧ x = nI j
theorem lb_xI {n : Nat} (hn : n < 2 ^ 31) (x : Int32) : (0 ≤ x ∧ x < nI n) ↔ lb_x n x := by
  constructor
  · intro h
    obtain ⟨j, hj, e⟩ := nI_of (x := x) (Int32.not_lt.mpr h.1)
    subst e
    exact ⟨j, (nI_ltI hj hn).mp h.2, rfl⟩
  · intro h
    obtain ⟨j, hj, e⟩ := h
    subst e
    exact ⟨nI_pos' (by omega), nI_lt hj hn⟩
theorem lb_xn {n : Nat} {x : Int32} (h : ¬ lb_x n x) (hn : n < 2 ^ 31) : x < 0 ∨ nI n ≤ x := by
  rcases pk_ix x hn with z | z | z
  · exact Or.inl z
  · exact Or.inr z
  · exact absurd z h
theorem lb_xm {n : Nat} (hn : n < 2 ^ 30) : (nI n - 1).toInt = (n : Int) - 1 := by
  have h1 : (1 : Int32).toInt = 1 := by decide
  rw [Int32.toInt_sub, nI_toInt (by omega), h1]
  exact Int.bmod_eq_of_le (by omega) (by omega)
theorem lb_xJ {n : Nat} (hn : n < 2 ^ 30) (x : Int32) : (0 ≤ x ∧ x ≤ nI n - 1) ↔ lb_x n x := by
  have h0 : (0 : Int32).toInt = 0 := by decide
  constructor
  · intro h
    obtain ⟨j, hj, e⟩ := nI_of (x := x) (Int32.not_lt.mpr h.1)
    subst e
    have h2 := Int32.le_iff_toInt_le.mp h.2
    rw [lb_xm hn, nI_toInt hj] at h2
    exact ⟨j, by omega, rfl⟩
  · intro h
    obtain ⟨j, hj, e⟩ := h
    subst e
    refine ⟨nI_pos' (by omega), Int32.le_iff_toInt_le.mpr ?_⟩
    rw [lb_xm hn, nI_toInt (by omega)]
    omega
theorem lb_xK {n : Nat} (hn : n + 1 < 2 ^ 31) (x : Int32) : (0 ≤ x ∧ x ≤ nI n) ↔ lb_x (n + 1) x := by
  constructor
  · intro h
    obtain ⟨j, hj, e⟩ := nI_of (x := x) (Int32.not_lt.mpr h.1)
    subst e
    have := (nI_leI hj (by omega)).mp h.2
    exact ⟨j, by omega, rfl⟩
  · intro h
    obtain ⟨j, hj, e⟩ := h
    subst e
    exact ⟨nI_pos' (by omega), nI_le (by omega) (by omega)⟩
theorem lb_x0 {n : Nat} {x : Int32} (h : lb_x n x) (hn : n < 2 ^ 31) : ¬ x < 0 := by
  obtain ⟨j, hj, e⟩ := h
  subst e
  exact nI_pos (by omega)
