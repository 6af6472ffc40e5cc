/-! ===== bounds, branches ===== -/
theorem lb_64 {i : Nat} (h : i < 64) : ¬ (64 : Int32) ≤ nI i := nI_ge (b := 64) h (by decide)
theorem lb_64x : (64 : Int32) ≤ nI 64 := nI_le (a := 64) (b := 64) (by decide) (by decide)
theorem lb_4 {i : Nat} (h : i < 4) : ¬ (4 : Int32) ≤ nI i := nI_ge (b := 4) h (by decide)
theorem lb_4x : (4 : Int32) ≤ nI 4 := nI_le (a := 4) (b := 4) (by decide) (by decide)
theorem lb_br {P A B : Prop} (f : ¬ P → A) (g : P → B) : (lb_i P = 0 → A) ∧ (¬ lb_i P = 0 → B) := ⟨fun z => f (lb_iz.mp z), fun z => g (lb_in.mp z)⟩
theorem lb_rng {n : Nat} (hn : n < 2 ^ 31) {N : Int32} (hN : N = nI n) {post : Int32 → Prop} {x : Int32} (h : post (lb_i (lb_x n x))) : (x < 0 → post 0) ∧ (¬ x < 0 → ((N ≤ x → post 0) ∧ (¬ N ≤ x → post 1))) := by
  subst hN
  refine ⟨fun z => ?_, fun z => ⟨fun y => ?_, fun y => ?_⟩⟩
  · have g : ¬ lb_x n x := fun w => lb_x0 w hn z
    rw [lb_i0 g] at h
    exact h
  · have g : ¬ lb_x n x := by
      intro w
      obtain ⟨j, hj, e⟩ := w
      subst e
      exact nI_ge hj hn y
    rw [lb_i0 g] at h
    exact h
  · have g : lb_x n x := by
      obtain ⟨j, hj, e⟩ := nI_of z
      subst e
      refine ⟨j, ?_, rfl⟩
      rw [nI_leI hn hj] at y
      omega
    rw [lb_i1 g] at h
    exact h
theorem lb_ix1 (a b : Nat) : (nI a * 64) + nI b = nI (64 * a + b) := by
  show (nI a * nI 64) + nI b = _
  rw [pk_mul, nI_add, Nat.mul_comm]
theorem lb_ix2 (a b : Nat) : (64 * nI a) + nI b = nI (64 * a + b) := by
  show (nI 64 * nI a) + nI b = _
  rw [pk_mul, nI_add]
theorem lb_in1 {a b n N : Nat} (ha : a < n) (hb : b < 64) (hN : 64 * n = N) (hl : N < 2 ^ 31) : vp_in ((nI a * 64) + nI b) N := by
  rw [lb_ix1]
  exact vp_in_nI (by omega) hl
theorem lb_in2 {a b n N : Nat} (ha : a < n) (hb : b < 64) (hN : 64 * n = N) (hl : N < 2 ^ 31) : vp_in ((64 * nI a) + nI b) N := by
  rw [lb_ix2]
  exact vp_in_nI (by omega) hl
theorem lb_at1 {a b : Nat} (ha : a < 64) (hb : b < 64) : ((nI a * 64) + nI b).toNatClampNeg = 64 * a + b := by
  rw [lb_ix1]
  exact nI_clamp (by omega)
theorem lb_at2 {a b : Nat} (ha : a < 64) (hb : b < 64) : ((64 * nI a) + nI b).toNatClampNeg = 64 * a + b := by
  rw [lb_ix2]
  exact nI_clamp (by omega)
theorem lb_ne {x : Int32} {n : Nat} (k : Nat) (h : x = nI n) (hn : n < 2 ^ 31) (hk : k < 2 ^ 31) (e : n ≠ k) : ¬ x = nI k := by
  subst h
  rw [nI_eq hn hk]
  exact e
def lb_va (x s : Int32) : Int32 := (s >>> ((2 * x) &&& 31)) &&& 3
def lb_wv (s x v : Int32) : Int32 := (s &&& (((3 : Int32) <<< ((2 * x) &&& 31)) ^^^ (-1))) ||| (v <<< ((2 * x) &&& 31))
/-! ===== the component's small methods ===== -/
theorem xa_isVariable {post : Int32 → Prop} {x : Int32} (h : post (lb_i (lb_x 3 x))) : wpX_isVariable post x := lb_rng (n := 3) (by decide) rfl h
theorem xa_isValue {post : Int32 → Prop} {x : Int32} (h : post (lb_i (lb_x 4 x))) : wpX_isValue post x := lb_rng (n := 4) (by decide) rfl h
theorem xa_isState {post : Int32 → Prop} {x : Int32} (h : post (lb_i (lb_x 64 x))) : wpX_isState post x := lb_rng (n := 64) (by decide) rfl h
theorem xa_contains {post : Int32 → Prop} {w : Int64} {s : Nat} (hs : s < 64) (h : post (lb_i (lb_b w s))) : wpX_contains post w (nI s) := by
  refine br_c (fun z => ?_) (fun z => ?_)
  · rw [lb_i0 ((lb_t0 hs).mp z)] at h
    exact h
  · have g : lb_b w s := Classical.byContradiction (fun y => z ((lb_t0 hs).mpr y))
    rw [lb_i1 g] at h
    exact h
theorem xa_size4 {post : Int32 → Prop} {w : Int64} (h : post (nI (gr_sz (lb_b w) 64))) : ∀ d i, i + d = 64 → wX_sizeOf_4 post w (d + 1) (nI (gr_sz (lb_b w) i)) (nI i) := by
  intro d
  induction d with
  | zero =>
    intro i hi
    have e : i = 64 := by omega
    subst e
    exact br_t lb_64x h
  | succ d ih =>
    intro i hi
    have hl : i < 64 := by omega
    refine br_f (lb_64 hl) (xa_contains hl (lb_br (fun n => nm_r (nI_1 i) ?_) (fun p => nm_r (nI_1 _) (nm_r (nI_1 i) ?_))))
    · rw [← lb_szf n]
      exact ih (i + 1) (by omega)
    · rw [← lb_szt p]
      exact ih (i + 1) (by omega)
theorem xa_size {post : Int32 → Prop} {w : Int64} (h : post (nI (gr_sz (lb_b w) 64))) : wpX_sizeOf post w := ⟨65, xa_size4 h 64 0 rfl⟩
theorem xa_member5 {post : Int32 → Prop} {w : Int64} {k : Int32} : ∀ d i b, i + d = 64 → post (lb_mem (lb_b w) k d i b) → wX_member_5 post w k (d + 1) (nI b) (nI i) := by
  intro d
  induction d with
  | zero =>
    intro i b hi h
    have e : i = 64 := by omega
    subst e
    exact br_t lb_64x h
  | succ d ih =>
    intro i b hi h
    have hl : i < 64 := by omega
    refine br_f (lb_64 hl) (xa_contains hl (lb_br (fun n => nm_r (nI_1 i) ?_) (fun p => br_c (fun e => ?_) (fun e => nm_r (nI_1 b) (nm_r (nI_1 i) ?_)))))
    · rw [lb_memf n] at h
      exact ih (i + 1) b (by omega) h
    · rw [lb_memt p e] at h
      exact h
    · rw [lb_memn p e] at h
      exact ih (i + 1) (b + 1) (by omega) h
theorem xa_member {post : Int32 → Prop} {w : Int64} {k : Int32} (h : post (lb_mem (lb_b w) k 64 0 0)) : wpX_member post w k := ⟨65, xa_member5 64 0 0 rfl h⟩
theorem xa_swv5 {post : Int64 → Prop} {x y : Int32} (H : ∀ w, (∀ j, j < 64 → (lb_b w j ↔ lb_va x (nI j) = y)) → post w) : ∀ d i w, i + d = 64 → lb_acc (fun s => lb_va x (nI s) = y) i w → wX_statesWithValue_5 post x y (d + 1) w (nI i) := by
  intro d
  induction d with
  | zero =>
    intro i w hi h
    have e : i = 64 := by omega
    subst e
    exact br_t lb_64x (H w (lb_accX h))
  | succ d ih =>
    intro i w hi h
    have hl : i < 64 := by omega
    exact br_f (lb_64 hl) (br_c (fun e => nm_e (nm_r (nI_1 i) (ih (i + 1) _ (by omega) (lb_accT hl h e)))) (fun e => nm_r (nI_1 i) (ih (i + 1) w (by omega) (lb_accF h e))))
theorem xa_swv {post : Int64 → Prop} {x y : Int32} (H : ∀ w, (∀ j, j < 64 → (lb_b w j ↔ lb_va x (nI j) = y)) → post w) : wpX_statesWithValue post x y := ⟨65, xa_swv5 H 64 0 0 rfl (lb_acc0 _)⟩
theorem xa_sam5 {post : Int64 → Prop} {x y : Int32} (H : ∀ w, (∀ j, j < 64 → (lb_b w j ↔ ¬ lb_va y (nI j) < lb_va x (nI j))) → post w) : ∀ d i w, i + d = 64 → lb_acc (fun s => ¬ lb_va y (nI s) < lb_va x (nI s)) i w → wX_statesAtMost_5 post x y (d + 1) w (nI i) := by
  intro d
  induction d with
  | zero =>
    intro i w hi h
    have e : i = 64 := by omega
    subst e
    exact br_t lb_64x (H w (lb_accX h))
  | succ d ih =>
    intro i w hi h
    have hl : i < 64 := by omega
    exact br_f (lb_64 hl) (br_c (fun e => nm_r (nI_1 i) (ih (i + 1) w (by omega) (lb_accF h (fun z => z e)))) (fun e => nm_e (nm_r (nI_1 i) (ih (i + 1) _ (by omega) (lb_accT hl h e)))))
theorem xa_sam {post : Int64 → Prop} {x y : Int32} (H : ∀ w, (∀ j, j < 64 → (lb_b w j ↔ ¬ lb_va y (nI j) < lb_va x (nI j))) → post w) : wpX_statesAtMost post x y := ⟨65, xa_sam5 H 64 0 0 rfl (lb_acc0 _)⟩
section
variable (lv ct pt : Int32) (cs : Nat → Int64) (W : Nat → Int32) (fs gs E q : Nat → Int64)
theorem xa_isCond {post : Int32 → Prop} {c : Nat} {x : Int32} (hc : c ≤ 24) (h : post (lb_i (lb_x c x))) : wpX_isCondition post (lv, nI c, pt, cs, W, fs, gs, E, q) x := lb_rng (n := c) (by omega) rfl h
theorem xa_isProg {post : Int32 → Prop} {p : Nat} {x : Int32} (hp : p ≤ 32) (h : post (lb_i (lb_x p x))) : wpX_isProgram post (lv, ct, nI p, cs, W, fs, gs, E, q) x := lb_rng (n := p) (by omega) rfl h
theorem xa_eF6 {post : Int64 → Prop} {p : Nat} {S : Int64} (hp : p < 32) (H : ∀ w, (∀ j, j < 64 → (lb_b w j ↔ ∃ t, t < 64 ∧ lb_b S t ∧ lb_b (E (64 * p + t)) j)) → post w) : ∀ d i w, i + d = 64 → lb_uni (fun t => E (64 * p + t)) (lb_b S) i w → wX_endsFrom_6 post (nI p) S lv ct pt cs W fs gs E q (d + 1) w (nI i) := by
  intro d
  induction d with
  | zero =>
    intro i w hi h
    have e : i = 64 := by omega
    subst e
    exact br_t lb_64x (H w h)
  | succ d ih =>
    intro i w hi h
    have hl : i < 64 := by omega
    refine br_f (lb_64 hl) (xa_contains hl (lb_br (fun n => nm_r (nI_1 i) ?_) (fun p => And.intro ?_ (nm_e (nm_r (nI_1 i) ?_)))))
    · exact ih (i + 1) w (by omega) (lb_uniF h n)
    · exact lb_in1 hp hl rfl (by decide)
    · rw [lb_at1 (by omega) hl]
      exact ih (i + 1) _ (by omega) (lb_uniT h p)
theorem xa_eF {post : Int64 → Prop} {p : Nat} {S : Int64} (hp : p < 32) (H : ∀ w, (∀ j, j < 64 → (lb_b w j ↔ ∃ t, t < 64 ∧ lb_b S t ∧ lb_b (E (64 * p + t)) j)) → post w) : wpX_endsFrom post (lv, ct, pt, cs, W, fs, gs, E, q) (nI p) S := ⟨65, xa_eF6 lv ct pt cs W fs gs E q hp H 64 0 0 rfl (lb_uni0 _ _)⟩
theorem xa_mE6 {post : Int64 → Prop} {p : Nat} {S : Int64} (hp : p < 32) (H : ∀ w, (∀ j, j < 64 → (lb_b w j ↔ ¬ E (64 * p + j) &&& S = 0)) → post w) : ∀ d i w, i + d = 64 → lb_acc (fun j => ¬ E (64 * p + j) &&& S = 0) i w → wX_mayEndIn_6 post (nI p) S lv ct pt cs W fs gs E q (d + 1) w (nI i) := by
  intro d
  induction d with
  | zero =>
    intro i w hi h
    have e : i = 64 := by omega
    subst e
    exact br_t lb_64x (H w (lb_accX h))
  | succ d ih =>
    intro i w hi h
    have hl : i < 64 := by omega
    have ea : ((nI p * 64) + nI i).toNatClampNeg = 64 * p + i := lb_at1 (by omega) hl
    refine br_f (lb_64 hl) (And.intro (lb_in1 hp hl rfl (by decide)) (br_c (fun e => nm_r (nI_1 i) ?_) (fun e => nm_e (nm_r (nI_1 i) ?_))))
    · rw [ea] at e
      exact ih (i + 1) w (by omega) (lb_accF h (fun z => z e))
    · rw [ea] at e
      exact ih (i + 1) _ (by omega) (lb_accT hl h e)
theorem xa_mE {post : Int64 → Prop} {p : Nat} {S : Int64} (hp : p < 32) (H : ∀ w, (∀ j, j < 64 → (lb_b w j ↔ ¬ E (64 * p + j) &&& S = 0)) → post w) : wpX_mayEndIn post (lv, ct, pt, cs, W, fs, gs, E, q) (nI p) S := ⟨65, xa_mE6 lv ct pt cs W fs gs E q hp H 64 0 0 rfl (lb_acc0 _)⟩
end
