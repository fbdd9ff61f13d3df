/-! THE EVALUATOR: a small machine over numbers and lists, run by the kernel. A value: an int (below 2^32), a reference (0 null, k + 1 the cell k), a long, a double, a float (their bits), or a thing apart (0 the script, 1 some exception, 2 nothing known, k + 3 the script's int k). -/
abbrev AV : Type := Nat ⊕ (Nat ⊕ (Nat ⊕ (Nat ⊕ (Nat ⊕ Nat))))
/-- a cell: an object (the number of its kind, its fields), an int array, a double array (length, contents) -/
abbrev AC : Type := (Nat × List AV) ⊕ ((Nat × List Nat) ⊕ (Nat × List Nat))
/-- returned, thrown (the number of the exception), or stopped for want of fuel (how many instructions stand behind this one, variables, stack) -/
abbrev Ot : Type := (Option AV ⊕ Nat) ⊕ (Nat × (List AV × List AV))
/-- an outcome, the heap, its size, cells and slots made -/
abbrev AH : Type := List (List AC)
abbrev Rs : Type := Ot × (AH × (Nat × (Nat × Nat)))
abbrev RR : Type := Option Rs
/-- variables, stack, heap, its size, cells, slots -/
abbrev Kt : Type := List AV → List AV → AH → Nat → Nat → Nat → RR
abbrev Cal : Type := Nat → List AV → AH → Nat → RR
abbrev Op : Type := Kt → (Nat → Kt) → Cal → Kt
theorem no_none {P : Prop} {r : Rs} (h : (none : RR) = some r) : P := by cases h
noncomputable def e_force (n : Nat) (k : Nat → RR) : RR := Nat.rec (motive := fun _ => RR) (k 0) (fun m _ => k (Nat.succ m)) n
theorem e_force_eq (n : Nat) (k : Nat → RR) : e_force n k = k n := by cases n <;> rfl
noncomputable def e_if (b : Bool) (x y : RR) : RR := Bool.rec (motive := fun _ => RR) y x b
theorem e_if_inv {b : Bool} {x y : RR} {r : Rs} (h : e_if b x y = some r) : (b = true ∧ x = some r) ∨ (b = false ∧ y = some r) := by
  cases b with
  | true => exact Or.inl ⟨rfl, h⟩
  | false => exact Or.inr ⟨rfl, h⟩
theorem e_if_t {b : Bool} {x : RR} {r : Rs} (h : e_if b x none = some r) : b = true ∧ x = some r := by
  cases b with
  | true => exact ⟨rfl, h⟩
  | false => exact no_none h
noncomputable def e_nil {α : Type} (s : List α) (k : RR) : RR := List.rec (motive := fun _ => RR) k (fun _ _ _ => none) s
theorem e_nil_inv {α : Type} {s : List α} {k : RR} {r : Rs} (h : e_nil s k = some r) : s = [] ∧ k = some r := by
  cases s with
  | nil => exact ⟨rfl, h⟩
  | cons _ _ => exact no_none h
noncomputable def e_pV (s : List AV) (k : AV → List AV → RR) : RR := List.rec (motive := fun _ => RR) none (fun v t _ => k v t) s
theorem e_pV_inv {s : List AV} {k : AV → List AV → RR} {r : Rs} (h : e_pV s k = some r) : ∃ v t, s = v :: t ∧ k v t = some r := by
  cases s with
  | nil => exact no_none h
  | cons v t => exact ⟨v, t, rfl, h⟩
noncomputable def e_vI (v : AV) (k : Nat → RR) : RR := Sum.rec (motive := fun _ => RR) (fun n => k n) (fun _ => none) v
theorem e_vI_inv {v : AV} {k : Nat → RR} {r : Rs} (h : e_vI v k = some r) : ∃ n, v = .inl n ∧ k n = some r := by
  cases v with
  | inl n => exact ⟨n, rfl, h⟩
  | inr _ => exact no_none h
noncomputable def e_pI (s : List AV) (k : Nat → List AV → RR) : RR := List.rec (motive := fun _ => RR) none (fun v t _ => Sum.rec (motive := fun _ => RR) (fun n => k n t) (fun _ => none) v) s
theorem e_pI_inv {s : List AV} {k : Nat → List AV → RR} {r : Rs} (h : e_pI s k = some r) : ∃ n t, s = .inl n :: t ∧ k n t = some r := by
  cases s with
  | nil => exact no_none h
  | cons v t =>
    cases v with
    | inl n => exact ⟨n, t, rfl, h⟩
    | inr _ => exact no_none h
/-- an object's or array's cell -/
noncomputable def e_vR (v : AV) (k : Nat → RR) : RR := Sum.rec (motive := fun _ => RR) (fun _ => none) (fun w => Sum.rec (motive := fun _ => RR) (fun n => Nat.rec (motive := fun _ => RR) none (fun m _ => k m) n) (fun _ => none) w) v
theorem e_vR_inv {v : AV} {k : Nat → RR} {r : Rs} (h : e_vR v k = some r) : ∃ m, v = .inr (.inl (m + 1)) ∧ k m = some r := by
  cases v with
  | inl _ => exact no_none h
  | inr w =>
    cases w with
    | inr _ => exact no_none h
    | inl n =>
      cases n with
      | zero => exact no_none h
      | succ m => exact ⟨m, rfl, h⟩
noncomputable def e_pR (s : List AV) (k : Nat → List AV → RR) : RR := e_pV s fun v t => e_vR v fun m => k m t
theorem e_pR_inv {s : List AV} {k : Nat → List AV → RR} {r : Rs} (h : e_pR s k = some r) : ∃ m t, s = .inr (.inl (m + 1)) :: t ∧ k m t = some r := by
  obtain ⟨v, t, rfl, h1⟩ := e_pV_inv h
  obtain ⟨m, rfl, h2⟩ := e_vR_inv h1
  exact ⟨m, t, rfl, h2⟩
noncomputable def e_vL (v : AV) (k : Nat → RR) : RR := Sum.rec (motive := fun _ => RR) (fun _ => none) (fun w => Sum.rec (motive := fun _ => RR) (fun _ => none) (fun w => Sum.rec (motive := fun _ => RR) (fun n => k n) (fun _ => none) w) w) v
theorem e_vL_inv {v : AV} {k : Nat → RR} {r : Rs} (h : e_vL v k = some r) : ∃ m, v = .inr (.inr (.inl m)) ∧ k m = some r := by
  rcases v with _ | _ | n | _
  · exact no_none h
  · exact no_none h
  · exact ⟨n, rfl, h⟩
  · exact no_none h
noncomputable def e_vD (v : AV) (k : Nat → RR) : RR := Sum.rec (motive := fun _ => RR) (fun _ => none) (fun w => Sum.rec (motive := fun _ => RR) (fun _ => none) (fun w => Sum.rec (motive := fun _ => RR) (fun _ => none) (fun w => Sum.rec (motive := fun _ => RR) (fun n => k n) (fun _ => none) w) w) w) v
theorem e_vD_inv {v : AV} {k : Nat → RR} {r : Rs} (h : e_vD v k = some r) : ∃ m, v = .inr (.inr (.inr (.inl m))) ∧ k m = some r := by
  rcases v with _ | _ | _ | n | _
  · exact no_none h
  · exact no_none h
  · exact no_none h
  · exact ⟨n, rfl, h⟩
  · exact no_none h
noncomputable def e_vF (v : AV) (k : Nat → RR) : RR := Sum.rec (motive := fun _ => RR) (fun _ => none) (fun w => Sum.rec (motive := fun _ => RR) (fun _ => none) (fun w => Sum.rec (motive := fun _ => RR) (fun _ => none) (fun w => Sum.rec (motive := fun _ => RR) (fun _ => none) (fun w => Sum.rec (motive := fun _ => RR) (fun n => k n) (fun _ => none) w) w) w) w) v
theorem e_vF_inv {v : AV} {k : Nat → RR} {r : Rs} (h : e_vF v k = some r) : ∃ m, v = .inr (.inr (.inr (.inr (.inl m)))) ∧ k m = some r := by
  rcases v with _ | _ | _ | _ | n | _
  · exact no_none h
  · exact no_none h
  · exact no_none h
  · exact no_none h
  · exact ⟨n, rfl, h⟩
  · exact no_none h
noncomputable def e_vS (v : AV) (k : Nat → RR) : RR := Sum.rec (motive := fun _ => RR) (fun _ => none) (fun w => Sum.rec (motive := fun _ => RR) (fun _ => none) (fun w => Sum.rec (motive := fun _ => RR) (fun _ => none) (fun w => Sum.rec (motive := fun _ => RR) (fun _ => none) (fun w => Sum.rec (motive := fun _ => RR) (fun _ => none) (fun n => k n) w) w) w) w) v
theorem e_vS_inv {v : AV} {k : Nat → RR} {r : Rs} (h : e_vS v k = some r) : ∃ m, v = .inr (.inr (.inr (.inr (.inr m)))) ∧ k m = some r := by
  rcases v with _ | _ | _ | _ | _ | n
  · exact no_none h
  · exact no_none h
  · exact no_none h
  · exact no_none h
  · exact no_none h
  · exact ⟨n, rfl, h⟩
/-- one slot wide -/
noncomputable def e_one (v : AV) : Bool := Sum.rec (motive := fun _ => Bool) (fun _ => true) (fun w => Sum.rec (motive := fun _ => Bool) (fun _ => true) (fun w => Sum.rec (motive := fun _ => Bool) (fun _ => false) (fun w => Sum.rec (motive := fun _ => Bool) (fun _ => false) (fun _ => true) w) w) w) v
noncomputable def e_nth {α : Type} (l : List α) (n : Nat) (k : α → RR) : RR := List.rec (motive := fun _ => Nat → RR) (fun _ => none) (fun a _ ih n => Nat.rec (motive := fun _ => RR) (k a) (fun m _ => ih m) n) l n
theorem e_nth_inv {α : Type} {l : List α} {n : Nat} {k : α → RR} {r : Rs} (h : e_nth l n k = some r) : ∃ a, l[n]? = some a ∧ k a = some r := by
  induction l generalizing n with
  | nil => exact no_none h
  | cons a t ih =>
    cases n with
    | zero => exact ⟨a, rfl, h⟩
    | succ m =>
      obtain ⟨b, h1, h2⟩ := ih (n := m) h
      exact ⟨b, by rw [List.getElem?_cons_succ]; exact h1, h2⟩
noncomputable def e_upd {α : Type} (l : List α) (n : Nat) (v : α) (k : List α → RR) : RR := List.rec (motive := fun _ => Nat → (List α → RR) → RR) (fun _ _ => none) (fun a t ih n k => Nat.rec (motive := fun _ => RR) (k (v :: t)) (fun m _ => ih m (fun t' => k (a :: t'))) n) l n k
theorem e_upd_inv {α : Type} {l : List α} {n : Nat} {v : α} {k : List α → RR} {r : Rs} (h : e_upd l n v k = some r) : n < l.length ∧ k (l.set n v) = some r := by
  induction l generalizing n k with
  | nil => exact no_none h
  | cons a t ih =>
    cases n with
    | zero => exact ⟨Nat.zero_lt_succ _, h⟩
    | succ m =>
      obtain ⟨h1, h2⟩ := ih (n := m) (k := fun t' => k (a :: t')) h
      exact ⟨Nat.succ_lt_succ h1, h2⟩
noncomputable def e_app {α : Type} (l : List α) (v : α) (k : List α → RR) : RR := List.rec (motive := fun _ => (List α → RR) → RR) (fun k => k [v]) (fun a _ ih k => ih (fun t' => k (a :: t'))) l k
theorem e_app_eq {α : Type} (l : List α) (v : α) (k : List α → RR) : e_app l v k = k (l ++ [v]) := by
  induction l generalizing k with
  | nil => rfl
  | cons a t ih => exact ih (fun t' => k (a :: t'))
noncomputable def e_rep (n : Nat) (k : List Nat → RR) : RR := Nat.rec (motive := fun _ => (List Nat → RR) → RR) (fun k => k []) (fun _ ih k => ih (fun t => k (0 :: t))) n k
theorem e_rep_eq (n : Nat) (k : List Nat → RR) : e_rep n k = k (List.replicate n 0) := by
  induction n generalizing k with
  | zero => rfl
  | succ n ih => exact ih (fun t => k (0 :: t))
noncomputable def e_at {α : Type} (l : List α) (n : Nat) : Option α := List.rec (motive := fun _ => Nat → Option α) (fun _ => none) (fun a _ ih n => Nat.rec (motive := fun _ => Option α) (some a) (fun m _ => ih m) n) l n
theorem e_at_eq {α : Type} (l : List α) (n : Nat) : e_at l n = l[n]? := by
  induction l generalizing n with
  | nil => cases n <;> rfl
  | cons a t ih =>
    cases n with
    | zero => rfl
    | succ m => exact (ih m).trans (List.getElem?_cons_succ).symm
/-! the heap in rows of eight cells; what is read by closed terms is kept by the kernel -/
noncomputable def e_op {α : Type} (o : Option α) (k : α → RR) : RR := Option.rec (motive := fun _ => RR) none k o
theorem e_op_inv {α : Type} {o : Option α} {k : α → RR} {r : Rs} (h : e_op o k = some r) : ∃ a, o = some a ∧ k a = some r := by
  cases o with
  | none => exact no_none h
  | some a => exact ⟨a, rfl, h⟩
noncomputable def e_cell (h : AH) (a : Nat) : Option AC := Option.rec (motive := fun _ => Option AC) none (fun r => e_at r (Nat.mod a 8)) (e_at h (Nat.div a 8))
noncomputable def e_kind (h : AH) (a ci : Nat) : Option (List AV) := Option.rec (motive := fun _ => Option (List AV)) none (fun cl => Sum.rec (motive := fun _ => Option (List AV)) (fun o => Bool.rec (motive := fun _ => Option (List AV)) none (some o.2) (Nat.beq o.1 ci)) (fun _ => none) cl) (e_cell h a)
noncomputable def e_fld (h : AH) (a ci k : Nat) : Option AV := Option.rec (motive := fun _ => Option AV) none (fun fs => e_at fs k) (e_kind h a ci)
noncomputable def e_aI (h : AH) (a : Nat) : Option (Nat × List Nat) := Option.rec (motive := fun _ => Option (Nat × List Nat)) none (fun cl => Sum.rec (motive := fun _ => Option (Nat × List Nat)) (fun _ => none) (fun w => Sum.rec (motive := fun _ => Option (Nat × List Nat)) (fun o => some o) (fun _ => none) w) cl) (e_cell h a)
noncomputable def e_aD (h : AH) (a : Nat) : Option (Nat × List Nat) := Option.rec (motive := fun _ => Option (Nat × List Nat)) none (fun cl => Sum.rec (motive := fun _ => Option (Nat × List Nat)) (fun _ => none) (fun w => Sum.rec (motive := fun _ => Option (Nat × List Nat)) (fun _ => none) (fun o => some o) w) cl) (e_cell h a)
noncomputable def e_elI (h : AH) (a i : Nat) : Option Nat := Option.rec (motive := fun _ => Option Nat) none (fun o => e_at o.2 i) (e_aI h a)
noncomputable def e_elD (h : AH) (a i : Nat) : Option Nat := Option.rec (motive := fun _ => Option Nat) none (fun o => e_at o.2 i) (e_aD h a)
noncomputable def e_len (h : AH) (a : Nat) : Option Nat := Option.rec (motive := fun _ => Option Nat) none (fun cl => Sum.rec (motive := fun _ => Option Nat) (fun _ => none) (fun w => Sum.rec (motive := fun _ => Option Nat) (fun o => some o.1) (fun o => some o.1) w) cl) (e_cell h a)
noncomputable def e_hup (h : AH) (a : Nat) (v : AC) (k : AH → RR) : RR := e_op (e_at h (Nat.div a 8)) fun r => e_upd r (Nat.mod a 8) v fun r => e_upd h (Nat.div a 8) r k
noncomputable def e_happ (h : AH) (z : Nat) (v : AC) (k : AH → RR) : RR := e_if (Nat.beq (Nat.mod z 8) 0) (e_app h [v] k) (e_op (e_at h (Nat.div z 8)) fun r => e_app r v fun r => e_upd h (Nat.div z 8) r k)
noncomputable def e_obj (h : AH) (a ci : Nat) (k : List AV → RR) : RR := e_op (e_kind h a ci) k
noncomputable def e_arrI (h : AH) (a : Nat) (k : Nat → List Nat → RR) : RR := e_op (e_aI h a) fun o => k o.1 o.2
noncomputable def e_arrD (h : AH) (a : Nat) (k : Nat → List Nat → RR) : RR := e_op (e_aD h a) fun o => k o.1 o.2
noncomputable def e_alen (h : AH) (a : Nat) (k : Nat → RR) : RR := e_op (e_len h a) k

theorem e_cell_eq (h : AH) (a : Nat) : e_cell h a = (h[a / 8]?).bind (fun r => r[a % 8]?) := by
  show Option.rec (motive := fun _ => Option AC) none (fun r => e_at r (a % 8)) (e_at h (a / 8)) = _
  rw [e_at_eq]
  cases h[a / 8]? with
  | none => rfl
  | some r => exact e_at_eq r (a % 8)
theorem e_kind_inv {h : AH} {a ci : Nat} {fs : List AV} (hh : e_kind h a ci = some fs) : e_cell h a = some (.inl (ci, fs)) := by
  unfold e_kind at hh
  cases hc : e_cell h a with
  | none => rw [hc] at hh; cases hh
  | some cl =>
    rw [hc] at hh
    rcases cl with ⟨c, gs⟩ | w
    · have h1 : Bool.rec (motive := fun _ => Option (List AV)) none (some gs) (Nat.beq c ci) = some fs := hh
      cases hb : Nat.beq c ci with
      | false =>
        rw [hb] at h1
        have h2 : (none : Option (List AV)) = some fs := h1
        cases h2
      | true =>
        rw [hb] at h1
        have h2 : some gs = some fs := h1
        have h3 := Nat.eq_of_beq_eq_true hb
        have h4 := Option.some.inj h2
        subst h3
        subst h4
        rfl
    · cases hh
theorem e_fld_inv {h : AH} {a ci k : Nat} {v : AV} (hh : e_fld h a ci k = some v) : ∃ fs, e_cell h a = some (.inl (ci, fs)) ∧ fs[k]? = some v := by
  unfold e_fld at hh
  cases hc : e_kind h a ci with
  | none => rw [hc] at hh; cases hh
  | some fs =>
    rw [hc] at hh
    exact ⟨fs, e_kind_inv hc, (e_at_eq fs k).symm.trans hh⟩
theorem e_aI_inv {h : AH} {a : Nat} {o : Nat × List Nat} (hh : e_aI h a = some o) : e_cell h a = some (.inr (.inl o)) := by
  unfold e_aI at hh
  cases hc : e_cell h a with
  | none => rw [hc] at hh; cases hh
  | some cl =>
    rw [hc] at hh
    rcases cl with _ | w | _
    · cases hh
    · cases hh; rfl
    · cases hh
theorem e_aD_inv {h : AH} {a : Nat} {o : Nat × List Nat} (hh : e_aD h a = some o) : e_cell h a = some (.inr (.inr o)) := by
  unfold e_aD at hh
  cases hc : e_cell h a with
  | none => rw [hc] at hh; cases hh
  | some cl =>
    rw [hc] at hh
    rcases cl with _ | w | _
    · cases hh
    · cases hh
    · cases hh; rfl
theorem e_elI_inv {h : AH} {a i x : Nat} (hh : e_elI h a i = some x) : ∃ o, e_cell h a = some (.inr (.inl o)) ∧ o.2[i]? = some x := by
  unfold e_elI at hh
  cases hc : e_aI h a with
  | none => rw [hc] at hh; cases hh
  | some o =>
    rw [hc] at hh
    exact ⟨o, e_aI_inv hc, (e_at_eq o.2 i).symm.trans hh⟩
theorem e_elD_inv {h : AH} {a i x : Nat} (hh : e_elD h a i = some x) : ∃ o, e_cell h a = some (.inr (.inr o)) ∧ o.2[i]? = some x := by
  unfold e_elD at hh
  cases hc : e_aD h a with
  | none => rw [hc] at hh; cases hh
  | some o =>
    rw [hc] at hh
    exact ⟨o, e_aD_inv hc, (e_at_eq o.2 i).symm.trans hh⟩
theorem e_len_inv {h : AH} {a x : Nat} (hh : e_len h a = some x) : (∃ xs, e_cell h a = some (.inr (.inl (x, xs)))) ∨ (∃ xs, e_cell h a = some (.inr (.inr (x, xs)))) := by
  unfold e_len at hh
  cases hc : e_cell h a with
  | none => rw [hc] at hh; cases hh
  | some cl =>
    rw [hc] at hh
    rcases cl with _ | ⟨n, xs⟩ | ⟨n, xs⟩
    · cases hh
    · cases hh; exact Or.inl ⟨xs, rfl⟩
    · cases hh; exact Or.inr ⟨xs, rfl⟩
/-- the rows are full, but for the last one -/
def e_Wf (h : AH) (z : Nat) : Prop := h.length = (z + 7) / 8 ∧ ∀ (j : Nat) (r : List AC), h[j]? = some r → r.length = min 8 (z - 8 * j)
theorem e_Wf_nil : e_Wf [] 0 := ⟨rfl, fun j r h => by simp at h⟩
theorem e_Wf_lt {h : AH} {z a : Nat} {cl : AC} (hw : e_Wf h z) (hc : e_cell h a = some cl) : a < z := by
  rw [e_cell_eq] at hc
  cases hr : h[a / 8]? with
  | none => rw [hr] at hc; cases hc
  | some r =>
    rw [hr] at hc
    have h1 : r[a % 8]? = some cl := hc
    have h2 := (List.getElem?_eq_some_iff.mp h1).1
    have h3 := hw.2 _ r hr
    omega
theorem e_hup_inv {h : AH} {a : Nat} {v : AC} {k : AH → RR} {r : Rs} (hh : e_hup h a v k = some r) : ∃ h', k h' = some r ∧ (∀ z, e_Wf h z → e_Wf h' z) ∧ e_cell h' a = some v ∧ ∀ b, b ≠ a → e_cell h' b = e_cell h b := by
  obtain ⟨rw0, h1, h2⟩ := e_op_inv hh
  rw [e_at_eq] at h1
  have h1 : h[a / 8]? = some rw0 := h1
  obtain ⟨h3, h4⟩ := e_upd_inv h2
  obtain ⟨h5, h6⟩ := e_upd_inv h4
  have h3 : a % 8 < rw0.length := h3
  have h5 : a / 8 < h.length := h5
  have h6 : k (h.set (a / 8) (rw0.set (a % 8) v)) = some r := h6
  refine ⟨_, h6, fun z hw => ⟨by rw [List.length_set]; exact hw.1, fun j r' hj => ?_⟩, ?_, fun b hb => ?_⟩
  · rw [List.getElem?_set] at hj
    split at hj
    · rename_i e
      subst e
      have hj : some (rw0.set (a % 8) v) = some r' := by simpa using hj
      cases hj
      rw [List.length_set]
      exact hw.2 _ rw0 h1
    · exact hw.2 j r' hj
  · rw [e_cell_eq, List.getElem?_set_self h5]
    show (rw0.set (a % 8) v)[a % 8]? = some v
    rw [List.getElem?_set_self h3]
  · rw [e_cell_eq, e_cell_eq]
    by_cases hd : b / 8 = a / 8
    · rw [hd, List.getElem?_set_self h5, h1]
      show (rw0.set (a % 8) v)[b % 8]? = rw0[b % 8]?
      rw [List.getElem?_set_ne (fun q => hb (by omega))]
    · rw [List.getElem?_set_ne (fun q => hd q.symm)]
theorem e_happ_inv {h : AH} {z : Nat} {v : AC} {k : AH → RR} {r : Rs} (hh : e_happ h z v k = some r) : ∃ h', k h' = some r ∧ (e_Wf h z → e_Wf h' (z + 1) ∧ e_cell h' z = some v ∧ ∀ b, b ≠ z → e_cell h' b = e_cell h b) := by
  rcases e_if_inv hh with ⟨h1, h2⟩ | ⟨h1, h2⟩
  · have h1 : z % 8 = 0 := Nat.eq_of_beq_eq_true h1
    rw [e_app_eq] at h2
    refine ⟨_, h2, fun hw => ?_⟩
    obtain ⟨w1, w2⟩ := hw
    have hl : h.length = z / 8 := by omega
    refine ⟨⟨by rw [List.length_append]; simp only [List.length_cons, List.length_nil]; omega, fun j r' hj => ?_⟩, ?_, fun b hb => ?_⟩
    · by_cases hjl : j < h.length
      · rw [List.getElem?_append_left hjl] at hj
        have := w2 j r' hj
        omega
      · rw [List.getElem?_append_right (by omega)] at hj
        have hz : j - h.length < 1 := (List.getElem?_eq_some_iff.mp hj).1
        rw [show j - h.length = 0 by omega] at hj
        cases hj
        simp only [List.length_cons, List.length_nil]
        omega
    · rw [e_cell_eq, List.getElem?_append_right (by omega), show z / 8 - h.length = 0 by omega, h1]
      rfl
    · rw [e_cell_eq, e_cell_eq]
      by_cases hjl : b / 8 < h.length
      · rw [List.getElem?_append_left hjl]
      · rw [List.getElem?_append_right (by omega), List.getElem?_eq_none (l := h) (by omega)]
        by_cases hq : b / 8 - h.length = 0
        · rw [hq]
          show ([v] : List AC)[b % 8]? = none
          exact List.getElem?_eq_none (by simp only [List.length_cons, List.length_nil]; omega)
        · rw [List.getElem?_eq_none (by simp only [List.length_cons, List.length_nil]; omega)]
  · have h1 : ¬ z % 8 = 0 := fun q => by
      have : Nat.beq (Nat.mod z 8) 0 = true := by rw [show Nat.mod z 8 = z % 8 from rfl, q]; rfl
      rw [this] at h1
      cases h1
    obtain ⟨rw0, h3, h4⟩ := e_op_inv h2
    rw [e_at_eq] at h3
    have h3 : h[z / 8]? = some rw0 := h3
    rw [e_app_eq] at h4
    obtain ⟨h5, h6⟩ := e_upd_inv h4
    have h5 : z / 8 < h.length := h5
    have h6 : k (h.set (z / 8) (rw0 ++ [v])) = some r := h6
    refine ⟨_, h6, fun hw => ?_⟩
    obtain ⟨w1, w2⟩ := hw
    have hr := w2 _ rw0 h3
    have hr : rw0.length = z % 8 := by omega
    refine ⟨⟨by rw [List.length_set]; omega, fun j r' hj => ?_⟩, ?_, fun b hb => ?_⟩
    · rw [List.getElem?_set] at hj
      split at hj
      · rename_i e
        subst e
        have hj : some (rw0 ++ [v]) = some r' := by simpa using hj
        cases hj
        rw [List.length_append, hr]
        simp only [List.length_cons, List.length_nil]
        omega
      · rename_i e
        have := w2 j r' hj
        have hjl := (List.getElem?_eq_some_iff.mp hj).1
        omega
    · rw [e_cell_eq, List.getElem?_set_self h5]
      show (rw0 ++ [v])[z % 8]? = some v
      rw [List.getElem?_append_right (by omega), show z % 8 - rw0.length = 0 by omega]
      rfl
    · rw [e_cell_eq, e_cell_eq]
      by_cases hd : b / 8 = z / 8
      · rw [hd, List.getElem?_set_self h5, h3]
        show (rw0 ++ [v])[b % 8]? = rw0[b % 8]?
        by_cases hlt : b % 8 < rw0.length
        · rw [List.getElem?_append_left hlt]
        · rw [List.getElem?_eq_none (l := rw0) (by omega), List.getElem?_eq_none]
          rw [List.length_append]
          simp only [List.length_cons, List.length_nil]
          omega
      · rw [List.getElem?_set_ne (fun q => hd q.symm)]
/-- the k uppermost values, the lowest first -/
noncomputable def e_take (k : Nat) (s acc : List AV) (K : List AV → List AV → RR) : RR := Nat.rec (motive := fun _ => List AV → List AV → RR) (fun s acc => K acc s) (fun _ ih s acc => e_pV s fun v s => ih s (v :: acc)) k s acc
theorem e_take_inv {k : Nat} {s acc : List AV} {K : List AV → List AV → RR} {r : Rs} (h : e_take k s acc K = some r) : ∃ as t, s = as.reverse ++ t ∧ as.length = k ∧ K (as ++ acc) t = some r := by
  induction k generalizing s acc with
  | zero => exact ⟨[], s, rfl, rfl, h⟩
  | succ k ih =>
    obtain ⟨v, t, rfl, h1⟩ := e_pV_inv (show e_pV s (fun v s => e_take k s (v :: acc) K) = some r from h)
    obtain ⟨as, t2, rfl, h2, h3⟩ := ih h1
    exact ⟨as ++ [v], t2, by simp, by simp [h2], by simpa using h3⟩
noncomputable def e_wt (s : List AV) : Nat := List.rec (motive := fun _ => Nat) 0 (fun v _ ih => Nat.add (Bool.rec (motive := fun _ => Nat) 2 1 (e_one v)) ih) s
/-- a method's variables at its entry: two places for what is two slots wide -/
noncomputable def e_locs (as pad : List AV) : List AV := List.rec (motive := fun _ => List AV) pad (fun v _ ih => Bool.rec (motive := fun _ => List AV) (v :: .inr (.inr (.inr (.inr (.inr 2)))) :: ih) (v :: ih) (e_one v)) as
noncomputable def e_drop {α : Type} (l : List α) (n : Nat) : List α := List.rec (motive := fun _ => Nat → List α) (fun _ => []) (fun a t ih n => Nat.rec (motive := fun _ => List α) (a :: t) (fun m _ => ih m) n) l n
theorem e_drop_eq {α : Type} (l : List α) (n : Nat) : e_drop l n = l.drop n := by
  induction l generalizing n with
  | nil => cases n <;> rfl
  | cons a t ih =>
    cases n with
    | zero => rfl
    | succ m => exact ih m
/-! THE INSTRUCTIONS -/
noncomputable def o_no : Op := fun _ _ _ _ _ _ _ _ _ => none
noncomputable def o_ic (v : Nat) : Op := fun nx _ _ l s h z c n => nx l (.inl v :: s) h z c n
noncomputable def o_v (v : AV) : Op := fun nx _ _ l s h z c n => nx l (v :: s) h z c n
noncomputable def o_ild (i : Nat) : Op := fun nx _ _ l s h z c n => e_nth l i fun v => e_vI v fun x => nx l (.inl x :: s) h z c n
noncomputable def o_ald (i : Nat) : Op := fun nx _ _ l s h z c n => e_nth l i fun v => e_vR v fun _ => nx l (v :: s) h z c n
noncomputable def o_sld (i : Nat) : Op := fun nx _ _ l s h z c n => e_nth l i fun v => e_vS v fun x => e_if (Nat.beq x 0) (nx l (v :: s) h z c n) none
noncomputable def o_lld (i : Nat) : Op := fun nx _ _ l s h z c n => e_nth l i fun v => e_vL v fun _ => nx l (v :: s) h z c n
noncomputable def o_dld (i : Nat) : Op := fun nx _ _ l s h z c n => e_nth l i fun v => e_vD v fun _ => nx l (v :: s) h z c n
/-- into the place j + 1, which holds no second half -/
noncomputable def o_ist (j : Nat) : Op := fun nx _ _ l s h z c n => e_pI s fun x s => e_nth l j fun v => e_if (e_one v) (e_upd l (Nat.succ j) (.inl x) fun l => nx l s h z c n) none
noncomputable def o_ast (j : Nat) : Op := fun nx _ _ l s h z c n => e_pR s fun x s => e_nth l j fun v => e_if (e_one v) (e_upd l (Nat.succ j) (.inr (.inl (Nat.succ x))) fun l => nx l s h z c n) none
/-- an exception that was caught -/
noncomputable def o_xst (j : Nat) : Op := fun nx _ _ l s h z c n => e_pV s fun x s => e_vS x fun t => e_if (Nat.beq t 1) (e_nth l j fun v => e_if (e_one v) (e_upd l (Nat.succ j) x fun l => nx l s h z c n) none) none
noncomputable def o_wst (isD : Bool) (j : Nat) : Op := fun nx _ _ l s h z c n => e_pV s fun x s => e_if (Bool.rec (motive := fun _ => Bool) true false (e_one x)) (Bool.rec (motive := fun _ => RR) (e_vL x fun _ => e_nth l j fun v => e_if (e_one v) (e_upd l (Nat.succ j) x fun l => e_upd l (Nat.succ (Nat.succ j)) (.inr (.inr (.inr (.inr (.inr 2))))) fun l => nx l s h z c n) none) (e_vD x fun _ => e_nth l j fun v => e_if (e_one v) (e_upd l (Nat.succ j) x fun l => e_upd l (Nat.succ (Nat.succ j)) (.inr (.inr (.inr (.inr (.inr 2))))) fun l => nx l s h z c n) none) isD) none
noncomputable def o_inc (i k : Nat) : Op := fun nx _ _ l s h z c n => e_nth l i fun v => e_vI v fun x => e_force (Nat.mod (Nat.add x k) 4294967296) fun y => e_upd l i (.inl y) fun l => nx l s h z c n
noncomputable def o_bin (f : Nat → Nat → Nat) : Op := fun nx _ _ l s h z c n => e_pI s fun b s => e_pI s fun a s => e_force (f a b) fun x => nx l (.inl x :: s) h z c n
noncomputable def o_un (f : Nat → Nat) : Op := fun nx _ _ l s h z c n => e_pI s fun a s => e_force (f a) fun x => nx l (.inl x :: s) h z c n
noncomputable def o_rem : Op := fun nx _ _ l s h z c n => e_pI s fun b s => e_pI s fun a s => e_if (Nat.ble 1 b) (e_if (Nat.ble b 2147483647) (e_if (Nat.ble a 2147483647) (e_force (Nat.mod a b) fun x => nx l (.inl x :: s) h z c n) none) none) none
noncomputable def o_shr : Op := fun nx _ _ l s h z c n => e_pI s fun b s => e_pI s fun a s => e_if (Nat.ble b 31) (e_if (Nat.ble a 2147483647) (e_force (Nat.div a (Nat.pow 2 b)) fun x => nx l (.inl x :: s) h z c n) none) none
noncomputable def o_dup : Op := fun nx _ _ l s h z c n => e_pV s fun v t => e_if (e_one v) (nx l (v :: v :: t) h z c n) none
noncomputable def o_pop : Op := fun nx _ _ l s h z c n => e_pV s fun v t => e_if (e_one v) (nx l t h z c n) none
noncomputable def o_dup2 : Op := fun nx _ _ l s h z c n => e_pV s fun v t => e_pV t fun w t => e_if (e_one v) (e_if (e_one w) (nx l (v :: w :: v :: w :: t) h z c n) none) none
noncomputable def o_go (t : Nat) : Op := fun _ jp _ l s h z c n => jp t l s h z c n
noncomputable def o_if (t : Nat) (p : Nat → Bool) : Op := fun nx jp _ l s h z c n => e_pI s fun a s => e_if (p a) (jp t l s h z c n) (nx l s h z c n)
noncomputable def o_if2 (t : Nat) (p : Nat → Nat → Bool) : Op := fun nx jp _ l s h z c n => e_pI s fun b s => e_pI s fun a s => e_if (p a b) (jp t l s h z c n) (nx l s h z c n)
noncomputable def o_sw (lo : Nat) (ts : List Nat) : Op := fun _ jp _ l s h z c n => e_pI s fun a s => e_if (Nat.ble lo a) (e_op (e_at ts (Nat.sub a lo)) fun t => jp t l s h z c n) none
noncomputable def o_get (ci k : Nat) : Op := fun nx _ _ l s h z c n => e_pR s fun a s => e_op (e_fld h a ci k) fun v => nx l (v :: s) h z c n
noncomputable def o_putI (ci k : Nat) : Op := fun nx _ _ l s h z c n => e_pI s fun x s => e_pR s fun a s => e_obj h a ci fun fs => e_upd fs k (.inl x) fun fs => e_hup h a (.inl (ci, fs)) fun h => nx l s h z c n
noncomputable def o_putZ (ci k : Nat) : Op := fun nx _ _ l s h z c n => e_pI s fun x s => e_if (Nat.ble x 1) (e_pR s fun a s => e_obj h a ci fun fs => e_upd fs k (.inl x) fun fs => e_hup h a (.inl (ci, fs)) fun h => nx l s h z c n) none
noncomputable def o_putR (ci k : Nat) : Op := fun nx _ _ l s h z c n => e_pR s fun x s => e_pR s fun a s => e_obj h a ci fun fs => e_upd fs k (.inr (.inl (Nat.succ x))) fun fs => e_hup h a (.inl (ci, fs)) fun h => nx l s h z c n
noncomputable def o_new (ci N : Nat) (fs : List AV) : Op := fun nx _ _ l s h z c n => e_happ h z (.inl (ci, fs)) fun h => e_force (Nat.succ z) fun z => e_force (Nat.succ c) fun c => e_force (Nat.add n N) fun n => nx l (.inr (.inl z) :: s) h z c n
noncomputable def o_newI : Op := fun nx _ _ l s h z c n => e_pI s fun k s => e_if (Nat.ble k 1000) (e_rep k fun xs => e_happ h z (.inr (.inl (k, xs))) fun h => e_force (Nat.succ z) fun z => e_force (Nat.succ c) fun c => e_force (Nat.add n k) fun n => nx l (.inr (.inl z) :: s) h z c n) none
noncomputable def o_newD : Op := fun nx _ _ l s h z c n => e_pI s fun k s => e_if (Nat.ble k 1000) (e_rep k fun xs => e_happ h z (.inr (.inr (k, xs))) fun h => e_force (Nat.succ z) fun z => e_force (Nat.succ c) fun c => e_force (Nat.add n k) fun n => nx l (.inr (.inl z) :: s) h z c n) none
noncomputable def o_alen : Op := fun nx _ _ l s h z c n => e_pR s fun a s => e_alen h a fun x => nx l (.inl x :: s) h z c n
noncomputable def o_iald : Op := fun nx _ _ l s h z c n => e_pI s fun i s => e_pR s fun a s => e_op (e_elI h a i) fun x => nx l (.inl x :: s) h z c n
noncomputable def o_iast : Op := fun nx _ _ l s h z c n => e_pI s fun x s => e_pI s fun i s => e_pR s fun a s => e_arrI h a fun m xs => e_upd xs i x fun xs => e_hup h a (.inr (.inl (m, xs))) fun h => nx l s h z c n
noncomputable def o_dald : Op := fun nx _ _ l s h z c n => e_pI s fun i s => e_pR s fun a s => e_op (e_elD h a i) fun x => nx l (.inr (.inr (.inr (.inl x))) :: s) h z c n
noncomputable def o_dast : Op := fun nx _ _ l s h z c n => e_pV s fun v s => e_vD v fun x => e_pI s fun i s => e_pR s fun a s => e_arrD h a fun m xs => e_upd xs i x fun xs => e_hup h a (.inr (.inr (m, xs))) fun h => nx l s h z c n
noncomputable def o_lbin (f : Nat → Nat → Nat) : Op := fun nx _ _ l s h z c n => e_pV s fun b s => e_vL b fun b => e_pV s fun a s => e_vL a fun a => e_force (f a b) fun x => nx l (.inr (.inr (.inl x)) :: s) h z c n
noncomputable def o_lcmp : Op := fun nx _ _ l s h z c n => e_pV s fun b s => e_vL b fun b => e_pV s fun a s => e_vL a fun a => e_if (Nat.beq a b) (nx l (.inl 0 :: s) h z c n) none
noncomputable def o_i2l : Op := fun nx _ _ l s h z c n => e_pI s fun a s => e_if (Nat.ble a 2147483647) (nx l (.inr (.inr (.inl a)) :: s) h z c n) none
noncomputable def o_i2d : Op := fun nx _ _ l s h z c n => e_pI s fun a s => e_force (Nat.mod (FP.Core.fromInt FP.Core.b64 (Bool.rec (motive := fun _ => Int) (Int.sub (Int.ofNat a) 4294967296) (Int.ofNat a) (Nat.ble a 2147483647))) 18446744073709551616) fun x => nx l (.inr (.inr (.inr (.inl x))) :: s) h z c n
noncomputable def o_i2f : Op := fun nx _ _ l s h z c n => e_pI s fun a s => e_force (Nat.mod (FP.Core.fromInt FP.Core.b32 (Bool.rec (motive := fun _ => Int) (Int.sub (Int.ofNat a) 4294967296) (Int.ofNat a) (Nat.ble a 2147483647))) 4294967296) fun x => nx l (.inr (.inr (.inr (.inr (.inl x)))) :: s) h z c n
noncomputable def o_dbin (f : Nat → Nat → Nat) : Op := fun nx _ _ l s h z c n => e_pV s fun b s => e_vD b fun b => e_pV s fun a s => e_vD a fun a => e_force (Nat.mod (f a b) 18446744073709551616) fun x => e_if (Nat.ble (Nat.land x 9223372036854775807) 9218868437227405312) (nx l (.inr (.inr (.inr (.inl x))) :: s) h z c n) none
noncomputable def o_fdiv : Op := fun nx _ _ l s h z c n => e_pV s fun b s => e_vF b fun b => e_pV s fun a s => e_vF a fun a => e_force (Nat.mod (FP.Core.div FP.Core.b32 a b) 4294967296) fun x => e_if (Nat.ble (Nat.land x 2147483647) 2139095040) (nx l (.inr (.inr (.inr (.inr (.inl x)))) :: s) h z c n) none
/-- two numbers that are one and no NaN -/
noncomputable def o_dcmp : Op := fun nx _ _ l s h z c n => e_pV s fun b s => e_vD b fun b => e_pV s fun a s => e_vD a fun a => e_if (Option.rec (motive := fun _ => Bool) false (fun o => Ordering.rec (motive := fun _ => Bool) false true false o) (FP.Core.cmp FP.Core.b64 a b)) (nx l (.inl 0 :: s) h z c n) none
noncomputable def o_fcmp : Op := fun nx _ _ l s h z c n => e_pV s fun b s => e_vF b fun b => e_pV s fun a s => e_vF a fun a => e_if (Option.rec (motive := fun _ => Bool) false (fun o => Ordering.rec (motive := fun _ => Bool) false true false o) (FP.Core.cmp FP.Core.b32 a b)) (nx l (.inl 0 :: s) h z c n) none
/-- a call's end -/
noncomputable def e_back (r : RR) (kr : Option AV → AH → Nat → Nat → Nat → RR) (kx : Nat → AH → Nat → Nat → Nat → RR) : RR := Option.rec (motive := fun _ => RR) none (fun r => Prod.rec (motive := fun _ => RR) (fun o r => Prod.rec (motive := fun _ => RR) (fun h r => Prod.rec (motive := fun _ => RR) (fun z r => Prod.rec (motive := fun _ => RR) (fun c n => Sum.rec (motive := fun _ => RR) (fun w => Sum.rec (motive := fun _ => RR) (fun v => kr v h z c n) (fun e => kx e h z c n) w) (fun _ => none) o) r) r) r) r) r
theorem e_back_inv {q : RR} {kr : Option AV → AH → Nat → Nat → Nat → RR} {kx : Nat → AH → Nat → Nat → Nat → RR} {r : Rs} (hh : e_back q kr kx = some r) : (∃ v h z c n, q = some (.inl (.inl v), h, z, c, n) ∧ kr v h z c n = some r) ∨ (∃ e h z c n, q = some (.inl (.inr e), h, z, c, n) ∧ kx e h z c n = some r) := by
  rcases q with _ | ⟨o, h, z, c, n⟩
  · exact no_none hh
  · rcases o with (v | e) | _
    · exact Or.inl ⟨v, h, z, c, n, rfl, hh⟩
    · exact Or.inr ⟨e, h, z, c, n, rfl, hh⟩
    · exact no_none hh
noncomputable def e_push (v : Option AV) (s : List AV) : List AV := Option.rec (motive := fun _ => List AV) s (fun v => v :: s) v
/-- a call of the method y with k arguments, the receiver among them, of the kind ci -/
noncomputable def o_invV (y k ci : Nat) : Op := fun nx _ cal l s h z c n => e_take k s [] fun as s => e_if (Nat.ble (e_wt s) 8) (e_pR as fun a _ => e_obj h a ci fun _ => e_back (cal y as h z) (fun v h z c2 n2 => e_force (Nat.add c c2) fun c => e_force (Nat.add n n2) fun n => nx l (e_push v s) h z c n) (fun e h z c2 n2 => some (.inl (.inr e), h, z, Nat.add c c2, Nat.add n n2))) none
/-- .. of a constructor or a static method -/
noncomputable def o_invS (y k : Nat) : Op := fun nx _ cal l s h z c n => e_take k s [] fun as s => e_if (Nat.ble (e_wt s) 8) (e_back (cal y as h z) (fun v h z c2 n2 => e_force (Nat.add c c2) fun c => e_force (Nat.add n n2) fun n => nx l (e_push v s) h z c n) (fun e h z c2 n2 => some (.inl (.inr e), h, z, Nat.add c c2, Nat.add n n2))) none
noncomputable def o_invI (y k : Nat) : Op := fun nx _ cal l s h z c n => e_take k s [] fun as s => e_if (Nat.ble (e_wt s) 8) (e_pR as fun _ _ => e_back (cal y as h z) (fun v h z c2 n2 => e_force (Nat.add c c2) fun c => e_force (Nat.add n n2) fun n => nx l (e_push v s) h z c n) (fun e h z c2 n2 => some (.inl (.inr e), h, z, Nat.add c c2, Nat.add n n2))) none
/-- .. where what it throws is caught: the places of the handlers, by exceptions -/
noncomputable def e_asc (hs : List (Nat × Nat)) (e : Nat) (k : Nat → RR) : RR := List.rec (motive := fun _ => RR) none (fun q _ ih => Prod.rec (motive := fun _ => RR) (fun a t => e_if (Nat.beq a e) (k t) ih) q) hs
theorem e_asc_inv {hs : List (Nat × Nat)} {e : Nat} {k : Nat → RR} {r : Rs} (h : e_asc hs e k = some r) : ∃ t, (e, t) ∈ hs ∧ k t = some r := by
  induction hs with
  | nil => exact no_none h
  | cons q l ih =>
    obtain ⟨a, t⟩ := q
    rcases e_if_inv (show e_if (Nat.beq a e) (k t) (e_asc l e k) = some r from h) with ⟨h1, h2⟩ | ⟨-, h2⟩
    · have := Nat.eq_of_beq_eq_true h1
      subst this
      exact ⟨t, List.mem_cons_self, h2⟩
    · obtain ⟨t', h3, h4⟩ := ih h2
      exact ⟨t', List.mem_cons_of_mem _ h3, h4⟩
noncomputable def o_invX (y k ci : Nat) (hs : List (Nat × Nat)) : Op := fun nx jp cal l s h z c n => e_take k s [] fun as s => e_if (Nat.ble (e_wt s) 8) (e_pR as fun a _ => e_obj h a ci fun _ => e_back (cal y as h z) (fun v h z c2 n2 => e_force (Nat.add c c2) fun c => e_force (Nat.add n n2) fun n => nx l (e_push v s) h z c n) (fun e h z c2 n2 => e_asc hs e fun t => e_force (Nat.add c c2) fun c => e_force (Nat.add n n2) fun n => jp t l [.inr (.inr (.inr (.inr (.inr 1))))] h z c n)) none
noncomputable def o_oinit : Op := fun nx _ _ l s h z c n => e_pR s fun _ s => e_if (Nat.ble (e_wt s) 8) (nx l s h z c n) none
noncomputable def o_thr (e : Nat) : Op := fun _ _ _ _ s h z c n => e_if (Nat.ble (e_wt s) 8) (some (.inl (.inr e), h, z, Nat.succ c, Nat.add n 6)) none
noncomputable def o_iret : Op := fun _ _ _ _ s h z c n => e_pI s fun x t => e_nil t (some (.inl (.inl (some (.inl x))), h, z, c, n))
noncomputable def o_bret (m : Nat) : Op := fun _ _ _ _ s h z c n => e_pI s fun x t => e_if (Nat.ble x m) (e_nil t (some (.inl (.inl (some (.inl x))), h, z, c, n))) none
noncomputable def o_aret : Op := fun _ _ _ _ s h z c n => e_pR s fun x t => e_nil t (some (.inl (.inl (some (.inr (.inl (Nat.succ x))))), h, z, c, n))
noncomputable def o_lret : Op := fun _ _ _ _ s h z c n => e_pV s fun v t => e_vL v fun _ => e_nil t (some (.inl (.inl (some v)), h, z, c, n))
noncomputable def o_dret : Op := fun _ _ _ _ s h z c n => e_pV s fun v t => e_vD v fun _ => e_nil t (some (.inl (.inl (some v)), h, z, c, n))
noncomputable def o_fret : Op := fun _ _ _ _ s h z c n => e_pV s fun v t => e_vF v fun _ => e_nil t (some (.inl (.inl (some v)), h, z, c, n))
noncomputable def o_ret : Op := fun _ _ _ _ s h z c n => e_nil s (some (.inl (.inl none), h, z, c, n))
noncomputable def o_max : Op := fun nx _ _ l s h z c n => e_pI s fun b s => e_pI s fun a s => e_if (Nat.ble (e_wt s) 8) (e_if (Nat.ble (Nat.mod (Nat.add b 2147483648) 4294967296) (Nat.mod (Nat.add a 2147483648) 4294967296)) (nx l (.inl a :: s) h z c n) (nx l (.inl b :: s) h z c n)) none
/-- the script's int k -/
noncomputable def o_sat (k : Nat) : Op := fun nx _ _ l s h z c n => e_pI s fun i s => e_if (Nat.beq i k) (e_pV s fun v s => e_vS v fun x => e_if (Nat.beq x 0) (e_if (Nat.ble (e_wt s) 8) (nx l (.inr (.inr (.inr (.inr (.inr (Nat.add k 3))))) :: s) h z c n) none) none) none
/-- .. brought below m: it is v -/
noncomputable def o_some (k m v : Nat) : Op := fun nx _ _ l s h z c n => e_pI s fun i s => e_if (Nat.beq i m) (e_pV s fun w s => e_vS w fun x => e_if (Nat.beq x (Nat.add k 3)) (e_if (Nat.ble (e_wt s) 8) (nx l (.inl v :: s) h z c n) none) none) none
noncomputable def e_zero (xs : List Nat) : Bool := List.rec (motive := fun _ => Bool) true (fun x _ ih => Bool.rec (motive := fun _ => Bool) false ih (Nat.beq x 0)) xs
/-- 'isSolvedBackward' of a new object of values: true; its arrays hold L1 and L2 then -/
noncomputable def o_isb (L1 L2 : List Nat) (c2 n2 : Nat) : Op := fun nx _ _ l s h z c n => e_pR s fun a s => e_if (Nat.ble (e_wt s) 8) (e_obj h a 10 fun fs => e_pV fs fun v fs => e_vR v fun p => e_pV fs fun w fs => e_vR w fun q => e_pI fs fun x1 fs => e_pI fs fun x2 fs => e_pI fs fun x3 fs => e_pI fs fun x4 fs => e_pI fs fun x5 fs => e_pI fs fun x6 fs => e_nil fs (e_if (Nat.beq x1 7) (e_if (Nat.beq x2 7) (e_if (Nat.beq x3 0) (e_if (Nat.beq x4 0) (e_if (Nat.beq x5 50) (e_if (Nat.beq x6 30) (e_if (Bool.not (Nat.beq p q)) (e_arrD h p fun m xs => e_if (Nat.beq m 441) (e_if (e_zero xs) (e_arrD h q fun m ys => e_if (Nat.beq m 441) (e_if (e_zero ys) (e_hup h p (.inr (.inr (441, L1))) fun h => e_hup h q (.inr (.inr (441, L2))) fun h => e_force (Nat.add c c2) fun c => e_force (Nat.add n n2) fun n => nx l (.inl 1 :: s) h z c n) none) none) none) none) none) none) none) none) none) none) none)) none
/-! THE RUN -/
noncomputable def e_loop (code : List Op) (cal : Cal) (f : Nat) : List Op → Kt := Nat.rec (motive := fun _ => List Op → Kt) (fun pos l s h z c n => List.rec (motive := fun _ => RR) none (fun _ rest _ => some (.inr (rest.length, l, s), h, z, c, n)) pos) (fun _ ih pos l s h z c n => List.rec (motive := fun _ => RR) none (fun op rest _ => op (ih rest) (fun t => ih (e_drop code t)) cal l s h z c n) pos) f
noncomputable def e_fits {α : Type} (l : List α) (n : Nat) : Bool := List.rec (motive := fun _ => Nat → Bool) (fun n => Nat.beq n 0) (fun _ _ ih n => Nat.rec (motive := fun _ => Bool) false (fun m _ => ih m) n) l n
theorem e_fits_inv {α : Type} {l : List α} {n : Nat} (h : e_fits l n = true) : l.length = n := by
  induction l generalizing n with
  | nil => exact (Nat.eq_of_beq_eq_true h).symm
  | cons a t ih =>
    cases n with
    | zero => cases h
    | succ m => rw [List.length_cons, ih h]
/-- a method: its code, the variables beyond its arguments; its name, bytes, variables, what it answers, its table of handlers -/
abbrev En : Type := (List Op × List AV) × (MethodName × (ByteArray × (Nat × (Option FieldType × List (Nat × Nat × Nat × Nat)))))
noncomputable def e_exec (tab : List En) (d : Nat) : Cal := Nat.rec (motive := fun _ => Cal) (fun _ _ _ _ => none) (fun _ ih y as h z => Option.rec (motive := fun _ => RR) none (fun e => e_if (e_fits (e_locs as e.1.2) e.2.2.2.1) (e_loop e.1.1 ih 1000000 e.1.1 (e_locs as e.1.2) [] h z 0 0) none) (e_at tab y)) d
/-! the numbers -/
noncomputable def f_add (a b : Nat) : Nat := Nat.mod (Nat.add a b) 4294967296
noncomputable def f_sub (a b : Nat) : Nat := Nat.mod (Nat.add a (Nat.sub 4294967296 b)) 4294967296
noncomputable def f_mul (a b : Nat) : Nat := Nat.mod (Nat.mul a b) 4294967296
noncomputable def f_and (a b : Nat) : Nat := Nat.land a b
noncomputable def f_or (a b : Nat) : Nat := Nat.lor a b
noncomputable def f_shl (a b : Nat) : Nat := Nat.mod (Nat.mul a (Nat.pow 2 (Nat.mod b 32))) 4294967296
noncomputable def f_shr (a b : Nat) : Nat := Bool.rec (motive := fun _ => Nat) (Nat.sub 4294967295 (Nat.div (Nat.sub 4294967295 a) (Nat.pow 2 (Nat.mod b 32)))) (Nat.div a (Nat.pow 2 (Nat.mod b 32))) (Nat.ble a 2147483647)
noncomputable def f_neg (a : Nat) : Nat := Nat.mod (Nat.sub 4294967296 a) 4294967296
noncomputable def f_char (a : Nat) : Nat := Nat.mod a 65536
noncomputable def p_eq (a b : Nat) : Bool := Nat.beq a b
noncomputable def p_ne (a b : Nat) : Bool := Bool.not (Nat.beq a b)
noncomputable def p_le (a b : Nat) : Bool := Nat.ble (Nat.mod (Nat.add a 2147483648) 4294967296) (Nat.mod (Nat.add b 2147483648) 4294967296)
noncomputable def p_ge (a b : Nat) : Bool := Nat.ble (Nat.mod (Nat.add b 2147483648) 4294967296) (Nat.mod (Nat.add a 2147483648) 4294967296)
noncomputable def p_lt (a b : Nat) : Bool := Bool.not (Nat.ble (Nat.mod (Nat.add b 2147483648) 4294967296) (Nat.mod (Nat.add a 2147483648) 4294967296))
noncomputable def p_gt (a b : Nat) : Bool := Bool.not (Nat.ble (Nat.mod (Nat.add a 2147483648) 4294967296) (Nat.mod (Nat.add b 2147483648) 4294967296))
noncomputable def p_eq0 (a : Nat) : Bool := Nat.beq a 0
noncomputable def p_ne0 (a : Nat) : Bool := Bool.not (Nat.beq a 0)
noncomputable def p_lt0 (a : Nat) : Bool := Bool.not (Nat.ble a 2147483647)
noncomputable def p_ge0 (a : Nat) : Bool := Nat.ble a 2147483647
noncomputable def p_gt0 (a : Nat) : Bool := Bool.rec (motive := fun _ => Bool) (Nat.ble a 2147483647) false (Nat.beq a 0)
noncomputable def p_le0 (a : Nat) : Bool := Bool.rec (motive := fun _ => Bool) (Bool.not (Nat.ble a 2147483647)) true (Nat.beq a 0)
