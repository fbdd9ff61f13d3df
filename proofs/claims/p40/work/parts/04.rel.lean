/-! WHAT THE EVALUATOR'S STATES MEAN OF THE MACHINE'S -/
abbrev ev_cl : List vw_C := [(RX0, TX0, 4), (RX1, TX1, 5), (RX2, TX2, 4), (RX3, TX3, 2), (RX4, TX4, 9), (RX5, TX5, 11), (RX6, TX6, 8), (RX7, TX7, 1), (RX8, TX8, 8), (RX9, TX9, 7), (RX10, TX10, 8), (RX11, TX11, 8)]
/-- the words that any tables keep -/
noncomputable def ev_G : List Cond := lw_tbl.filter goodWord
def ev_nk : Cond → Bool
  | .fieldLinkNest .. => true
  | .methodLinkNest .. => true
  | .declares .. => true
  | .castable .. => true
  | _ => false
/-- .. those that are moved by name -/
noncomputable def ev_N : List Cond := lw_tbl.filter ev_nk
/-- exceptions, and handlers that don't take them -/
def ev_nc : List (String × String) := [("java/lang/IllegalArgumentException", "java/lang/IndexOutOfBoundsException"), ("java/lang/IllegalStateException", "java/lang/IndexOutOfBoundsException"), ("java/lang/IllegalStateException", "java/lang/IllegalArgumentException"), ("java/lang/UnsupportedOperationException", "java/lang/IndexOutOfBoundsException"), ("java/lang/UnsupportedOperationException", "java/lang/IllegalArgumentException"), ("java/lang/UnsupportedOperationException", "java/lang/IllegalStateException"), ("java/util/NoSuchElementException", "java/lang/IndexOutOfBoundsException"), ("java/util/NoSuchElementException", "java/lang/IllegalArgumentException"), ("java/util/NoSuchElementException", "java/lang/IllegalStateException"), ("java/util/NoSuchElementException", "java/lang/UnsupportedOperationException")]
def ev_ex : List String := ["java/lang/IndexOutOfBoundsException", "java/lang/IllegalArgumentException", "java/lang/IllegalStateException", "java/lang/UnsupportedOperationException", "java/util/NoSuchElementException", "java/lang/ArithmeticException"]
/-- a walk: the machine's run, the method's invocation, the script and the world -/
abbrev Yt : Type := (Nat × (Nat × (Nat → Int32))) × (va_G × (ClassId × (ClassId × ((Nat → Prop) × ((Nat → Prop) × List Nat)))))
abbrev Gm : Type := (Program × (Launch × (Env × (Room × State)))) × ((MethodId × (Array Value × (List Frame × (Method × Code)))) × Yt)
abbrev gp (G : Gm) : Program := G.1.1
abbrev gl (G : Gm) : Launch := G.1.2.1
abbrev ge (G : Gm) : Env := G.1.2.2.1
abbrev gR (G : Gm) : Room := G.1.2.2.2.1
abbrev gs (G : Gm) : State := G.1.2.2.2.2
abbrev gm (G : Gm) : MethodId := G.2.1.1
abbrev ga (G : Gm) : Array Value := G.2.1.2.1
abbrev gb (G : Gm) : List Frame := G.2.1.2.2.1
abbrev gk (G : Gm) : Method := G.2.1.2.2.2.1
abbrev gc (G : Gm) : Code := G.2.1.2.2.2.2
/-- the script: its cell, its length, its ints -/
abbrev gX (G : Gm) : Nat × (Nat × (Nat → Int32)) := G.2.2.1
abbrev gD (G : Gm) : va_G := G.2.2.2.1
abbrev gAi (G : Gm) : ClassId := G.2.2.2.2.1
abbrev gAd (G : Gm) : ClassId := G.2.2.2.2.2.1
/-- the cells that the law makes; those that this method may change; the world's addresses at its entry -/
abbrev gA0 (G : Gm) : Nat → Prop := G.2.2.2.2.2.2.1
abbrev gA (G : Gm) : Nat → Prop := G.2.2.2.2.2.2.2.1
abbrev gr (G : Gm) : List Nat := G.2.2.2.2.2.2.2.2
abbrev gW (G : Gm) (H : Heap) (locs : List Loc) (cells slots : Nat) (Q : State → Prop) (g : JFrame) : Prop := W (gp G) (gl G) (ge G) (gR G) (gs G) (gm G) (ga G) (gb G) (gk G) (gc G) H locs cells slots Q g
def xAt (X : Nat × (Nat × (Nat → Int32))) (k : Nat) : Int32 := if k < X.2.1 then X.2.2 k else 0
def rv (X : Nat × (Nat × (Nat → Int32))) (ρ : List Nat) (v : AV) (V : Value) : Prop := match v with
  | .inl n => n < 4294967296 ∧ V = .int (nI n)
  | .inr (.inl 0) => V = .null
  | .inr (.inl (k + 1)) => ∃ a : Nat, ρ[k]? = some a ∧ V = .ref a
  | .inr (.inr (.inl n)) => n < 18446744073709551616 ∧ V = .long (lN n)
  | .inr (.inr (.inr (.inl n))) => n < 18446744073709551616 ∧ V = .double (UInt64.ofNat n)
  | .inr (.inr (.inr (.inr (.inl n)))) => n < 4294967296 ∧ V = .float (UInt32.ofNat n)
  | .inr (.inr (.inr (.inr (.inr 0)))) => V = .ref X.1
  | .inr (.inr (.inr (.inr (.inr 1)))) => ∃ a : Nat, V = .ref a
  | .inr (.inr (.inr (.inr (.inr 2)))) => False
  | .inr (.inr (.inr (.inr (.inr (k + 3))))) => V = .int (xAt X k)
def vl (X : Nat × (Nat × (Nat → Int32))) (ρ : List Nat) : List AV → List Value → Prop
  | [], [] => True
  | v :: t, V :: T => rv X ρ v V ∧ vl X ρ t T
  | _, _ => False
theorem vl_cons {X : Nat × (Nat × (Nat → Int32))} {ρ : List Nat} {v : AV} {t : List AV} {Vs : List Value} (h : vl X ρ (v :: t) Vs) : ∃ V T, Vs = V :: T ∧ rv X ρ v V ∧ vl X ρ t T := by
  cases Vs with
  | nil => exact absurd h (by simp [vl])
  | cons V T => exact ⟨V, T, rfl, h⟩
theorem vl_nil {X : Nat × (Nat × (Nat → Int32))} {ρ : List Nat} {Vs : List Value} (h : vl X ρ [] Vs) : Vs = [] := by
  cases Vs with
  | nil => rfl
  | cons V T => exact absurd h (by simp [vl])
theorem vl_int {X : Nat × (Nat × (Nat → Int32))} {ρ : List Nat} {n : Nat} {t : List AV} {Vs : List Value} (h : vl X ρ (.inl n :: t) Vs) : ∃ T, Vs = .int (nI n) :: T ∧ n < 4294967296 ∧ vl X ρ t T := by
  obtain ⟨V, T, rfl, ⟨h1, rfl⟩, h2⟩ := vl_cons h
  exact ⟨T, rfl, h1, h2⟩
theorem vl_ref {X : Nat × (Nat × (Nat → Int32))} {ρ : List Nat} {n : Nat} {t : List AV} {Vs : List Value} (h : vl X ρ (.inr (.inl (n + 1)) :: t) Vs) : ∃ a T, Vs = .ref a :: T ∧ ρ[n]? = some a ∧ vl X ρ t T := by
  obtain ⟨V, T, rfl, ⟨a, h1, rfl⟩, h2⟩ := vl_cons h
  exact ⟨a, T, rfl, h1, h2⟩
theorem vl_app {X : Nat × (Nat × (Nat → Int32))} {ρ : List Nat} {a t : List AV} {Vs : List Value} (h : vl X ρ (a ++ t) Vs) : ∃ A T, Vs = A ++ T ∧ vl X ρ a A ∧ vl X ρ t T := by
  induction a generalizing Vs with
  | nil => exact ⟨[], Vs, rfl, trivial, h⟩
  | cons v a ih =>
    obtain ⟨V, T, rfl, h1, h2⟩ := vl_cons (show vl X ρ (v :: (a ++ t)) Vs from h)
    obtain ⟨A, T2, rfl, h3, h4⟩ := ih h2
    exact ⟨V :: A, T2, rfl, ⟨h1, h3⟩, h4⟩
theorem vl_join {X : Nat × (Nat × (Nat → Int32))} {ρ : List Nat} {a t : List AV} {A T : List Value} (h1 : vl X ρ a A) (h2 : vl X ρ t T) : vl X ρ (a ++ t) (A ++ T) := by
  induction a generalizing A with
  | nil => rw [vl_nil h1]; exact h2
  | cons v a ih =>
    obtain ⟨V, B, rfl, h3, h4⟩ := vl_cons h1
    exact ⟨h3, ih h4⟩
theorem vl_rev {X : Nat × (Nat × (Nat → Int32))} {ρ : List Nat} {a : List AV} {A : List Value} (h : vl X ρ a A) : vl X ρ a.reverse A.reverse := by
  induction a generalizing A with
  | nil => rw [vl_nil h]; trivial
  | cons v a ih =>
    obtain ⟨V, B, rfl, h3, h4⟩ := vl_cons h
    rw [List.reverse_cons, List.reverse_cons]
    exact vl_join (ih h4) ⟨h3, trivial⟩
theorem vl_len {X : Nat × (Nat × (Nat → Int32))} {ρ : List Nat} {a : List AV} {A : List Value} (h : vl X ρ a A) : A.length = a.length := by
  induction a generalizing A with
  | nil => rw [vl_nil h]; rfl
  | cons v a ih =>
    obtain ⟨V, B, rfl, h3, h4⟩ := vl_cons h
    simp [ih h4]
theorem rv_more {X : Nat × (Nat × (Nat → Int32))} {ρ t : List Nat} {v : AV} {V : Value} (h : rv X ρ v V) : rv X (ρ ++ t) v V := by
  rcases v with n | (_ | k) | n | n | n | (_ | _ | _ | k)
  · exact h
  · exact h
  · obtain ⟨a, h1, h2⟩ := h
    exact ⟨a, by rw [List.getElem?_append_left (List.getElem?_eq_some_iff.mp h1).1]; exact h1, h2⟩
  · exact h
  · exact h
  · exact h
  · exact h
  · exact h
  · exact h
  · exact h
theorem vl_more {X : Nat × (Nat × (Nat → Int32))} {ρ t : List Nat} {a : List AV} {A : List Value} (h : vl X ρ a A) : vl X (ρ ++ t) a A := by
  induction a generalizing A with
  | nil => rw [vl_nil h]; trivial
  | cons v a ih =>
    obtain ⟨V, B, rfl, h3, h4⟩ := vl_cons h
    exact ⟨rv_more h3, ih h4⟩
theorem vl_at {X : Nat × (Nat × (Nat → Int32))} {ρ : List Nat} {a : List AV} {A : List Value} {k : Nat} {v : AV} (h : vl X ρ a A) (hk : a[k]? = some v) : ∃ V, A[k]? = some V ∧ rv X ρ v V := by
  induction a generalizing A k with
  | nil => simp at hk
  | cons u a ih =>
    obtain ⟨V, B, rfl, h3, h4⟩ := vl_cons h
    cases k with
    | zero =>
      rw [List.getElem?_cons_zero] at hk
      cases hk
      exact ⟨V, rfl, h3⟩
    | succ k =>
      rw [List.getElem?_cons_succ] at hk
      obtain ⟨W, h5, h6⟩ := ih h4 hk
      exact ⟨W, by rw [List.getElem?_cons_succ]; exact h5, h6⟩
theorem vl_set {X : Nat × (Nat × (Nat → Int32))} {ρ : List Nat} {a : List AV} {A : List Value} {k : Nat} {v : AV} {V : Value} (h : vl X ρ a A) (hv : rv X ρ v V) : vl X ρ (a.set k v) (A.set k V) := by
  induction a generalizing A k with
  | nil => rw [vl_nil h]; trivial
  | cons u a ih =>
    obtain ⟨U, B, rfl, h3, h4⟩ := vl_cons h
    cases k with
    | zero => exact ⟨hv, h4⟩
    | succ k => exact ⟨h3, ih h4⟩
/-- how wide a value is -/
theorem rv_one {X : Nat × (Nat × (Nat → Int32))} {ρ : List Nat} {v : AV} {V : Value} (h : rv X ρ v V) (h1 : e_one v = true) : V.category = 1 := by
  rcases v with n | (_ | k) | n | n | n | (_ | _ | _ | k)
  · rw [h.2]; rfl
  · rw [show V = .null from h]; rfl
  · obtain ⟨a, -, rfl⟩ := h; rfl
  · cases h1
  · cases h1
  · rw [h.2]; rfl
  · rw [show V = .ref X.1 from h]; rfl
  · obtain ⟨a, rfl⟩ := h; rfl
  · exact h.elim
  · rw [show V = .int (xAt X k) from h]; rfl
theorem rv_two {X : Nat × (Nat × (Nat → Int32))} {ρ : List Nat} {v : AV} {V : Value} (h : rv X ρ v V) (h1 : e_one v = false) : V.category = 2 := by
  rcases v with n | (_ | k) | n | n | n | (_ | _ | _ | k)
  · cases h1
  · cases h1
  · cases h1
  · rw [h.2]; rfl
  · rw [h.2]; rfl
  · cases h1
  · cases h1
  · cases h1
  · cases h1
  · cases h1
theorem vl_wt {X : Nat × (Nat × (Nat → Int32))} {ρ : List Nat} {a : List AV} {A : List Value} (h : vl X ρ a A) : (A.map fun v => v.category).sum = e_wt a := by
  induction a generalizing A with
  | nil => rw [vl_nil h]; rfl
  | cons v a ih =>
    obtain ⟨V, B, rfl, h3, h4⟩ := vl_cons h
    rw [List.map_cons, List.sum_cons, ih h4]
    show _ = Nat.add (Bool.rec 2 1 (e_one v)) (e_wt a)
    cases ho : e_one v with
    | true => rw [rv_one h3 ho]; rfl
    | false => rw [rv_two h3 ho]; rfl
/-! cells -/
def rc (X : Nat × (Nat × (Nat → Int32))) (ρ : List Nat) (cAi cAd : ClassId) (cl : AC) (E : va_E) : Prop := match cl with
  | .inl (ci, fs) => ∃ Fs, E = .inr (ci, Fs) ∧ vl X ρ fs Fs
  | .inr (.inl (n, ys)) => ∃ f : Nat → Int32, E = .inl (cAi, n, .inl f) ∧ n = ys.length ∧ n ≤ 1000 ∧ ∀ (j x : Nat), ys[j]? = some x → x < 4294967296 ∧ f j = nI x
  | .inr (.inr (n, ys)) => ∃ f : Nat → UInt64, E = .inl (cAd, n, .inr (.inr (.inr (.inl f)))) ∧ n = ys.length ∧ n ≤ 1000 ∧ ∀ (j x : Nat), ys[j]? = some x → x < 18446744073709551616 ∧ f j = UInt64.ofNat x
theorem rc_more {X : Nat × (Nat × (Nat → Int32))} {ρ t : List Nat} {cAi cAd : ClassId} {cl : AC} {E : va_E} (h : rc X ρ cAi cAd cl E) : rc X (ρ ++ t) cAi cAd cl E := by
  rcases cl with ⟨ci, fs⟩ | ⟨n, ys⟩ | ⟨n, ys⟩
  · obtain ⟨Fs, h1, h2⟩ := h
    exact ⟨Fs, h1, vl_more h2⟩
  · exact h
  · exact h
def HR (X : Nat × (Nat × (Nat → Int32))) (cAi cAd : ClassId) (h : AH) (z : Nat) (ρ : List Nat) (ws : va_W) : Prop := e_Wf h z ∧ ρ.length = z ∧ ws.map (fun q => q.1) = ρ ∧ ∀ (a : Nat) (cl : AC), e_cell h a = some cl → ∃ (ad : Nat) (E : va_E), ws[a]? = some (ad, E) ∧ rc X ρ cAi cAd cl E
theorem HR_adr {X : Nat × (Nat × (Nat → Int32))} {cAi cAd : ClassId} {h : AH} {z : Nat} {ρ : List Nat} {ws : va_W} (hr : HR X cAi cAd h z ρ ws) {a ad : Nat} {E : va_E} (hw : ws[a]? = some (ad, E)) : ρ[a]? = some ad := by
  obtain ⟨-, -, h3, -⟩ := hr
  rw [← h3, List.getElem?_map, hw]
  rfl
/-- a cell by the address that its place has -/
theorem HR_at {X : Nat × (Nat × (Nat → Int32))} {cAi cAd : ClassId} {h : AH} {z : Nat} {ρ : List Nat} {ws : va_W} (hr : HR X cAi cAd h z ρ ws) {a ad : Nat} {cl : AC} (hc : e_cell h a = some cl) (ha : ρ[a]? = some ad) : ∃ E : va_E, ws[a]? = some (ad, E) ∧ rc X ρ cAi cAd cl E := by
  obtain ⟨ad2, E, h1, h2⟩ := hr.2.2.2 a cl hc
  have h3 := HR_adr hr h1
  cases Option.some.inj (h3.symm.trans ha)
  exact ⟨E, h1, h2⟩
theorem HR_set {X : Nat × (Nat × (Nat → Int32))} {cAi cAd : ClassId} {h h' : AH} {z : Nat} {ρ : List Nat} {ws : va_W} (hr : HR X cAi cAd h z ρ ws) {a ad : Nat} {cl : AC} {E0 E : va_E} (hw : ws[a]? = some (ad, E0)) (h1 : e_Wf h' z) (h2 : e_cell h' a = some cl) (h3 : ∀ b, b ≠ a → e_cell h' b = e_cell h b) (h4 : rc X ρ cAi cAd cl E) : HR X cAi cAd h' z ρ (ws.set a (ad, E)) := by
  have hl := (List.getElem?_eq_some_iff.mp hw).1
  refine ⟨h1, hr.2.1, ?_, fun b cb hb => ?_⟩
  · rw [← hr.2.2.1]
    apply List.ext_getElem?
    intro i
    rw [List.getElem?_map, List.getElem?_map]
    by_cases hi : i = a
    · subst hi
      rw [List.getElem?_set_self hl, hw]
      rfl
    · rw [List.getElem?_set_ne (Ne.symm hi)]
  · by_cases hi : b = a
    · subst hi
      rw [h2] at hb
      cases hb
      exact ⟨ad, E, List.getElem?_set_self hl, h4⟩
    · rw [h3 b hi] at hb
      obtain ⟨ad2, E2, q1, q2⟩ := hr.2.2.2 b cb hb
      exact ⟨ad2, E2, by rw [List.getElem?_set_ne (Ne.symm hi)]; exact q1, q2⟩
theorem HR_push {X : Nat × (Nat × (Nat → Int32))} {cAi cAd : ClassId} {h h' : AH} {z : Nat} {ρ : List Nat} {ws : va_W} (hr : HR X cAi cAd h z ρ ws) {ad : Nat} {cl : AC} {E : va_E} (h1 : e_Wf h' (z + 1)) (h2 : e_cell h' z = some cl) (h3 : ∀ b, b ≠ z → e_cell h' b = e_cell h b) (h4 : rc X (ρ ++ [ad]) cAi cAd cl E) : HR X cAi cAd h' (z + 1) (ρ ++ [ad]) (ws ++ [(ad, E)]) := by
  obtain ⟨g1, g2, g3, g4⟩ := hr
  have hwl : ws.length = z := by rw [← g2, ← g3, List.length_map]
  refine ⟨h1, by rw [List.length_append, g2]; rfl, by rw [List.map_append, g3]; rfl, fun b cb hb => ?_⟩
  by_cases hi : b = z
  · subst hi
    rw [h2] at hb
    cases hb
    exact ⟨ad, E, by rw [List.getElem?_append_right (by omega), hwl, Nat.sub_self]; rfl, h4⟩
  · rw [h3 b hi] at hb
    obtain ⟨ad2, E2, q1, q2⟩ := g4 b cb hb
    exact ⟨ad2, E2, by rw [List.getElem?_append_left (List.getElem?_eq_some_iff.mp q1).1]; exact q1, rc_more q2⟩
/-! variables -/
def LR (X : Nat × (Nat × (Nat → Int32))) (ρ : List Nat) (nL : Nat) (lv : List AV) (ls : Array Slot) : Prop := lv.length = nL ∧ ∃ q : List (Nat × Value), lv_has ls nL q ∧ ∀ (j : Nat) (v : AV), lv[j]? = some v → v = .inr (.inr (.inr (.inr (.inr 2)))) ∨ ∃ V, (j, V) ∈ q ∧ rv X ρ v V
theorem LR_more {X : Nat × (Nat × (Nat → Int32))} {ρ t : List Nat} {nL : Nat} {lv : List AV} {ls : Array Slot} (h : LR X ρ nL lv ls) : LR X (ρ ++ t) nL lv ls := by
  obtain ⟨h1, q, h2, h3⟩ := h
  refine ⟨h1, q, h2, fun j v hj => ?_⟩
  rcases h3 j v hj with h | ⟨V, h4, h5⟩
  · exact Or.inl h
  · exact Or.inr ⟨V, h4, rv_more h5⟩
theorem LR_at {X : Nat × (Nat × (Nat → Int32))} {ρ : List Nat} {nL : Nat} {lv : List AV} {ls : Array Slot} (h : LR X ρ nL lv ls) {j : Nat} {v : AV} (hj : lv[j]? = some v) (hu : v ≠ .inr (.inr (.inr (.inr (.inr 2))))) : ∃ V, ls[j]? = some (.val V) ∧ rv X ρ v V := by
  obtain ⟨h1, q, h2, h3⟩ := h
  rcases h3 j v hj with h | ⟨V, h4, h5⟩
  · exact absurd h hu
  · exact ⟨V, h2.2.2 _ h4, h5⟩
/-- one slot is stored: what stood ahead of it was one slot wide -/
theorem LR_st1 {X : Nat × (Nat × (Nat → Int32))} {ρ : List Nat} {nL : Nat} {lv : List AV} {ls' : Array Slot} {i : Nat} {v : AV} {V : Value} {q : List (Nat × Value)} (h1 : lv.length = nL) (h3 : ∀ (j : Nat) (v : AV), lv[j]? = some v → v = .inr (.inr (.inr (.inr (.inr 2)))) ∨ ∃ V, (j, V) ∈ q ∧ rv X ρ v V)
    (hv : rv X ρ v V) (hp : ∀ (j : Nat) (u : AV) (U : Value), j + 1 = i → lv[j]? = some u → rv X ρ u U → U.category ≠ 2) (hl : lv_has ls' nL ((i, V) :: q.filter (fun q => !(q.1 == i) && !(q.1 + 1 == i && q.2.category == 2)))) : LR X ρ nL (lv.set i v) ls' := by
  refine ⟨by rw [List.length_set]; exact h1, _, hl, fun j u hj => ?_⟩
  rw [List.getElem?_set] at hj
  split at hj
  · rename_i e
    subst e
    split at hj
    · cases hj
      exact Or.inr ⟨V, List.mem_cons_self, hv⟩
    · cases hj
  · rename_i e
    rcases h3 j u hj with h | ⟨U, h4, h5⟩
    · exact Or.inl h
    · refine Or.inr ⟨U, List.mem_cons_of_mem _ (List.mem_filter.mpr ⟨h4, ?_⟩), h5⟩
      have e2 : (j == i) = false := by simp [Ne.symm e]
      have e3 : (j + 1 == i && U.category == 2) = false := by
        by_cases hji : j + 1 = i
        · have := hp j u U hji hj h5
          simp [this]
        · simp [hji]
      simp [e2, e3]
theorem LR_st2 {X : Nat × (Nat × (Nat → Int32))} {ρ : List Nat} {nL : Nat} {lv : List AV} {ls' : Array Slot} {i : Nat} {v : AV} {V : Value} {q : List (Nat × Value)} (h1 : lv.length = nL) (h3 : ∀ (j : Nat) (v : AV), lv[j]? = some v → v = .inr (.inr (.inr (.inr (.inr 2)))) ∨ ∃ V, (j, V) ∈ q ∧ rv X ρ v V)
    (hv : rv X ρ v V) (hp : ∀ (j : Nat) (u : AV) (U : Value), j + 1 = i → lv[j]? = some u → rv X ρ u U → U.category ≠ 2) (hl : lv_has ls' nL ((i, V) :: q.filter (fun q => !(q.1 == i) && (!(q.1 == i + 1) && !(q.1 + 1 == i && q.2.category == 2))))) : LR X ρ nL ((lv.set i v).set (i + 1) (.inr (.inr (.inr (.inr (.inr 2)))))) ls' := by
  refine ⟨by rw [List.length_set, List.length_set]; exact h1, _, hl, fun j u hj => ?_⟩
  rw [List.getElem?_set] at hj
  split at hj
  · split at hj
    · cases hj
      exact Or.inl rfl
    · cases hj
  · rename_i e0
    rw [List.getElem?_set] at hj
    split at hj
    · rename_i e
      subst e
      split at hj
      · cases hj
        exact Or.inr ⟨V, List.mem_cons_self, hv⟩
      · cases hj
    · rename_i e
      rcases h3 j u hj with h | ⟨U, h4, h5⟩
      · exact Or.inl h
      · refine Or.inr ⟨U, List.mem_cons_of_mem _ (List.mem_filter.mpr ⟨h4, ?_⟩), h5⟩
        have e2 : (j == i) = false := by simp [Ne.symm e]
        have e4 : (j == i + 1) = false := by simp [Ne.symm e0]
        have e3 : (j + 1 == i && U.category == 2) = false := by
          by_cases hji : j + 1 = i
          · have := hp j u U hji hj h5
            simp [this]
          · simp [hji]
        simp [e2, e3, e4]
/-! the walk's facts that stay -/
/-- what a state must have of the world: the classes, the words that are moved by name, the statics, the script -/
def Cy (Y : Yt) (U : State) : Prop := va_K Y.2.1 ev_cl [(Y.2.2.1, .int), (Y.2.2.2.1, .double)] U ∧ (∀ w ∈ ev_N, va_Nw w U) ∧ (∀ q ∈ ev_nc, va_Nc q.1 q.2 U) ∧ vx_Zq Bundle.tN "UNASSIGNED_STACK" Bundle.steD Y.2.2.2.2.1 U U.heap ∧ vx_Zq Bundle.tN "SUPPRESSED_SENTINEL" Bundle.listD Y.2.2.2.2.1 U U.heap ∧ va_X Y.1.1 Y.1.2.1 Y.1.2.2 U U.heap ∧ Y.1.1 < U.heap.size ∧ ¬ Y.2.2.2.2.1 Y.1.1 ∧ (∀ q, U.heap.size ≤ q → Y.2.2.2.2.1 q)
abbrev Cx (G : Gm) (U : State) : Prop := Cy G.2.2 U
def Wk (G : Gm) (cc : ByteArray) (nL : Nat) (own : String) : Prop := (gp G).tables.exec = Jvm.exec ∧ (gc G).code = cc ∧ (gc G).maxLocals = nL ∧ (gs G).vm.findClass own = some (gm G).cls ∧ (∀ w ∈ ev_G, w.before (ga G) (gs G) = true) ∧ (gk G).locks = false ∧ Cx G (gs G) ∧ (∀ q, gA G q → gA0 G q) ∧ (∀ q, (gs G).heap.size ≤ q → gA G q) ∧ (gl G).stackTraces = false ∧ 10 ≤ (gR G).frames ∧ 200 ≤ (gR G).locals
/-- the evaluator's state, and the machine's -/
def St (G : Gm) (nL : Nat) (lv st : List AV) (h : AH) (z : Nat) (ρ : List Nat) (ws : va_W) (ls : Array Slot) (Vs : List Value) (H : Heap) (locs : List Loc) : Prop := LR (gX G) ρ nL lv ls ∧ vl (gX G) ρ st Vs ∧ HR (gX G) (gAi G) (gAd G) h z ρ ws ∧ (∃ t, ρ = gr G ++ t) ∧ va_P (gD G) ev_cl ws H ∧ va_D (gA G) ws ∧ va_S (gA G) (gs G).heap H locs
/-- K, from pc on, says what the machine does -/
def Snd (G : Gm) (nL : Nat) (Q : Rs → State → Prop) (K : Kt) (pc : Nat) : Prop := ∀ (lv st : List AV) (h : AH) (z cn sn : Nat) (r : Rs), K lv st h z cn sn = some r → (cn ≤ r.2.2.2.1 ∧ sn ≤ r.2.2.2.2) ∧ (r.2.2.2.1 ≤ (gR G).cells → r.2.2.2.2 ≤ (gR G).slots → ∀ (ρ : List Nat) (ws : va_W) (ls : Array Slot) (Vs : List Value) (H : Heap) (locs : List Loc), St G nL lv st h z ρ ws ls Vs H locs → gW G H locs cn sn (Q r) (F0 (gm G) pc ls Vs))
theorem Snd_no {G : Gm} {nL : Nat} {Q : Rs → State → Prop} {K : Kt} {pc : Nat} (h : ∀ lv st h z cn sn, K lv st h z cn sn = none) : Snd G nL Q K pc := fun lv st hh z cn sn r hr => no_none ((h lv st hh z cn sn).symm.trans hr)
theorem Wk.lk {G : Gm} {cc : ByteArray} {nL : Nat} {own : String} (w : Wk G cc nL own) : (gk G).locks = false := w.2.2.2.2.2.1
theorem Wk.cx {G : Gm} {cc : ByteArray} {nL : Nat} {own : String} (w : Wk G cc nL own) : Cx G (gs G) := w.2.2.2.2.2.2.1
theorem Wk.K {G : Gm} {cc : ByteArray} {nL : Nat} {own : String} (w : Wk G cc nL own) : va_K (gD G) ev_cl [(gAi G, .int), (gAd G, .double)] (gs G) := w.cx.1
theorem Wk.sub {G : Gm} {cc : ByteArray} {nL : Nat} {own : String} (w : Wk G cc nL own) : ∀ q, gA G q → gA0 G q := w.2.2.2.2.2.2.2.1
theorem Wk.fresh {G : Gm} {cc : ByteArray} {nL : Nat} {own : String} (w : Wk G cc nL own) : ∀ q, (gs G).heap.size ≤ q → gA G q := w.2.2.2.2.2.2.2.2.1
theorem Wk.tr {G : Gm} {cc : ByteArray} {nL : Nat} {own : String} (w : Wk G cc nL own) : (gl G).stackTraces = false := w.2.2.2.2.2.2.2.2.2.1
theorem Wk.fr {G : Gm} {cc : ByteArray} {nL : Nat} {own : String} (w : Wk G cc nL own) : 10 ≤ (gR G).frames := w.2.2.2.2.2.2.2.2.2.2.1
theorem Wk.lo {G : Gm} {cc : ByteArray} {nL : Nat} {own : String} (w : Wk G cc nL own) : 200 ≤ (gR G).locals := w.2.2.2.2.2.2.2.2.2.2.2
theorem Wk.use {G : Gm} {cc : ByteArray} {nL : Nat} {own : String} (w : Wk G cc nL own) {v : Cond} (h : v ∈ ev_G) : v.before (ga G) (gs G) = true := w.2.2.2.2.1 v h
theorem ev_in {w : Cond} (h : w ∈ lw_tbl) (g : goodWord w = true) : w ∈ ev_G := List.mem_filter.mpr ⟨h, g⟩
theorem ev_inT {w : Cond} (i : Nat) (h : tables_1[i]? = some w) (g : goodWord w = true) : w ∈ ev_G := ev_in (List.mem_append_right _ (List.mem_of_getElem? h)) g
theorem ev_inN {w : Cond} (i : Nat) (h : tables_1[i]? = some w) (g : ev_nk w = true) : w ∈ ev_N := List.mem_filter.mpr ⟨List.mem_append_right _ (List.mem_of_getElem? h), g⟩
theorem ev_on {w : Cond} (g : ev_nk w = true) : w.onTables = true := by
  cases w <;> first | rfl | (cases g)
/-- any word that the tables keep, or that is moved by name -/
theorem Wk.any {G : Gm} {cc : ByteArray} {nL : Nat} {own : String} (w : Wk G cc nL own) {v : Cond} (h : v ∈ lw_tbl) (g : (goodWord v || ev_nk v) = true) : v.before (ga G) (gs G) = true := by
  cases hg : goodWord v with
  | true => exact w.use (ev_in h hg)
  | false =>
    rw [hg] at g
    have g : ev_nk v = true := g
    exact va_Nw.use (ev_on g) (w.cx.2.1 v (List.mem_filter.mpr ⟨h, g⟩))
