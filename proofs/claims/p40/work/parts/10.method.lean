/-! A METHOD, OUT OF ITS INSTRUCTIONS -/
def OKs (G : Gm) (nL : Nat) (Q : Rs → State → Prop) (cal : Cal) (P : Nat → Nat) : Nat → List Op → Prop
  | _, [] => True
  | i, op :: t => (∀ (nx : Kt) (jp : Nat → Kt), Snd G nL Q nx (P (i + 1)) → (∀ t, Snd G nL Q (jp t) (P t)) → Snd G nL Q (op nx jp cal) (P i)) ∧ OKs G nL Q cal P (i + 1) t
theorem OKs_at {G : Gm} {nL : Nat} {Q : Rs → State → Prop} {cal : Cal} {P : Nat → Nat} {code : List Op} {i j : Nat} {op : Op} (h : OKs G nL Q cal P i code) (hj : code[j]? = some op) : ∀ (nx : Kt) (jp : Nat → Kt), Snd G nL Q nx (P (i + j + 1)) → (∀ t, Snd G nL Q (jp t) (P t)) → Snd G nL Q (op nx jp cal) (P (i + j)) := by
  induction code generalizing i j with
  | nil => simp at hj
  | cons o t ih =>
    cases j with
    | zero =>
      rw [List.getElem?_cons_zero] at hj
      cases hj
      exact h.1
    | succ j =>
      rw [List.getElem?_cons_succ] at hj
      have := ih h.2 hj
      rw [show i + (j + 1) = i + 1 + j by omega]
      exact this
/-- where the run stops for want of fuel -/
def SStp (G : Gm) (nL : Nat) (Q : Rs → State → Prop) (P : Nat → Nat) (n : Nat) : Prop := ∀ (i : Nat) (lv st : List AV) (h : AH) (z cn sn : Nat), i < n → cn ≤ (gR G).cells → sn ≤ (gR G).slots → ∀ (ρ : List Nat) (ws : va_W) (ls : Array Slot) (Vs : List Value) (H : Heap) (locs : List Loc), St G nL lv st h z ρ ws ls Vs H locs → gW G H locs cn sn (Q (.inr (n - i - 1, lv, st), h, z, cn, sn)) (F0 (gm G) (P i) ls Vs)
theorem loop_snd {G : Gm} {nL : Nat} {Q : Rs → State → Prop} {cal : Cal} {P : Nat → Nat} {code : List Op} (h : OKs G nL Q cal P 0 code) (hs : SStp G nL Q P code.length) : ∀ (f i : Nat), Snd G nL Q (e_loop code cal f (e_drop code i)) (P i) := by
  intro f
  induction f with
  | zero =>
    intro i lv st hh z cn sn r hr
    rw [e_drop_eq] at hr
    cases hp : code.drop i with
    | nil => rw [hp] at hr; exact no_none hr
    | cons op rest =>
      rw [hp] at hr
      have hr : some ((.inr (rest.length, lv, st), hh, z, cn, sn) : Rs) = some r := hr
      cases hr
      have hl := congrArg List.length hp
      rw [List.length_drop, List.length_cons] at hl
      have e : rest.length = code.length - i - 1 := by omega
      rw [e]
      exact ⟨⟨Nat.le_refl _, Nat.le_refl _⟩, fun hc hss ρ ws ls Vs H locs S => hs i lv st hh z cn sn (by omega) hc hss ρ ws ls Vs H locs S⟩
  | succ f ih =>
    intro i
    rw [e_drop_eq]
    cases hp : code.drop i with
    | nil => exact Snd_no (fun _ _ _ _ _ _ => rfl)
    | cons op rest =>
      have h1 : code[i]? = some op := by
        have := congrArg (fun l => l[0]?) hp
        simpa using this
      have h2 : rest = e_drop code (i + 1) := by
        rw [e_drop_eq, ← List.drop_drop, hp]
        rfl
      have h3 := OKs_at h h1 (e_loop code cal f rest) (fun t => e_loop code cal f (e_drop code t)) (by rw [h2, Nat.zero_add]; exact ih (i + 1)) (fun t => ih t)
      rw [Nat.zero_add] at h3
      exact h3
theorem SStp_Qm {G : Gm} {nL : Nat} {P : Nat → Nat} {n : Nat} : SStp G nL (Qm G) P n := fun _ _ _ _ _ _ _ _ _ _ _ _ _ _ _ _ _ => fun _ _ _ => ⟨_, Steps.refl _, trivial⟩
/-- what a method's entry in the table must say -/
def MethOK (tab : List En) (B9 : Nat) (en : En) : Prop := plainName en.2.1.cls = true ∧ (∀ v ∈ en.1.2, v = (.inr (.inr (.inr (.inr (.inr 2)))) : AV)) ∧ ∀ (d : Nat), B9 ≤ d → ∀ (G : Gm) (cal : Cal), Wk G en.2.2.1 en.2.2.2.1 en.2.1.cls → (gc G).exceptionTable.toList = tableOf en.2.2.2.2.2 → (gk G).name = en.2.1.name → (gk G).sig.returnType = en.2.2.2.2.1 → CalOK (gl G) tab d G.2.2 cal → 10 + d + 1 ≤ (gR G).frames → 260 + 60 * d ≤ (gR G).locals → ∃ P : Nat → Nat, P 0 = 0 ∧ OKs G en.2.2.2.1 (Qm G) cal P 0 en.1.1
/-- .. with the script given -/
def MethOKX (tab : List En) (B9 : Nat) (X : Nat × (Nat × (Nat → Int32))) (en : En) : Prop := plainName en.2.1.cls = true ∧ (∀ v ∈ en.1.2, v = (.inr (.inr (.inr (.inr (.inr 2)))) : AV)) ∧ ∀ (d : Nat), B9 ≤ d → ∀ (G : Gm) (cal : Cal), gX G = X → Wk G en.2.2.1 en.2.2.2.1 en.2.1.cls → (gc G).exceptionTable.toList = tableOf en.2.2.2.2.2 → (gk G).name = en.2.1.name → (gk G).sig.returnType = en.2.2.2.2.1 → CalOK (gl G) tab d G.2.2 cal → 10 + d + 1 ≤ (gR G).frames → 260 + 60 * d ≤ (gR G).locals → ∃ P : Nat → Nat, P 0 = 0 ∧ OKs G en.2.2.2.1 (Qm G) cal P 0 en.1.1
theorem MethOK.x {tab : List En} {B9 : Nat} {X : Nat × (Nat × (Nat → Int32))} {en : En} (h : MethOK tab B9 en) : MethOKX tab B9 X en := ⟨h.1, h.2.1, fun d hB G cal _ => h.2.2 d hB G cal⟩
theorem q_locs_len {X : Nat × (Nat × (Nat → Int32))} {ρ : List Nat} {as pad : List AV} {Vs : List Value} (h : vl X ρ as Vs) : (e_locs as pad).length = (lg_sl Vs).length + pad.length := by
  induction as generalizing Vs with
  | nil => rw [vl_nil h]; show pad.length = 0 + pad.length; omega
  | cons v as ih =>
    obtain ⟨V, T, rfl, hV, hT⟩ := vl_cons h
    have := ih hT
    show (Bool.rec (motive := fun _ => List AV) (v :: .inr (.inr (.inr (.inr (.inr 2)))) :: e_locs as pad) (v :: e_locs as pad) (e_one v)).length = _
    rw [show lg_sl (V :: T) = (if V.category = 2 then [.val V, .second] else [.val V]) ++ lg_sl T from rfl]
    cases ho : e_one v with
    | true =>
      rw [if_neg (by rw [rv_one hV ho]; decide)]
      simp only [List.length_append, List.length_cons, List.length_nil]
      omega
    | false =>
      rw [if_pos (rv_two hV ho)]
      simp only [List.length_append, List.length_cons, List.length_nil]
      omega
theorem q_locs_at {X : Nat × (Nat × (Nat → Int32))} {ρ : List Nat} {as pad : List AV} {Vs : List Value} (hp : ∀ v ∈ pad, v = (.inr (.inr (.inr (.inr (.inr 2)))) : AV)) (h : vl X ρ as Vs) (i : Nat) : ∀ (j : Nat) (v : AV), (e_locs as pad)[j]? = some v → v = .inr (.inr (.inr (.inr (.inr 2)))) ∨ ∃ V, (i + j, V) ∈ lv_args i Vs ∧ rv X ρ v V := by
  induction as generalizing Vs i with
  | nil => exact fun j v hj => Or.inl (hp v (List.mem_of_getElem? hj))
  | cons u as ih =>
    obtain ⟨U, T, rfl, hU, hT⟩ := vl_cons h
    intro j v hj
    have hj : (Bool.rec (motive := fun _ => List AV) (u :: .inr (.inr (.inr (.inr (.inr 2)))) :: e_locs as pad) (u :: e_locs as pad) (e_one u))[j]? = some v := hj
    cases ho : e_one u with
    | true =>
      rw [ho] at hj
      have hj : (u :: e_locs as pad)[j]? = some v := hj
      have e : lv_args i (U :: T) = (i, U) :: lv_args (i + 1) T := by
        show (i, U) :: lv_args (if U.category = 2 then i + 2 else i + 1) T = _
        rw [if_neg (by rw [rv_one hU ho]; decide)]
      rw [e]
      cases j with
      | zero =>
        rw [List.getElem?_cons_zero] at hj
        cases hj
        exact Or.inr ⟨U, List.mem_cons_self, hU⟩
      | succ j =>
        rw [List.getElem?_cons_succ] at hj
        rcases ih hT (i + 1) j v hj with q | ⟨V, q1, q2⟩
        · exact Or.inl q
        · exact Or.inr ⟨V, List.mem_cons_of_mem _ (by rw [show i + (j + 1) = i + 1 + j by omega]; exact q1), q2⟩
    | false =>
      rw [ho] at hj
      have hj : (u :: .inr (.inr (.inr (.inr (.inr 2)))) :: e_locs as pad)[j]? = some v := hj
      have e : lv_args i (U :: T) = (i, U) :: lv_args (i + 2) T := by
        show (i, U) :: lv_args (if U.category = 2 then i + 2 else i + 1) T = _
        rw [if_pos (rv_two hU ho)]
      rw [e]
      rcases j with _ | _ | j
      · rw [List.getElem?_cons_zero] at hj
        cases hj
        exact Or.inr ⟨U, List.mem_cons_self, hU⟩
      · rw [List.getElem?_cons_succ, List.getElem?_cons_zero] at hj
        cases hj
        exact Or.inl rfl
      · rw [List.getElem?_cons_succ, List.getElem?_cons_succ] at hj
        rcases ih hT (i + 2) j v hj with q | ⟨V, q1, q2⟩
        · exact Or.inl q
        · exact Or.inr ⟨V, List.mem_cons_of_mem _ (by rw [show i + (j + 1 + 1) = i + 2 + j by omega]; exact q1), q2⟩
/-- a method's body -/
theorem body_ok {tab : List En} {d B9 : Nat} {l : Launch} {Y : Yt} {cal : Cal} {en : En} {as : List AV} {h h' : AH} {z z' c' n' : Nat} {o : Option AV ⊕ Nat} {ρ : List Nat} {ws : va_W} {sz : Nat} {Vs : List Value} {wsC : List Cond}
    (hl : l.stackTraces = false) (hB9 : B9 ≤ d) (hm : MethOKX tab B9 Y.1 en) (hcal : CalOK l tab d (yMk Y (aC ρ sz) ρ) cal) (hV : vl Y.1 ρ as Vs) (hfit : (e_locs as en.1.2).length = en.2.2.2.1) (hr : e_loop en.1.1 cal 1000000 en.1.1 (e_locs as en.1.2) [] h z 0 0 = some (.inl o, h', z', c', n')) (hwsC : wsC = eW en.2 :: ev_G)
    {p : Program} {e : Env} {s : State} {m : MethodId} {args : Array Value} {below : List Frame} {meth : Method} {c : Code} {s₁ : State} (B : BodyLoose p l en.2.1 (headSpec wsC (rmd (d + 1) c' n')) en.2.2.1 en.2.2.2.1 en.2.2.2.2.1 e s m args below meth c s₁) (hml : c.maxLocals = en.2.2.2.1) (htb : c.exceptionTable.toList = tableOf en.2.2.2.2.2) (hv : va_Pc Vs (PF (yMk Y (aC ρ sz) ρ) sz h z ws) args s) :
    W p l e (rmd (d + 1) c' n') s m args below meth c s.heap [] 0 0 (vx_MQ below (Qc (yMk Y (aC ρ sz) ρ) (.inl o, h', z', c', n')) (Xc (yMk Y (aC ρ sz) ρ) (.inl o, h', z', c', n')) args s c' n' (aC ρ sz)) (entryFrame m args en.2.2.2.1) := by
  subst hwsC
  obtain ⟨rfl, hsz, hC, hH, hP, hD, hsub⟩ := hv
  let G : Gm := ((p, (l, (e, (rmd (d + 1) c' n', s)))), ((m, (Vs.toArray, (below, (meth, c)))), yMk Y (aC ρ sz) ρ))
  have hts := atoms_spec (ws := eW en.2 :: ev_G) B.pre
  have w : Wk G en.2.2.1 en.2.2.2.1 en.2.1.cls := ⟨B.exec, B.bytes, hml, findClass_of_methodNamed B.named, fun v hv => hts v (List.mem_cons_of_mem _ hv), B.notSynchronized, hC, hsub, fun q hq => Or.inr (by rw [← hsz]; exact hq), hl, by show 10 ≤ 10 + (d + 1); omega, by show 200 ≤ 200 + 60 * (d + 1); omega⟩
  obtain ⟨-, hpad, hm3⟩ := hm
  obtain ⟨P, hP0, hOK⟩ := hm3 d hB9 G cal rfl w htb (name_of_methodNamed B.named B.method).1 B.returns hcal (by show 10 + d + 1 ≤ 10 + (d + 1); omega) (by show 260 + 60 * d ≤ 200 + 60 * (d + 1); omega)
  have h1 := loop_snd hOK SStp_Qm 1000000 0
  rw [hP0, e_drop_eq, List.drop_zero] at h1
  have hlen : (lg_sl Vs).length ≤ en.2.2.2.1 := by
    rw [← hfit, q_locs_len hV]
    omega
  have hent := lv_entry Vs (n := en.2.2.2.1) hlen
  rw [lg_entry_eq]
  generalize (lg_sl Vs ++ List.replicate (en.2.2.2.1 - (lg_sl Vs).length) Slot.unset).toArray = ls at hent ⊢
  have h2 := (h1 _ _ _ _ _ _ _ hr).2 (Nat.le_refl _) (Nat.le_refl _) ρ ws ls [] s.heap [] ⟨⟨hfit, _, hent, fun j v hj => by
    have := q_locs_at hpad hV 0 j v hj
    rw [Nat.zero_add] at this
    exact this⟩, trivial, hH, ⟨[], (List.append_nil ρ).symm⟩, hP, hD, va_S.rf⟩
  exact h2
theorem exec_ok {tab : List En} {l : Launch} (hl : l.stackTraces = false) (B9 : Nat) (hm : ∀ en ∈ tab, MethOK tab B9 en) : ∀ (d : Nat) (Y : Yt), CalOK l tab (B9 + d) Y (e_exec tab d) := by
  intro d
  induction d with
  | zero => exact fun Y y as h z r en hen hr => no_none hr
  | succ d ih =>
    intro Y y as h z r en hen hr ho ρ ws sz Vs hV
    have hr : Option.rec (motive := fun _ => RR) none (fun e => e_if (e_fits (e_locs as e.1.2) e.2.2.2.1) (e_loop e.1.1 (e_exec tab d) 1000000 e.1.1 (e_locs as e.1.2) [] h z 0 0) none) (e_at tab y) = some r := hr
    rw [e_at_eq, hen] at hr
    obtain ⟨hf, hr⟩ := e_if_t (show e_if (e_fits (e_locs as en.1.2) en.2.2.2.1) (e_loop en.1.1 (e_exec tab d) 1000000 en.1.1 (e_locs as en.1.2) [] h z 0 0) none = some r from hr)
    have hf := e_fits_inv hf
    obtain ⟨o, ho⟩ := ho
    obtain ⟨o1, h', z', c', n'⟩ := r
    have ho : o1 = .inl o := ho
    subst ho
    have hmen := hm en (List.mem_of_getElem? hen)
    have hcal := ih (yMk Y (aC ρ sz) ρ)
    obtain ⟨⟨code, pad⟩, nm, bytes, maxL, ret, hh⟩ := en
    cases hh with
    | nil =>
      refine vx_ofW (ws' := ev_G) (cc := bytes) (maxL := maxL) (ret := ret) hmen.1 rfl (fun p e s m args below meth c s₁ B hml ht hv => ?_)
      refine body_ok hl (Nat.le_add_right B9 d) hmen.x hcal hV hf hr rfl B hml ?_ hv
      cases hq : c.exceptionTable.toList with
      | nil => rfl
      | cons x t => exact (ht x (by rw [hq]; exact List.mem_cons_self)).elim
    | cons t9 l9 =>
      refine vx_ofWH (hh := t9 :: l9) (ws' := ev_G) (cc := bytes) (maxL := maxL) (ret := ret) hmen.1 rfl (fun p e s m args below meth c s₁ B hml hv => ?_)
      exact body_ok hl (Nat.le_add_right B9 d) hmen.x hcal hV hf hr rfl B hml (vx_table (x := nm) B (atoms_spec (ws := _) B.pre _ List.mem_cons_self)) hv
/-- one method's contract, its calls being 'cal' -/
theorem met_en {tab : List En} {d B9 : Nat} {l : Launch} {Y : Yt} {cal : Cal} {en : En} {as : List AV} {h h' : AH} {z z' c' n' : Nat} {o : Option AV ⊕ Nat} (hl : l.stackTraces = false) (hB9 : B9 ≤ d) (hm : MethOKX tab B9 Y.1 en) (hh : en.2.2.2.2.2 = []) (hcal : ∀ ρ sz, CalOK l tab d (yMk Y (aC ρ sz) ρ) cal) (hfit : (e_locs as en.1.2).length = en.2.2.2.1) (hr : e_loop en.1.1 cal 1000000 en.1.1 (e_locs as en.1.2) [] h z 0 0 = some (.inl o, h', z', c', n')) (ρ : List Nat) (ws : va_W) (sz : Nat) (Vs : List Value) (hV : vl Y.1 ρ as Vs) :
    vx_Met l en.2.1 (eW en.2 :: ev_G) (rmd (d + 1) c' n') (va_Pc Vs (PF (yMk Y (aC ρ sz) ρ) sz h z ws)) (Qc (yMk Y (aC ρ sz) ρ) (.inl o, h', z', c', n')) (Xc (yMk Y (aC ρ sz) ρ) (.inl o, h', z', c', n')) c' n' (aC ρ sz) := by
  obtain ⟨⟨code, pad⟩, nm, bytes, maxL, ret, hh9⟩ := en
  cases (show hh9 = [] from hh)
  refine vx_ofW (ws' := ev_G) (cc := bytes) (maxL := maxL) (ret := ret) hm.1 rfl (fun p e s m args below meth c s₁ B hml ht hv => ?_)
  refine body_ok hl hB9 hm (hcal ρ sz) hV hfit hr rfl B hml ?_ hv
  cases hq : c.exceptionTable.toList with
  | nil => rfl
  | cons x t => exact (ht x (by rw [hq]; exact List.mem_cons_self)).elim
