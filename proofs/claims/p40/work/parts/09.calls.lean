/-! CALLS -/
theorem ev_warm {w : Cond} {s U : State} (hW : s.WarmedH U.vm) (g : ev_nk w = true) (h : va_Nw w s) : va_Nw w U := by
  cases w with
  | fieldLinkNest => exact va_Nw.warmF hW h
  | methodLinkNest => exact va_Nw.warmM hW h
  | declares => exact va_Nw.warmD hW h
  | castable => exact va_Nw.warmC hW h
  | _ => cases g
theorem Cy_call {Y : Yt} {s U : State} {H : Heap} {locs : List Loc} {A : Nat → Prop} (h : Cy Y s) (hA : ∀ q, A q → Y.2.2.2.2.1 q) (hS : va_S A s.heap H locs) (hU : U.heap = H) (hW : s.WarmedH U.vm) : Cy Y U := by
  obtain ⟨hK, hN, hc, z1, z2, hX, hb, hbA, hf⟩ := h
  have hk : ∀ a : Nat, a < s.heap.size → ¬ Y.2.2.2.2.1 a → H[a]? = s.heap[a]? := fun a h1 h2 => hS.2.1 a h1 (fun z => h2 (hA a z))
  subst hU
  exact ⟨va_K.moved hW.alike hK, fun w hw => ev_warm hW (List.mem_filter.mp hw).2 (hN w hw), fun q hq => (hc q hq).moved hW.alike, vx_Zq.moved hW.alike (z1.kept hk), vx_Zq.moved hW.alike (z2.kept hk), (hX.kept (hk _ hb hbA)).moved hW.alike, Nat.lt_of_lt_of_le hb hS.1, hbA, fun q hq => hf q (Nat.le_trans hS.1 hq)⟩
theorem Cy_calling {Y : Yt} {U : State} (h : Cy Y U) (g : JFrame) (mk : MethodId) (a : Array Value) : Cy Y (U.calling g mk a) := by
  obtain ⟨hK, hN, hc, z1, z2, hX, hb, hbA, hf⟩ := h
  have hvm : U.vm.Alike (U.calling g mk a).vm := Vm.Alike.refl U.vm
  exact ⟨va_K.moved hvm hK, fun w hw => va_Nw.same (u := U) (U := U.calling g mk a) (ev_on (List.mem_filter.mp hw).2) rfl (hN w hw), fun q hq => (hc q hq).moved hvm, vx_Zq.moved hvm z1, vx_Zq.moved hvm z2, hX.moved hvm, hb, hbA, hf⟩
abbrev Mi : Type := MethodName × (ByteArray × (Nat × (Option FieldType × List (Nat × Nat × Nat × Nat))))
def eW (q : Mi) : Cond := match q.2.2.2.2 with
  | [] => .code q.1 q.2.1 q.2.2.1 q.2.2.2.1
  | t :: l => .codeWith q.1 q.2.1 q.2.2.1 q.2.2.2.1 (t :: l)
def rmd (d c n : Nat) : Room := { frames := 10 + d, cells := c, slots := n, locals := 200 + 60 * d }
def aC (ρ : List Nat) (sz : Nat) : Nat → Prop := fun q => (∃ k : Nat, ρ[k]? = some q) ∨ sz ≤ q
def yMk (Y : Yt) (A : Nat → Prop) (ρ : List Nat) : Yt := (Y.1, (Y.2.1, (Y.2.2.1, (Y.2.2.2.1, (Y.2.2.2.2.1, (A, ρ))))))
def PF (Y : Yt) (sz : Nat) (h : AH) (z : Nat) (ws : va_W) (U : State) : Prop := U.heap.size = sz ∧ Cy Y U ∧ HR Y.1 Y.2.2.1 Y.2.2.2.1 h z Y.2.2.2.2.2.2 ws ∧ va_P Y.2.1 ev_cl ws U.heap ∧ va_D Y.2.2.2.2.2.1 ws ∧ (∀ q, Y.2.2.2.2.2.1 q → Y.2.2.2.2.1 q)
/-- what the evaluator says of a call is so of the machine's: with the depth d -/
def CalOK (l : Launch) (tab : List En) (d : Nat) (Y : Yt) (cal : Cal) : Prop := ∀ (y : Nat) (as : List AV) (h : AH) (z : Nat) (r : Rs) (en : En), tab[y]? = some en → cal y as h z = some r → (∃ o, r.1 = .inl o) → ∀ (ρ : List Nat) (ws : va_W) (sz : Nat) (Vs : List Value), vl Y.1 ρ as Vs →
  vx_Met l en.2.1 (eW en.2 :: ev_G) (rmd d r.2.2.2.1 r.2.2.2.2) (va_Pc Vs (PF (yMk Y (aC ρ sz) ρ) sz h z ws)) (Qc (yMk Y (aC ρ sz) ρ) r) (Xc (yMk Y (aC ρ sz) ρ) r) r.2.2.2.1 r.2.2.2.2 (aC ρ sz)
theorem PF_blind {Y : Yt} {sz : Nat} {h : AH} {z : Nat} {ws : va_W} {Vs : List Value} : FrameBlind (va_Pc Vs (PF Y sz h z ws)) := by
  intro a U g mk q
  obtain ⟨q0, q1, q2, q3, q4, q5, q6⟩ := q
  exact ⟨q0, q1, Cy_calling q2 g mk a, q3, q4, q5, q6⟩
section CALLS
variable {G : Gm} {nL : Nat} {Q : Rs → State → Prop} {nx : Kt} {jp : Nat → Kt} {cal : Cal} {cc : ByteArray} {own : String} {pc : Nat}
/-- the world's cells are the caller's own -/
theorem q_own {lv st : List AV} {h : AH} {z : Nat} {ρ : List Nat} {ws : va_W} {ls : Array Slot} {Vs : List Value} {H : Heap} {locs : List Loc} (w : Wk G cc nL own) (S : St G nL lv st h z ρ ws ls Vs H locs) : ∀ q, aC ρ H.size q → gA G q := by
  intro q hq
  rcases hq with ⟨k, hk⟩ | hq
  · obtain ⟨-, -, h3, -⟩ := S.2.2.1
    rw [← h3, List.getElem?_map] at hk
    cases hw : ws[k]? with
    | none => rw [hw] at hk; cases hk
    | some p =>
      rw [hw] at hk
      cases hk
      exact S.2.2.2.2.2.1.2 k p hw
  · exact w.fresh q (Nat.le_trans S.2.2.2.2.2.2.1 hq)
/-- the callee's start -/
theorem q_pre {lv st as : List AV} {h : AH} {z : Nat} {ρ : List Nat} {ws : va_W} {ls : Array Slot} {Vs As : List Value} {H : Heap} {locs : List Loc} (w : Wk G cc nL own) (S : St G nL lv st h z ρ ws ls Vs H locs) : ∀ U : State, U.heap = H → (gs G).WarmedH U.vm → va_Pc As (PF (yMk G.2.2 (aC ρ H.size) ρ) H.size h z ws) As.toArray U := by
  intro U hU hW
  refine ⟨rfl, by rw [hU], ?_, S.2.2.1, by rw [hU]; exact S.2.2.2.2.1, ⟨S.2.2.2.2.2.1.1, fun k p hk => Or.inl ⟨k, ?_⟩⟩, fun q hq => w.sub q (q_own w S q hq)⟩
  · have h1 := Cy_call w.cx w.sub S.2.2.2.2.2.2 hU hW
    exact h1
  · obtain ⟨-, -, h3, -⟩ := S.2.2.1
    show ρ[k]? = some p.1
    rw [← h3, List.getElem?_map, hk]
    rfl
/-- what a call brings back -/
theorem s_run {lv t : List AV} {h : AH} {z cn sn : Nat} {ρ : List Nat} {ws : va_W} {ls : Array Slot} {Vs0 T9 : List Value} {H : Heap} {locs : List Loc} {a : Array Value} {Q0 : State → Prop} {r2 : Rs} (w : Wk G cc nL own) (S : St G nL lv t h z ρ ws ls T9 H locs)
    (hrun : vx_Run (gp G) (gl G) (ge G) (gR G) (gs G) (gm G) (ga G) (gb G) (gk G) (gc G) H locs cn sn r2.2.2.2.1 r2.2.2.2.2 (F0 (gm G) pc ls Vs0) T9 (Qc (yMk G.2.2 (aC ρ H.size) ρ) r2 a) (Xc (yMk G.2.2 (aC ρ H.size) ρ) r2) (aC ρ H.size))
    (kr : ∀ (V : Option Value) (ρ' : List Nat) (ws' : va_W) (H1 : Heap) (locs1 : List Loc), rvo (gX G) ρ' r2.1 V → St G nL lv t r2.2.1 r2.2.2.1 ρ' ws' ls T9 H1 locs1 → gW G H1 locs1 (cn + r2.2.2.2.1) (sn + r2.2.2.2.2) Q0 (F0 (gm G) (pc + 3) ls (V.toList ++ T9)))
    (kx : ∀ (e : Nat) (E : String) (q : Addr) (ce : Cell) (ρ' : List Nat) (ws' : va_W) (H1 : Heap) (locs1 : List Loc), r2.1 = .inl (.inr e) → ev_ex[e]? = some E → St G nL lv t r2.2.1 r2.2.2.1 ρ' ws' ls T9 H1 locs1 → H1[q]? = some ce → ce.vm = .none → (gs G).vm.findClass E = some ce.cls → vx_W (gp G) (gl G) (ge G) (gR G) (gs G) (gm G) (ga G) (gb G) (gk G) (gc G) H1 locs1 (cn + r2.2.2.2.1) (sn + r2.2.2.2.2) Q0 (F0 (gm G) pc ls T9) q) : gW G H locs cn sn Q0 (F0 (gm G) pc ls Vs0) := by
  have hown := q_own w S
  have hS := S.2.2.2.2.2.2
  intro T hT X
  rcases hrun T hT X with ⟨v, st₀, t2, T', L, h0, X', hL, e1, e2, hq, go⟩ | ⟨q, st₀, t2, T', L, E, ce, h0, X', hL, e1, e2, hx, hce, hcv, hcl, go⟩
  · obtain ⟨V, ρ', ws', hv, hrv, ⟨t', ht'⟩, hHR, hP, hD, hF⟩ := hq
    cases hv
    obtain ⟨k1, k2, k3⟩ := vx_keep h0 e1 hS (fun q _ h => hown q h) hown hL hF
    obtain ⟨t0, ht0⟩ := S.2.2.2.1
    have ht'2 : ρ' = ρ ++ t' := ht'
    subst ht'2
    obtain ⟨t3, a1, b1⟩ := kr v (ρ ++ t') ws' T'.heap (locs ++ L) hrv ⟨LR_more S.1, vl_more S.2.1, hHR, ⟨t0 ++ t', by rw [ht0, List.append_assoc]⟩, by rw [e1]; exact hP, hD.weaken (fun k p _ h => hown _ h), k3⟩ T' rfl X'
    exact ⟨t3, go t3 a1, b1⟩
  · obtain ⟨e, ρ', ws', hv, hE, ⟨t', ht'⟩, hHR, hP, hD, hF⟩ := hx
    obtain ⟨k1, k2, k3⟩ := vx_keep h0 e1 hS (fun q _ h => hown q h) hown hL hF
    obtain ⟨t0, ht0⟩ := S.2.2.2.1
    have ht'2 : ρ' = ρ ++ t' := ht'
    subst ht'2
    obtain ⟨t3, a1, b1⟩ := kx e E q ce (ρ ++ t') ws' T'.heap (locs ++ L) hv hE ⟨LR_more S.1, vl_more S.2.1, hHR, ⟨t0 ++ t', by rw [ht0, List.append_assoc]⟩, by rw [e1]; exact hP, hD.weaken (fun k p _ h => hown _ h), k3⟩ (by rw [e1]; exact hce) hcv hcl T' rfl X'
    exact ⟨t3, go.trans a1, b1⟩
/-- how an instruction at pc calls the method q with the arguments As -/
def Row (G : Gm) (nL pc d k : Nat) (q : Mi) (rok : Heap → List Value → Prop) : Prop := ∀ (Pc : Array Value → State → Prop) (Qa : Array Value → State → Outcome → State → Prop) (XC : String → State → State → Prop) (mc ms : Nat) (free : Nat → Prop) (As T9 : List Value) (H : Heap) (locs : List Loc) (cn sn : Nat) (ls : Array Slot), vx_Met (gl G) q.1 (eW q :: ev_G) (rmd d mc ms) Pc Qa XC mc ms free → FrameBlind Pc → (∀ U : State, U.heap = H → (gs G).WarmedH U.vm → Pc As.toArray U) → As.length = k → rok H As → ls.size = nL → (T9.map fun v => v.category).sum ≤ 8 → cn + mc ≤ (gR G).cells ∧ sn + ms ≤ (gR G).slots →
  vx_Run (gp G) (gl G) (ge G) (gR G) (gs G) (gm G) (ga G) (gb G) (gk G) (gc G) H locs cn sn mc ms (F0 (gm G) pc ls (As.reverse ++ T9)) T9 (Qa As.toArray) XC free
theorem ev_good : GoodIn ev_G ev_G := fun w h => ⟨h, good_of_word (List.mem_filter.mp h).2⟩
theorem ev_good2 {q : Mi} (h : eW q ∈ ev_G) : GoodIn ev_G (eW q :: ev_G) := fun w hw => (List.mem_cons.mp hw).elim (fun e => by rw [e]; exact ev_good _ h) (ev_good w)
def okV (G : Gm) (C : String) (H : Heap) (As : List Value) : Prop := ∃ (b : Nat) (Bs : List Value), As = .ref b :: Bs ∧ ∃ cell : Cell, H[b]? = some cell ∧ cell.vm.isStatics = false ∧ (gs G).vm.findClass C = some cell.cls
def okI (_ : Heap) (As : List Value) : Prop := ∃ (b : Nat) (Bs : List Value), As = .ref b :: Bs
theorem q_rev (b : Nat) (Bs T9 : List Value) : (Value.ref b :: Bs).reverse ++ T9 = Bs.reverse ++ .ref b :: T9 := by rw [List.reverse_cons, List.append_assoc]; rfl
theorem rowV {nm : MethodName} {bytes : ByteArray} {maxL k d ix : Nat} {ret : Option FieldType} (w : Wk G cc nL own) (h1 : Cond.methodLink own ix nm ∈ ev_G) (h2 : Cond.instanceMethod nm ∈ ev_G) (h3 : Cond.selects nm.cls nm nm ∈ ev_G) (h4 : Cond.initialized nm.cls ∈ ev_G) (h5 : Cond.code nm bytes maxL ret ∈ ev_G)
    (hd9 : nm.cls ≠ "java/lang/invoke/MethodHandle" ∧ nm.cls ≠ "java/lang/invoke/VarHandle" ∧ (parseMethodDescriptor nm.desc).map (fun d => d.parameters.length) = some k) (hR : 10 + d + 1 ≤ (gR G).frames ∧ 8 + (maxL + 11) + (200 + 60 * d) ≤ (gR G).locals) (hd : decode cc pc = .ok (.invokevirtual ix, 3)) : Row G nL pc d (k + 1) (nm, bytes, maxL, ret, []) (okV G nm.cls) := by
  intro Pc Qa XC mc ms free As T9 H locs cn sn ls hM hbl hpre hlen hok hsz hwt hroom
  obtain ⟨b, Bs, rfl, cell, g1, g2, g3⟩ := hok
  have hn : Bs.length = k := by simpa using hlen
  rw [q_rev]
  exact vx_runV (As := Bs) (b := b) (C := nm.cls) ⟨w.1, w.2.1, w.2.2.1, w.2.2.2.1, fun v h => w.use h⟩ hM ⟨callB_of k (fun v h => w.use h) (ev_good2 (q := (nm, bytes, maxL, ret, [])) h5) rfl rfl rfl (w.use h4) (w.use h1) hd9 hR, w.use h2, w.use h3⟩ ⟨hbl, ⟨cell, g1, g2, g3⟩, hpre⟩ rfl hn hsz rfl (by show 2 * 0 + _ ≤ 8; omega) hd hroom
theorem rowS {nm : MethodName} {bytes : ByteArray} {maxL k d ix : Nat} {ret : Option FieldType} (w : Wk G cc nL own) (h1 : Cond.methodLink own ix nm ∈ ev_G) (h2 : Cond.static nm ∈ ev_G) (h4 : Cond.initialized nm.cls ∈ ev_G) (h5 : Cond.code nm bytes maxL ret ∈ ev_G)
    (hd9 : nm.cls ≠ "java/lang/invoke/MethodHandle" ∧ nm.cls ≠ "java/lang/invoke/VarHandle" ∧ (parseMethodDescriptor nm.desc).map (fun d => d.parameters.length) = some k) (hR : 10 + d + 1 ≤ (gR G).frames ∧ 8 + (maxL + 11) + (200 + 60 * d) ≤ (gR G).locals) (hd : decode cc pc = .ok (.invokestatic ix, 3)) : Row G nL pc d k (nm, bytes, maxL, ret, []) (fun _ _ => True) := by
  intro Pc Qa XC mc ms free As T9 H locs cn sn ls hM hbl hpre hlen hok hsz hwt hroom
  exact vx_runS (As := As) ⟨w.1, w.2.1, w.2.2.1, w.2.2.2.1, fun v h => w.use h⟩ hM ⟨callB_of k (fun v h => w.use h) (ev_good2 (q := (nm, bytes, maxL, ret, [])) h5) rfl rfl rfl (w.use h4) (w.use h1) hd9 hR, w.use h2⟩ ⟨hbl, hpre⟩ rfl hlen hsz rfl (by show 2 * 0 + _ ≤ 8; omega) hd hroom
theorem rowSX {nm : MethodName} {bytes : ByteArray} {maxL k d ix : Nat} {ret : Option FieldType} {t9 : Nat × Nat × Nat × Nat} {l9 : List (Nat × Nat × Nat × Nat)} (w : Wk G cc nL own) (h1 : Cond.methodLink own ix nm ∈ ev_G) (h2 : Cond.static nm ∈ ev_G) (h4 : Cond.initialized nm.cls ∈ ev_G) (h5 : Cond.codeWith nm bytes maxL ret (t9 :: l9) ∈ ev_G)
    (hd9 : nm.cls ≠ "java/lang/invoke/MethodHandle" ∧ nm.cls ≠ "java/lang/invoke/VarHandle" ∧ (parseMethodDescriptor nm.desc).map (fun d => d.parameters.length) = some k) (hR : 10 + d + 1 ≤ (gR G).frames ∧ 8 + (maxL + 11) + (200 + 60 * d) ≤ (gR G).locals) (hd : decode cc pc = .ok (.invokestatic ix, 3)) : Row G nL pc d k (nm, bytes, maxL, ret, t9 :: l9) (fun _ _ => True) := by
  intro Pc Qa XC mc ms free As T9 H locs cn sn ls hM hbl hpre hlen hok hsz hwt hroom
  refine vx_runSX (hh := t9 :: l9) (As := As) ⟨w.1, w.2.1, w.2.2.1, w.2.2.2.1, fun v h => w.use h⟩ hM ⟨⟨rfl, rfl, hR.1, hR.2, pay_in (fun v h => w.use h) (ev_good2 (q := (nm, bytes, maxL, ret, t9 :: l9)) h5), List.mem_cons_self⟩, w.use h5, w.use h4, ⟨hd9.1, hd9.2.1⟩, fun sig h => ?_, w.use h1, w.use h2⟩ ⟨hbl, hpre⟩ rfl hlen hsz rfl (by show 2 * 0 + _ ≤ 8; omega) hd hroom
  have h9 := hd9.2.2
  rw [h] at h9
  exact (Option.some.inj h9).symm
theorem rowI {nm : MethodName} {bytes : ByteArray} {maxL k d ix : Nat} (w : Wk G cc nL own) (h1 : Cond.methodLink own ix nm ∈ ev_G) (h2 : Cond.instanceMethod nm ∈ ev_G) (h4 : Cond.initialized nm.cls ∈ ev_G) (h5 : Cond.code nm bytes maxL none ∈ ev_G) (h6 : nm.name = "<init>")
    (hd9 : nm.cls ≠ "java/lang/invoke/MethodHandle" ∧ nm.cls ≠ "java/lang/invoke/VarHandle" ∧ (parseMethodDescriptor nm.desc).map (fun d => d.parameters.length) = some k) (hR : 10 + d + 1 ≤ (gR G).frames ∧ 8 + (maxL + 11) + (200 + 60 * d) ≤ (gR G).locals) (hd : decode cc pc = .ok (.invokespecial ix, 3)) : Row G nL pc d (k + 1) (nm, bytes, maxL, none, []) okI := by
  intro Pc Qa XC mc ms free As T9 H locs cn sn ls hM hbl hpre hlen hok hsz hwt hroom
  obtain ⟨b, Bs, rfl⟩ := hok
  have hn : Bs.length = k := by simpa using hlen
  rw [q_rev]
  exact vx_runI (As := Bs) (b := b) ⟨w.1, w.2.1, w.2.2.1, w.2.2.2.1, fun v h => w.use h⟩ hM ⟨callB_of k (fun v h => w.use h) (ev_good2 (q := (nm, bytes, maxL, none, [])) h5) rfl rfl rfl (w.use h4) (w.use h1) hd9 hR, h6, w.use h2⟩ ⟨hbl, hpre⟩ rfl hn hsz rfl (by show 2 * 0 + _ ≤ 8; omega) hd hroom
theorem rowIN {nm : MethodName} {bytes : ByteArray} {maxL k d ix : Nat} {host : String} (w : Wk G cc nL own) (h1 : Cond.methodLinkNest own ix nm host ∈ ev_N) (h2 : Cond.instanceMethod nm ∈ ev_G) (h4 : Cond.initialized nm.cls ∈ ev_G) (h5 : Cond.code nm bytes maxL none ∈ ev_G) (h6 : nm.name = "<init>")
    (hd9 : nm.cls ≠ "java/lang/invoke/MethodHandle" ∧ nm.cls ≠ "java/lang/invoke/VarHandle" ∧ (parseMethodDescriptor nm.desc).map (fun d => d.parameters.length) = some k) (hR : 10 + d + 1 ≤ (gR G).frames ∧ 8 + (maxL + 11) + (200 + 60 * d) ≤ (gR G).locals) (hd : decode cc pc = .ok (.invokespecial ix, 3)) : Row G nL pc d (k + 1) (nm, bytes, maxL, none, []) okI := by
  intro Pc Qa XC mc ms free As T9 H locs cn sn ls hM hbl hpre hlen hok hsz hwt hroom
  obtain ⟨b, Bs, rfl⟩ := hok
  have hn : Bs.length = k := by simpa using hlen
  rw [q_rev]
  exact vx_runIN (host := host) (As := Bs) (b := b) ⟨w.1, w.2.1, w.2.2.1, w.2.2.2.1, fun v h => w.use h⟩ hM ⟨va_cnB k (fun v h => w.use h) (ev_good2 (q := (nm, bytes, maxL, none, [])) h5) rfl rfl rfl (w.cx.2.1 _ h1) (w.use h4) hd9 hR, h6, w.use h2⟩ ⟨hbl, hpre⟩ rfl hn hsz rfl (by show 2 * 0 + _ ≤ 8; omega) hd hroom
/-- a method without handlers: what is thrown in a call goes on -/
theorem q_thrown {lv t : List AV} {ρ : List Nat} {ws : va_W} {ls : Array Slot} {T9 : List Value} {H1 : Heap} {locs1 : List Loc} {e : Nat} {E : String} {q : Addr} {ce : Cell} {h : AH} {z cn sn : Nat} (w : Wk G cc nL own) (hT9 : ∀ x ∈ (gc G).exceptionTable.toList, False) (hE : ev_ex[e]? = some E) (S : St G nL lv t h z ρ ws ls T9 H1 locs1) (hce : H1[q]? = some ce) (hcv : ce.vm = .none) (hcl : (gs G).vm.findClass E = some ce.cls) :
    vx_W (gp G) (gl G) (ge G) (gR G) (gs G) (gm G) (ga G) (gb G) (gk G) (gc G) H1 locs1 cn sn (Qm G (.inl (.inr e), h, z, cn, sn)) (F0 (gm G) pc ls T9) q :=
  vx_out (Qc := Qc G.2.2 (.inl (.inr e), h, z, cn, sn)) (XC := Xc G.2.2 (.inl (.inr e), h, z, cn, sn)) (fun x hx => (hT9 x hx).elim) w.lk hce hcv hcl (fun t ht _ => ⟨e, ρ, ws, rfl, hE, S.2.2.2.1, S.2.2.1, by rw [ht]; exact S.2.2.2.2.1, S.2.2.2.2.2.1, S.2.2.2.2.2.2.F ht⟩) S.2.2.2.2.2.2.2.2 (Nat.le_refl _) (Nat.le_refl _)
theorem q_lsz {ρ : List Nat} {lv : List AV} {ls : Array Slot} (h : LR (gX G) ρ nL lv ls) : ls.size = nL := by
  obtain ⟨_, q, hq, _⟩ := h
  exact hq.1
/-- a call's arguments off the stack -/
theorem q_args {ρ : List Nat} {as t : List AV} {Vs : List Value} (h : vl (gX G) ρ (as.reverse ++ t) Vs) : ∃ As T9, Vs = As.reverse ++ T9 ∧ vl (gX G) ρ as As ∧ vl (gX G) ρ t T9 := by
  obtain ⟨A, T, rfl, h1, h2⟩ := vl_app h
  refine ⟨A.reverse, T, by rw [List.reverse_reverse], ?_, h2⟩
  have := vl_rev h1
  rwa [List.reverse_reverse] at this
theorem q_push {ρ : List Nat} {v : Option AV} {V : Option Value} {t : List AV} {T9 : List Value} (h : rvo (gX G) ρ (.inl (.inl v)) V) (h2 : vl (gX G) ρ t T9) : vl (gX G) ρ (e_push v t) (V.toList ++ T9) := by
  cases v with
  | none =>
    cases V with
    | none => exact h2
    | some V => exact h.elim
  | some v =>
    cases V with
    | none => exact h.elim
    | some V => exact ⟨h, h2⟩
/-- a call, its receiver looked at by 'chk' -/
theorem s_call {tab : List En} {y k d : Nat} {q : Mi} {rok : Heap → List Value → Prop} {as t : List AV} {lv : List AV} {h : AH} {z cn sn : Nat} {r : Rs} (w : Wk G cc nL own) (hT9 : ∀ x ∈ (gc G).exceptionTable.toList, False) (hcal : CalOK (gl G) tab d G.2.2 cal) (en : En) (hen : tab[y]? = some en) (he2 : en.2 = q) (row : Row G nL pc d k q rok) (kk : Snd G nL (Qm G) nx (pc + 3)) (hak : as.length = k) (hwt : e_wt t ≤ 8)
    (hchk : ∀ (ρ : List Nat) (ws : va_W) (ls : Array Slot) (Vs As : List Value) (H : Heap) (locs : List Loc), St G nL lv t h z ρ ws ls Vs H locs → vl (gX G) ρ as As → rok H As)
    (hr : e_back (cal y as h z) (fun v h z c2 n2 => e_force (Nat.add cn c2) fun c => e_force (Nat.add sn n2) fun n => nx lv (e_push v t) h z c n) (fun e h z c2 n2 => some (.inl (.inr e), h, z, Nat.add cn c2, Nat.add sn n2)) = some r) :
    (cn ≤ r.2.2.2.1 ∧ sn ≤ r.2.2.2.2) ∧ (r.2.2.2.1 ≤ (gR G).cells → r.2.2.2.2 ≤ (gR G).slots → ∀ (ρ : List Nat) (ws : va_W) (ls : Array Slot) (Vs : List Value) (H : Heap) (locs : List Loc), St G nL lv (as.reverse ++ t) h z ρ ws ls Vs H locs → gW G H locs cn sn (Qm G r) (F0 (gm G) pc ls Vs)) := by
  subst he2
  rcases e_back_inv hr with ⟨v, h', z', c2, n2, g1, g2⟩ | ⟨e, h', z', c2, n2, g1, g2⟩
  · rw [e_force_eq, e_force_eq] at g2
    obtain ⟨hm, hk⟩ := kk _ _ _ _ _ _ _ g2
    have hm1 : cn + c2 ≤ r.2.2.2.1 := hm.1
    have hm2 : sn + n2 ≤ r.2.2.2.2 := hm.2
    refine ⟨⟨by omega, by omega⟩, fun hcc hss ρ ws ls Vs H locs S => ?_⟩
    obtain ⟨As, T9, rfl, hA, hT⟩ := q_args S.2.1
    have S2 : St G nL lv t h z ρ ws ls T9 H locs := ⟨S.1, hT, S.2.2⟩
    refine s_run (r2 := (.inl (.inl v), h', z', c2, n2)) (a := As.toArray) w S2 (row _ _ _ _ _ _ As T9 H locs cn sn ls (hcal y as h z _ en hen g1 ⟨_, rfl⟩ ρ ws H.size As hA) PF_blind (q_pre (as := as) w S2) (by rw [vl_len hA]; exact hak) (hchk ρ ws ls T9 As H locs S2 hA) (q_lsz S.1) (by rw [vl_wt hT]; exact hwt) ⟨by show cn + c2 ≤ _; omega, by show sn + n2 ≤ _; omega⟩) (fun V ρ' ws' H1 locs1 hv S3 => ?_) (fun e E q ce ρ' ws' H1 locs1 hv => by cases hv)
    exact hk hcc hss ρ' ws' ls _ H1 locs1 ⟨S3.1, q_push hv S3.2.1, S3.2.2⟩
  · cases g2
    refine ⟨⟨Nat.le_add_right _ _, Nat.le_add_right _ _⟩, fun hcc hss ρ ws ls Vs H locs S => ?_⟩
    obtain ⟨As, T9, rfl, hA, hT⟩ := q_args S.2.1
    have S2 : St G nL lv t h z ρ ws ls T9 H locs := ⟨S.1, hT, S.2.2⟩
    refine s_run (r2 := (.inl (.inr e), h', z', c2, n2)) (a := As.toArray) w S2 (row _ _ _ _ _ _ As T9 H locs cn sn ls (hcal y as h z _ en hen g1 ⟨_, rfl⟩ ρ ws H.size As hA) PF_blind (q_pre (as := as) w S2) (by rw [vl_len hA]; exact hak) (hchk ρ ws ls T9 As H locs S2 hA) (q_lsz S.1) (by rw [vl_wt hT]; exact hwt) ⟨hcc, hss⟩) (fun V ρ' ws' H1 locs1 hv S3 => by cases V <;> exact hv.elim) (fun e9 E q ce ρ' ws' H1 locs1 hv hE S3 hce hcv hcl => ?_)
    cases hv
    exact q_thrown w hT9 hE S3 hce hcv hcl
theorem s_invS {tab : List En} {y k d : Nat} {q : Mi} (w : Wk G cc nL own) (hT9 : ∀ x ∈ (gc G).exceptionTable.toList, False) (hcal : CalOK (gl G) tab d G.2.2 cal) (en : En) (hen : tab[y]? = some en) (he2 : en.2 = q) (row : Row G nL pc d k q (fun _ _ => True)) (kk : Snd G nL (Qm G) nx (pc + 3)) : Snd G nL (Qm G) (o_invS y k nx jp cal) pc := by
  intro lv st h z cn sn r hr
  obtain ⟨as, t, rfl, h1, h2⟩ := e_take_inv hr
  obtain ⟨h3, h4⟩ := e_if_t h2
  rw [List.append_nil] at h4
  exact s_call w hT9 hcal en hen he2 row kk h1 (Nat.le_of_ble_eq_true h3) (fun _ _ _ _ _ _ _ _ _ => trivial) h4
theorem s_invI {tab : List En} {y k d : Nat} {q : Mi} (w : Wk G cc nL own) (hT9 : ∀ x ∈ (gc G).exceptionTable.toList, False) (hcal : CalOK (gl G) tab d G.2.2 cal) (en : En) (hen : tab[y]? = some en) (he2 : en.2 = q) (row : Row G nL pc d k q okI) (kk : Snd G nL (Qm G) nx (pc + 3)) : Snd G nL (Qm G) (o_invI y k nx jp cal) pc := by
  intro lv st h z cn sn r hr
  obtain ⟨as, t, rfl, h1, h2⟩ := e_take_inv hr
  obtain ⟨h3, h4⟩ := e_if_t h2
  rw [List.append_nil] at h4
  obtain ⟨m, as2, e9, h5⟩ := e_pR_inv h4
  refine s_call w hT9 hcal en hen he2 row kk h1 (Nat.le_of_ble_eq_true h3) (fun ρ ws ls Vs As H locs S hA => ?_) h5
  rw [e9] at hA
  obtain ⟨a, T, rfl, -, -⟩ := vl_ref hA
  exact ⟨a, T, rfl⟩
theorem q_recv {C : String} {T : u_T} {N ci m : Nat} {as as2 fs : List AV} {lv t : List AV} {h : AH} {z : Nat} {ρ : List Nat} {ws : va_W} {ls : Array Slot} {Vs As : List Value} {H : Heap} {locs : List Loc} (w : Wk G cc nL own) (hc : ev_cl[ci]? = some (C, T, N)) (e9 : as = .inr (.inl (m + 1)) :: as2) (h6 : e_cell h m = some (.inl (ci, fs))) (S : St G nL lv t h z ρ ws ls Vs H locs) (hA : vl (gX G) ρ as As) : okV G C H As := by
  rw [e9] at hA
  obtain ⟨a, T, rfl, ha, -⟩ := vl_ref hA
  obtain ⟨E, g1, Fs, rfl, -⟩ := HR_at S.2.2.1 h6 ha
  exact ⟨a, T, rfl, va_recv w.K S.2.2.2.2.1 hc g1⟩
theorem s_invV {tab : List En} {C : String} {T : u_T} {N ci : Nat} {y k d : Nat} {q : Mi} (w : Wk G cc nL own) (hT9 : ∀ x ∈ (gc G).exceptionTable.toList, False) (hcal : CalOK (gl G) tab d G.2.2 cal) (en : En) (hen : tab[y]? = some en) (he2 : en.2 = q) (hc : ev_cl[ci]? = some (C, T, N)) (row : Row G nL pc d k q (okV G C)) (kk : Snd G nL (Qm G) nx (pc + 3)) : Snd G nL (Qm G) (o_invV y k ci nx jp cal) pc := by
  intro lv st h z cn sn r hr
  obtain ⟨as, t, rfl, h1, h2⟩ := e_take_inv hr
  obtain ⟨h3, h4⟩ := e_if_t h2
  rw [List.append_nil] at h4
  obtain ⟨m, as2, e9, h5⟩ := e_pR_inv h4
  obtain ⟨fs, h6, h7⟩ := e_op_inv h5
  have h6 := e_kind_inv h6
  exact s_call w hT9 hcal en hen he2 row kk h1 (Nat.le_of_ble_eq_true h3) (fun ρ ws ls Vs As H locs S hA => q_recv w hc e9 h6 S hA) h7
/-- a call whose exceptions are caught -/
theorem s_invX {tab : List En} {C : String} {T : u_T} {N ci : Nat} {y k d : Nat} {q : Mi} {hs : List (Nat × Nat)} {P : Nat → Nat} (w : Wk G cc nL own) (hcal : CalOK (gl G) tab d G.2.2 cal) (en : En) (hen : tab[y]? = some en) (he2 : en.2 = q) (hc : ev_cl[ci]? = some (C, T, N)) (row : Row G nL pc d k q (okV G C))
    (hcat : ∀ (e t : Nat) (E : String), (e, t) ∈ hs → ev_ex[e]? = some E → ∀ (H1 : Heap) (locs1 : List Loc) (cn sn : Nat) (Q0 : State → Prop) (ls : Array Slot) (T9 : List Value) (q : Addr) (ce : Cell), H1[q]? = some ce → ce.vm = .none → (gs G).vm.findClass E = some ce.cls → gW G H1 locs1 cn sn Q0 (F0 (gm G) (P t) ls [.ref q]) → vx_W (gp G) (gl G) (ge G) (gR G) (gs G) (gm G) (ga G) (gb G) (gk G) (gc G) H1 locs1 cn sn Q0 (F0 (gm G) pc ls T9) q)
    (kj : ∀ t, Snd G nL (Qm G) (jp t) (P t)) (kk : Snd G nL (Qm G) nx (pc + 3)) : Snd G nL (Qm G) (o_invX y k ci hs nx jp cal) pc := by
  subst he2
  intro lv st h z cn sn r hr
  obtain ⟨as, t, rfl, h1, h2⟩ := e_take_inv hr
  obtain ⟨h3, h4⟩ := e_if_t h2
  rw [List.append_nil] at h4
  obtain ⟨m, as2, e9, h5⟩ := e_pR_inv h4
  obtain ⟨fs, h6, h7⟩ := e_op_inv h5
  have h6 := e_kind_inv h6
  have hwt := Nat.le_of_ble_eq_true h3
  rcases e_back_inv h7 with ⟨v, h', z', c2, n2, g1, g2⟩ | ⟨e, h', z', c2, n2, g1, g2⟩
  · rw [e_force_eq, e_force_eq] at g2
    obtain ⟨hm, hk⟩ := kk _ _ _ _ _ _ _ g2
    have hm1 : cn + c2 ≤ r.2.2.2.1 := hm.1
    have hm2 : sn + n2 ≤ r.2.2.2.2 := hm.2
    refine ⟨⟨by omega, by omega⟩, fun hcc hss ρ ws ls Vs H locs S => ?_⟩
    obtain ⟨As, T9, rfl, hA, hT⟩ := q_args S.2.1
    have S2 : St G nL lv t h z ρ ws ls T9 H locs := ⟨S.1, hT, S.2.2⟩
    refine s_run (r2 := (.inl (.inl v), h', z', c2, n2)) (a := As.toArray) w S2 (row _ _ _ _ _ _ As T9 H locs cn sn ls (hcal y as h z _ en hen g1 ⟨_, rfl⟩ ρ ws H.size As hA) PF_blind (q_pre (as := as) w S2) (by rw [vl_len hA]; exact h1) (q_recv w hc e9 h6 S2 hA) (q_lsz S.1) (by rw [vl_wt hT]; exact hwt) ⟨by show cn + c2 ≤ _; omega, by show sn + n2 ≤ _; omega⟩) (fun V ρ' ws' H1 locs1 hv S3 => ?_) (fun e E q ce ρ' ws' H1 locs1 hv => by cases hv)
    exact hk hcc hss ρ' ws' ls _ H1 locs1 ⟨S3.1, q_push hv S3.2.1, S3.2.2⟩
  · obtain ⟨tg, g3, g4⟩ := e_asc_inv g2
    rw [e_force_eq, e_force_eq] at g4
    obtain ⟨hm, hk⟩ := kj tg _ _ _ _ _ _ _ g4
    have hm1 : cn + c2 ≤ r.2.2.2.1 := hm.1
    have hm2 : sn + n2 ≤ r.2.2.2.2 := hm.2
    refine ⟨⟨by omega, by omega⟩, fun hcc hss ρ ws ls Vs H locs S => ?_⟩
    obtain ⟨As, T9, rfl, hA, hT⟩ := q_args S.2.1
    have S2 : St G nL lv t h z ρ ws ls T9 H locs := ⟨S.1, hT, S.2.2⟩
    refine s_run (r2 := (.inl (.inr e), h', z', c2, n2)) (a := As.toArray) w S2 (row _ _ _ _ _ _ As T9 H locs cn sn ls (hcal y as h z _ en hen g1 ⟨_, rfl⟩ ρ ws H.size As hA) PF_blind (q_pre (as := as) w S2) (by rw [vl_len hA]; exact h1) (q_recv w hc e9 h6 S2 hA) (q_lsz S.1) (by rw [vl_wt hT]; exact hwt) ⟨by show cn + c2 ≤ _; omega, by show sn + n2 ≤ _; omega⟩) (fun V ρ' ws' H1 locs1 hv S3 => by cases V <;> exact hv.elim) (fun e9 E q ce ρ' ws' H1 locs1 hv hE S3 hce hcv hcl => ?_)
    cases hv
    exact hcat e tg E g3 hE H1 locs1 _ _ _ ls T9 q ce hce hcv hcl (hk hcc hss ρ' ws' ls _ H1 locs1 ⟨S3.1, ⟨⟨q, rfl⟩, trivial⟩, S3.2.2⟩)
end CALLS
