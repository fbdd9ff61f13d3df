/-! WHAT A METHOD'S RUN SAYS OF ITS END -/
def rvo (X : Nat × (Nat × (Nat → Int32))) (ρ : List Nat) (o : Ot) (V : Option Value) : Prop := match o, V with
  | .inl (.inl none), none => True
  | .inl (.inl (some v)), some V => rv X ρ v V
  | _, _ => False
def Qc (Y : Yt) (r : Rs) : Array Value → State → Outcome → State → Prop := fun _ st oc t => ∃ (V : Option Value) (ρ : List Nat) (ws : va_W), oc = .returned V ∧ rvo Y.1 ρ r.1 V ∧ (∃ t', ρ = Y.2.2.2.2.2.2 ++ t') ∧ HR Y.1 Y.2.2.1 Y.2.2.2.1 r.2.1 r.2.2.1 ρ ws ∧ va_P Y.2.1 ev_cl ws t.heap ∧ va_D Y.2.2.2.2.2.1 ws ∧ va_F Y.2.2.2.2.2.1 st t
def Xc (Y : Yt) (r : Rs) : String → State → State → Prop := fun E st t => ∃ (e : Nat) (ρ : List Nat) (ws : va_W), r.1 = .inl (.inr e) ∧ ev_ex[e]? = some E ∧ (∃ t', ρ = Y.2.2.2.2.2.2 ++ t') ∧ HR Y.1 Y.2.2.1 Y.2.2.2.1 r.2.1 r.2.2.1 ρ ws ∧ va_P Y.2.1 ev_cl ws t.heap ∧ va_D Y.2.2.2.2.2.1 ws ∧ va_F Y.2.2.2.2.2.1 st t
def Qm (G : Gm) (r : Rs) : State → Prop := match r.1 with
  | .inl _ => vx_MQ (gb G) (Qc G.2.2 r) (Xc G.2.2 r) (ga G) (gs G) r.2.2.2.1 r.2.2.2.2 (gA G)
  | .inr _ => fun _ => True
theorem q_end {G : Gm} {nL : Nat} {lv st : List AV} {h : AH} {z cn sn : Nat} {ρ : List Nat} {ws : va_W} {ls : Array Slot} {Vs : List Value} {H : Heap} {locs : List Loc} {o : Ot} {V : Option Value} (S : St G nL lv st h z ρ ws ls Vs H locs) (hV : rvo (gX G) ρ o V) (a : Array Value) : ∀ t : State, t.heap = H → (gs G).WarmedH t.vm → Qc G.2.2 (o, h, z, cn, sn) a (gs G) (.returned V) t :=
  fun t ht _ => ⟨V, ρ, ws, rfl, hV, S.2.2.2.1, S.2.2.1, by rw [ht]; exact S.2.2.2.2.1, S.2.2.2.2.2.1, S.2.2.2.2.2.2.F ht⟩
section ENDS
variable {G : Gm} {nL : Nat} {Q : Rs → State → Prop} {nx : Kt} {jp : Nat → Kt} {cal : Cal} {cc : ByteArray} {own : String} {pc : Nat}
theorem s_iret (w : Wk G cc nL own) (hr9 : (gk G).sig.returnType = some .int) (hd : decode cc pc = .ok (.ireturn, 1)) : Snd G nL (Qm G) (o_iret nx jp cal) pc := by
  intro lv st h z cn sn r hr
  obtain ⟨x, t, rfl, h1⟩ := e_pI_inv (show e_pI st (fun x t => e_nil t (some (.inl (.inl (some (.inl x))), h, z, cn, sn))) = some r from hr)
  obtain ⟨rfl, h2⟩ := e_nil_inv h1
  cases h2
  refine ⟨⟨Nat.le_refl _, Nat.le_refl _⟩, fun _ _ ρ ws ls Vs H locs S => ?_⟩
  obtain ⟨T, rfl, hx, hT⟩ := vl_int S.2.1
  cases vl_nil hT
  exact vx_ret (W.iret (Qc := Qc G.2.2 (.inl (.inl (some (.inl x))), h, z, cn, sn)) w.1 w.2.1 hr9 (q_end (o := .inl (.inl (some (.inl x)))) S (V := some (.int (nI x))) ⟨hx, rfl⟩ _) S.2.2.2.2.2.2.2.2 hd w.lk)
theorem s_zret {m : Nat} {ty : FieldType} (w : Wk G cc nL own) (hr9 : (gk G).sig.returnType = some ty) (hn : ∀ x, x ≤ m → narrow ty (.int (nI x)) = .int (nI x)) (hd : decode cc pc = .ok (.ireturn, 1)) : Snd G nL (Qm G) (o_bret m nx jp cal) pc := by
  intro lv st h z cn sn r hr
  obtain ⟨x, t, rfl, h1⟩ := e_pI_inv (show e_pI st (fun x t => e_if (Nat.ble x m) (e_nil t (some (.inl (.inl (some (.inl x))), h, z, cn, sn))) none) = some r from hr)
  obtain ⟨hb, h1⟩ := e_if_t h1
  have hb := Nat.le_of_ble_eq_true hb
  obtain ⟨rfl, h2⟩ := e_nil_inv h1
  cases h2
  refine ⟨⟨Nat.le_refl _, Nat.le_refl _⟩, fun _ _ ρ ws ls Vs H locs S => ?_⟩
  obtain ⟨T, rfl, hx, hT⟩ := vl_int S.2.1
  cases vl_nil hT
  exact vx_ret (W.zret (Qc := Qc G.2.2 (.inl (.inl (some (.inl x))), h, z, cn, sn)) w.1 w.2.1 hr9 (hn x hb) (q_end (o := .inl (.inl (some (.inl x)))) S (V := some (.int (nI x))) ⟨hx, rfl⟩ _) S.2.2.2.2.2.2.2.2 hd w.lk)
theorem q_nz : ∀ x, x ≤ 1 → narrow .boolean (.int (nI x)) = .int (nI x) := by
  intro x hx
  rcases (show x = 0 ∨ x = 1 by omega) with rfl | rfl
  · rfl
  · rfl
theorem q_nch : ∀ x, x ≤ 65535 → narrow .char (.int (nI x)) = .int (nI x) := fun x hx => (pk_charN (by omega)).1
theorem s_aret {rt : FieldType} (w : Wk G cc nL own) (hr9 : (gk G).sig.returnType = some rt) (hrt : (∃ n, rt = .object n) ∨ ∃ t, rt = .array t) (hd : decode cc pc = .ok (.areturn, 1)) : Snd G nL (Qm G) (o_aret nx jp cal) pc := by
  intro lv st h z cn sn r hr
  obtain ⟨x, t, rfl, h1⟩ := e_pR_inv (show e_pR st (fun x t => e_nil t (some (.inl (.inl (some (.inr (.inl (Nat.succ x))))), h, z, cn, sn))) = some r from hr)
  obtain ⟨rfl, h2⟩ := e_nil_inv h1
  cases h2
  refine ⟨⟨Nat.le_refl _, Nat.le_refl _⟩, fun _ _ ρ ws ls Vs H locs S => ?_⟩
  obtain ⟨a, T, rfl, ha, hT⟩ := vl_ref S.2.1
  cases vl_nil hT
  exact vx_ret (W.aret (Qc := Qc G.2.2 (.inl (.inl (some (.inr (.inl (x + 1))))), h, z, cn, sn)) w.1 w.2.1 hr9 hrt (Or.inr ⟨a, rfl⟩) (q_end (o := .inl (.inl (some (.inr (.inl (x + 1)))))) S (V := some (.ref a)) ⟨a, ha, rfl⟩ _) S.2.2.2.2.2.2.2.2 hd w.lk)
theorem s_lret (w : Wk G cc nL own) (hr9 : (gk G).sig.returnType = some .long) (hd : decode cc pc = .ok (.lreturn, 1)) : Snd G nL (Qm G) (o_lret nx jp cal) pc := by
  intro lv st h z cn sn r hr
  obtain ⟨x, t, rfl, h1⟩ := e_pV_inv (show e_pV st (fun v t => e_vL v fun _ => e_nil t (some (.inl (.inl (some v)), h, z, cn, sn))) = some r from hr)
  obtain ⟨x, rfl, h3⟩ := e_vL_inv h1
  obtain ⟨rfl, h2⟩ := e_nil_inv h3
  cases h2
  refine ⟨⟨Nat.le_refl _, Nat.le_refl _⟩, fun _ _ ρ ws ls Vs H locs S => ?_⟩
  obtain ⟨V, T, rfl, hV, hT⟩ := vl_cons S.2.1
  obtain ⟨hx, rfl⟩ := (show x < 18446744073709551616 ∧ V = .long (lN x) from hV)
  cases vl_nil hT
  exact vx_ret (W.lret (Qc := Qc G.2.2 (.inl (.inl (some (.inr (.inr (.inl x))))), h, z, cn, sn)) w.1 w.2.1 hr9 (q_end (o := .inl (.inl (some (.inr (.inr (.inl x)))))) S (V := some (.long (lN x))) ⟨hx, rfl⟩ _) S.2.2.2.2.2.2.2.2 hd w.lk)
theorem s_dret (w : Wk G cc nL own) (hr9 : (gk G).sig.returnType = some .double) (hd : decode cc pc = .ok (.dreturn, 1)) : Snd G nL (Qm G) (o_dret nx jp cal) pc := by
  intro lv st h z cn sn r hr
  obtain ⟨x, t, rfl, h1⟩ := e_pV_inv (show e_pV st (fun v t => e_vD v fun _ => e_nil t (some (.inl (.inl (some v)), h, z, cn, sn))) = some r from hr)
  obtain ⟨x, rfl, h3⟩ := e_vD_inv h1
  obtain ⟨rfl, h2⟩ := e_nil_inv h3
  cases h2
  refine ⟨⟨Nat.le_refl _, Nat.le_refl _⟩, fun _ _ ρ ws ls Vs H locs S => ?_⟩
  obtain ⟨V, T, rfl, hV, hT⟩ := vl_cons S.2.1
  obtain ⟨hx, rfl⟩ := (show x < 18446744073709551616 ∧ V = .double (UInt64.ofNat x) from hV)
  cases vl_nil hT
  exact vx_ret (W.dret (Qc := Qc G.2.2 (.inl (.inl (some (.inr (.inr (.inr (.inl x)))))), h, z, cn, sn)) w.1 w.2.1 hr9 (q_end (o := .inl (.inl (some (.inr (.inr (.inr (.inl x))))))) S (V := some (.double (UInt64.ofNat x))) ⟨hx, rfl⟩ _) S.2.2.2.2.2.2.2.2 hd w.lk)
theorem s_fret (w : Wk G cc nL own) (hr9 : (gk G).sig.returnType = some .float) (hd : decode cc pc = .ok (.freturn, 1)) : Snd G nL (Qm G) (o_fret nx jp cal) pc := by
  intro lv st h z cn sn r hr
  obtain ⟨x, t, rfl, h1⟩ := e_pV_inv (show e_pV st (fun v t => e_vF v fun _ => e_nil t (some (.inl (.inl (some v)), h, z, cn, sn))) = some r from hr)
  obtain ⟨x, rfl, h3⟩ := e_vF_inv h1
  obtain ⟨rfl, h2⟩ := e_nil_inv h3
  cases h2
  refine ⟨⟨Nat.le_refl _, Nat.le_refl _⟩, fun _ _ ρ ws ls Vs H locs S => ?_⟩
  obtain ⟨V, T, rfl, hV, hT⟩ := vl_cons S.2.1
  obtain ⟨hx, rfl⟩ := (show x < 4294967296 ∧ V = .float (UInt32.ofNat x) from hV)
  cases vl_nil hT
  exact vx_ret (W.fret (Qc := Qc G.2.2 (.inl (.inl (some (.inr (.inr (.inr (.inr (.inl x))))))), h, z, cn, sn)) w.1 w.2.1 hr9 (q_end (o := .inl (.inl (some (.inr (.inr (.inr (.inr (.inl x)))))))) S (V := some (.float (UInt32.ofNat x))) ⟨hx, rfl⟩ _) S.2.2.2.2.2.2.2.2 hd w.lk)
theorem s_ret (w : Wk G cc nL own) (hr9 : (gk G).sig.returnType = none) (hd : decode cc pc = .ok (.return_, 1)) : Snd G nL (Qm G) (o_ret nx jp cal) pc := by
  intro lv st h z cn sn r hr
  obtain ⟨rfl, h2⟩ := e_nil_inv (show e_nil st (some (.inl (.inl none), h, z, cn, sn)) = some r from hr)
  cases h2
  refine ⟨⟨Nat.le_refl _, Nat.le_refl _⟩, fun _ _ ρ ws ls Vs H locs S => ?_⟩
  cases vl_nil S.2.1
  exact vx_ret (W.vret (Qc := Qc G.2.2 (.inl (.inl none), h, z, cn, sn)) w.1 w.2.1 hr9 (q_end (o := .inl (.inl none)) S (V := none) trivial _) S.2.2.2.2.2.2.2.2 hd w.lk)
/-- 'throw new E()', where nothing catches it -/
theorem s_thr {ik ic e : Nat} {cls : String} (w : Wk G cc nL own) (hT9 : ∀ x ∈ (gc G).exceptionTable.toList, False) (he : ev_ex[e]? = some cls) (hk : Cond.classLink own ik cls ∈ ev_G) (hini : Cond.initialized cls ∈ ev_G)
    (hat : ∀ v ∈ vx_at0 own ic cls ["java/lang/RuntimeException", "java/lang/Exception"], v ∈ lw_tbl ∧ (goodWord v || ev_nk v) = true) (hgood : ∀ v ∈ Cond.classLink own ik cls :: Cond.initialized cls :: vx_at0 own ic cls ["java/lang/RuntimeException", "java/lang/Exception"], vx_ot v = true)
    (hf : Bundle.fit cls = true) (hfn : ∀ n ∈ ["java/lang/RuntimeException", "java/lang/Exception"], Bundle.fit n = true) (d0 : decode cc pc = .ok (.new ik, 3)) (d3 : decode cc (pc + 3) = .ok (.dup, 1)) (d4 : decode cc (pc + 4) = .ok (.invokespecial ic, 3)) (d7 : decode cc (pc + 7) = .ok (.athrow, 1)) : Snd G nL (Qm G) (o_thr e nx jp cal) pc := by
  intro lv st h z cn sn r hr
  obtain ⟨hb, h2⟩ := e_if_t (show e_if (Nat.ble (e_wt st) 8) (some (.inl (.inr e), h, z, Nat.succ cn, Nat.add sn 6)) none = some r from hr)
  have hb := Nat.le_of_ble_eq_true hb
  cases h2
  refine ⟨⟨Nat.le_succ _, Nat.le_add_right _ _⟩, fun hcc hss ρ ws ls Vs H locs S => ?_⟩
  have hcc : cn + 1 ≤ (gR G).cells := hcc
  have hss : sn + 6 ≤ (gR G).slots := hss
  have hS := S.2.2.2.2.2.2
  have hsz : ls.size = (gc G).maxLocals := by
    obtain ⟨_, q, hq, _⟩ := S.1
    rw [w.2.2.1]; exact hq.1
  have hwt : (Vs.map fun v => v.category).sum ≤ 8 := by rw [vl_wt S.2.1]; exact hb
  have f1 := w.fr
  have f2 := w.lo
  exact vx_throw0 (names := ["java/lang/RuntimeException", "java/lang/Exception"]) (A := gA G) (mc := cn + 1) (ms := sn + 6) (free := gA G) (Qc := Qc G.2.2 (.inl (.inr e), h, z, cn + 1, sn + 6)) (XC := Xc G.2.2 (.inl (.inr e), h, z, cn + 1, sn + 6)) w.1 w.2.1 w.tr w.2.2.2.1 hf hfn (w.use hk) (w.use hini) (fun v hv => w.any (hat v hv).1 (hat v hv).2) hgood (w.cx.2.2.2.1.narrow w.sub) (w.cx.2.2.2.2.1.narrow w.sub) hS hsz d0 d3 d4 d7 (fun x hx => (hT9 x hx).elim)
    (by show 2 + 3 < _; omega) (by show _ + (13 * (2 + 1) + 42) ≤ _; omega) hcc hss w.lk
    (fun t _ hz hq => ⟨e, ρ, ws, rfl, he, S.2.2.2.1, S.2.2.1, S.2.2.2.2.1.kept (fun k q hk => hq q.1 ((S.2.2.2.2.1 k q hk).lt)), S.2.2.2.2.2.1, ⟨Nat.le_trans hS.1 hz, fun q h1 h2 => (hq q (Nat.lt_of_lt_of_le h1 hS.1)).trans (hS.2.1 q h1 h2)⟩⟩)
    hS.2.2 (Nat.le_refl _) (Nat.le_refl _)
theorem s_max {ix : Nat} (w : Wk G cc nL own) (h1 : Cond.methodLink own ix Lib.Math.max.name ∈ ev_G) (h2 : Cond.static Lib.Math.max.name ∈ ev_G) (h3 : Cond.initialized "java/lang/Math" ∈ ev_G) (h4 : Cond.code Lib.Math.max.name Lib.Math.max.code 2 (some .int) ∈ ev_G) (hd : decode cc pc = .ok (.invokestatic ix, 3)) (k : Snd G nL Q nx (pc + 3)) : Snd G nL Q (o_max nx jp cal) pc := by
  intro lv st h z cn sn r hr
  obtain ⟨b, t, rfl, g1⟩ := e_pI_inv (show e_pI st (fun b s => e_pI s fun a s => e_if (Nat.ble (e_wt s) 8) (e_if (Nat.ble (Nat.mod (Nat.add b 2147483648) 4294967296) (Nat.mod (Nat.add a 2147483648) 4294967296)) (nx lv (.inl a :: s) h z cn sn) (nx lv (.inl b :: s) h z cn sn)) none) = some r from hr)
  obtain ⟨a, t, rfl, g2⟩ := e_pI_inv g1
  obtain ⟨hb, g2⟩ := e_if_t g2
  have hb := Nat.le_of_ble_eq_true hb
  have f1 := w.fr
  have f2 := w.lo
  rcases e_if_inv g2 with ⟨hc, g3⟩ | ⟨hc, g3⟩
  · obtain ⟨hm, hk⟩ := k _ _ _ _ _ _ _ g3
    refine ⟨hm, fun hcc hss ρ ws ls Vs H locs S => ?_⟩
    obtain ⟨T, rfl, hb9, hT⟩ := vl_int S.2.1
    obtain ⟨T2, rfl, ha9, hT2⟩ := vl_int hT
    have hsz : (gc G).maxLocals = ls.size := by
      obtain ⟨_, q, hq, _⟩ := S.1
      rw [w.2.2.1]; exact hq.1.symm
    have hwt : (T2.map fun v => v.category).sum ≤ 8 := by rw [vl_wt hT2]; exact hb
    refine va_mmax w.1 w.2.1 hsz w.2.2.2.1 (w.use h1) (w.use h2) (w.use h3) (w.use h4) (by omega) (by omega) (Nat.le_trans hm.1 hcc) (Nat.le_trans hm.2 hss) hd ?_
    rw [if_neg (fun q => (q_lt ha9 hb9).mp q (Nat.le_of_ble_eq_true hc))]
    exact hk hcc hss ρ ws ls _ H locs ⟨S.1, ⟨⟨ha9, rfl⟩, hT2⟩, S.2.2⟩
  · obtain ⟨hm, hk⟩ := k _ _ _ _ _ _ _ g3
    refine ⟨hm, fun hcc hss ρ ws ls Vs H locs S => ?_⟩
    obtain ⟨T, rfl, hb9, hT⟩ := vl_int S.2.1
    obtain ⟨T2, rfl, ha9, hT2⟩ := vl_int hT
    have hsz : (gc G).maxLocals = ls.size := by
      obtain ⟨_, q, hq, _⟩ := S.1
      rw [w.2.2.1]; exact hq.1.symm
    have hwt : (T2.map fun v => v.category).sum ≤ 8 := by rw [vl_wt hT2]; exact hb
    refine va_mmax w.1 w.2.1 hsz w.2.2.2.1 (w.use h1) (w.use h2) (w.use h3) (w.use h4) (by omega) (by omega) (Nat.le_trans hm.1 hcc) (Nat.le_trans hm.2 hss) hd ?_
    rw [if_pos ((q_lt ha9 hb9).mpr (fun q => by
      rw [show Nat.ble (Nat.mod (Nat.add b 2147483648) 4294967296) (Nat.mod (Nat.add a 2147483648) 4294967296) = true from Nat.ble_eq_true_of_le q] at hc
      cases hc))]
    exact hk hcc hss ρ ws ls _ H locs ⟨S.1, ⟨⟨hb9, rfl⟩, hT2⟩, S.2.2⟩
theorem s_oi {ix : Nat} (w : Wk G cc nL own) (h1 : Cond.methodLink own ix Lib.objectInit ∈ ev_G) (h2 : Cond.instanceMethod Lib.objectInit ∈ ev_G) (h3 : Cond.code Lib.objectInit ⟨#[0xb1]⟩ 1 none ∈ ev_G) (hd : decode cc pc = .ok (.invokespecial ix, 3)) (k : Snd G nL Q nx (pc + 3)) : Snd G nL Q (o_oinit nx jp cal) pc := by
  intro lv st h z cn sn r hr
  obtain ⟨x, t, rfl, g1⟩ := e_pR_inv (show e_pR st (fun _ s => e_if (Nat.ble (e_wt s) 8) (nx lv s h z cn sn) none) = some r from hr)
  obtain ⟨hb, g2⟩ := e_if_t g1
  have hb := Nat.le_of_ble_eq_true hb
  obtain ⟨hm, hk⟩ := k _ _ _ _ _ _ _ g2
  refine ⟨hm, fun hcc hss ρ ws ls Vs H locs S => ?_⟩
  obtain ⟨a, T, rfl, ha, hT⟩ := vl_ref S.2.1
  have hsz : ls.size = (gc G).maxLocals := by
    obtain ⟨_, q, hq, _⟩ := S.1
    rw [w.2.2.1]; exact hq.1
  have hwt : (T.map fun v => v.category).sum ≤ 8 := by rw [vl_wt hT]; exact hb
  have f1 := w.fr
  have f2 := w.lo
  exact W.objInit w.1 w.2.1 w.2.2.2.1 (w.use h1) (w.use h2) (w.use h3) (g := F0 (gm G) pc ls (.ref a :: T)) rfl hsz rfl hd (by omega) (by show 2 * 0 + _ + 12 ≤ _; omega) (hk hcc hss ρ ws ls _ H locs ⟨S.1, hT, S.2.2⟩)
end ENDS
