/-! THE LAW, from its entry -/
theorem g_ls1 : Cond.laysStatic Bundle.tN "UNASSIGNED_STACK" Bundle.steD ∈ lw_tbl := List.mem_append_right _ (List.mem_of_getElem? (i := 542) (by decide +kernel))
theorem g_ls2 : Cond.laysStatic Bundle.tN "SUPPRESSED_SENTINEL" Bundle.listD ∈ lw_tbl := List.mem_append_right _ (List.mem_of_getElem? (i := 544) (by decide +kernel))
theorem g_lsi : Cond.initialized Bundle.tN ∈ lw_tbl := by decide +kernel
theorem g_is1 : Cond.isRef (.static Bundle.tN "UNASSIGNED_STACK" Bundle.steD) ∈ flatC (Jvm.Cond.and given_1 narrow_1) := by decide +kernel
theorem g_is2 : Cond.isRef (.static Bundle.tN "SUPPRESSED_SENTINEL" Bundle.listD) ∈ flatC (Jvm.Cond.and given_1 narrow_1) := by decide +kernel
theorem g_ncs : ∀ q ∈ ev_nc, Cond.not (.castable q.1 q.2) ∈ flatC (Jvm.Cond.and given_1 narrow_1) := by decide +kernel
theorem law_bounds {X : Nat × (Nat × (Nat → Int32))} (hL : X.2.1 ≤ 260) : ∃ v1 v2 v3 : List (Nat × (Nat × Nat)), vsOK X v1 ∧ vsOK X v2 ∧ vsOK X v3 ∧ okR (top_run t_L_cards v1) 1000 100000 = true ∧ okR (top_run t_L_reviews v2) 1000 100000 = true ∧ okR (top_run t_L_empties v3) 1000 100000 = true := by
  obtain ⟨a0, h0, e0⟩ := sm_rng (xAt X 0) (m := 2) (by decide) (by decide)
  obtain ⟨a1, h1, e1⟩ := sm_rng (xAt X 1) (m := 4) (by decide) (by decide)
  obtain ⟨a2, h2, e2⟩ := sm_rng (xAt X 2) (m := 3) (by decide) (by decide)
  obtain ⟨a3, h3, e3⟩ := sm_rng (xAt X 10) (m := 64) (by decide) (by decide)
  obtain ⟨a4, h4, e4⟩ := sm_rng (xAt X 11) (m := 2) (by decide) (by decide)
  obtain ⟨a5, h5, e5⟩ := sm_rng (xAt X 20) (m := 6) (by decide) (by decide)
  refine ⟨[(0, 2, a0), (1, 4, a1), (2, 3, a2)], [(10, 64, a3), (11, 2, a4)], [(20, 6, a5)], ⟨hL, ?_⟩, ⟨hL, ?_⟩, ⟨hL, ?_⟩, run_cards h0 h1 h2, run_reviews h3 h4, run_empties h5⟩
  · exact List.forall_mem_cons.mpr ⟨⟨⟨Nat.le_of_ble_eq_true rfl, Nat.le_of_ble_eq_true rfl⟩, h0, e0⟩, List.forall_mem_cons.mpr ⟨⟨⟨Nat.le_of_ble_eq_true rfl, Nat.le_of_ble_eq_true rfl⟩, h1, e1⟩, List.forall_mem_cons.mpr ⟨⟨⟨Nat.le_of_ble_eq_true rfl, Nat.le_of_ble_eq_true rfl⟩, h2, e2⟩, fun _ h => absurd h List.not_mem_nil⟩⟩⟩
  · exact List.forall_mem_cons.mpr ⟨⟨⟨Nat.le_of_ble_eq_true rfl, Nat.le_of_ble_eq_true rfl⟩, h3, e3⟩, List.forall_mem_cons.mpr ⟨⟨⟨Nat.le_of_ble_eq_true rfl, Nat.le_of_ble_eq_true rfl⟩, h4, e4⟩, fun _ h => absurd h List.not_mem_nil⟩⟩
  · exact List.forall_mem_cons.mpr ⟨⟨⟨Nat.le_of_ble_eq_true rfl, Nat.le_of_ble_eq_true rfl⟩, h5, e5⟩, fun _ h => absurd h List.not_mem_nil⟩
set_option maxHeartbeats 4000000 in
set_option maxRecDepth 100000 in
theorem whole_start {p : Program} {e : Env} {s : State} {m : MethodId} {below : List Frame} {meth : Method} {c : Code} (l : Launch) (hflags : l.flags = flags0) {b L : Nat} {xs : Nat → Int32} (hL : L ≤ 260) (C0 : lw_At p s m meth c b L xs) : W p l e room_1 s m #[Value.ref b] below meth c s.heap [] 0 0 (lw_Z below #[Value.ref b] s) (entryFrame m ([Value.ref b] : List Value).toArray 2) := by
  obtain ⟨hx, hb, hr, hml, hown, hts, hX, hbl, hlocks, hgv⟩ := id C0
  have htr : l.stackTraces = false := by
    unfold Launch.stackTraces
    rw [hflags]
    decide +kernel
  have hG : ∀ w ∈ ev_G, w.before #[Value.ref b] s = true := fun w h => hts w (List.mem_filter.mp h).1
  have hgf := flat_of_before _ hgv
  obtain ⟨c0, i0, hK0⟩ := u_known (C := RX0) (T := TX0) (N := 4) (n := 4) hG in_X0 (hG _ g_114)
  obtain ⟨c1, i1, hK1⟩ := u_known (C := RX1) (T := TX1) (N := 5) (n := 5) hG in_X1 (hG _ g_86)
  obtain ⟨c2, i2, hK2⟩ := u_known (C := RX2) (T := TX2) (N := 4) (n := 4) hG in_X2 (hG _ g_137)
  obtain ⟨c3, i3, hK3⟩ := u_known (C := RX3) (T := TX3) (N := 2) (n := 2) hG in_X3 (hG _ g_172)
  obtain ⟨c4, i4, hK4⟩ := u_known (C := RX4) (T := TX4) (N := 9) (n := 9) hG in_X4 (hG _ g_160)
  obtain ⟨c5, i5, hK5⟩ := u_known (C := RX5) (T := TX5) (N := 11) (n := 11) hG in_X5 (hG _ g_261)
  obtain ⟨c6, i6, hK6⟩ := u_known (C := RX6) (T := TX6) (N := 8) (n := 8) hG in_X6 (hG _ g_35)
  obtain ⟨c7, i7, hK7⟩ := u_known (C := RX7) (T := TX7) (N := 1) (n := 1) hG in_X7 (hG _ g_41)
  obtain ⟨c8, i8, hK8⟩ := u_known (C := RX8) (T := TX8) (N := 8) (n := 8) hG in_X8 (hG _ g_166)
  obtain ⟨c9, i9, hK9⟩ := u_known (C := RX9) (T := TX9) (N := 7) (n := 7) hG in_X9 (hG _ g_312)
  obtain ⟨c10, i10, hK10⟩ := u_known (C := RX10) (T := TX10) (N := 8) (n := 8) hG in_X10 (hG _ g_349)
  obtain ⟨c11, i11, hK11⟩ := u_known (C := RX11) (T := TX11) (N := 8) (n := 8) hG in_X11 (hG _ g_27)
  obtain ⟨cAi, kAi, cmi, fi, hki, hkdi⟩ := Cond.arrayClass_spec (hG _ g_50)
  obtain ⟨cAd, kAd, cmd, fd, hkd, hkdd⟩ := Cond.arrayClass_spec (hG _ g_379)
  obtain ⟨dC, dI, hKc⟩ : ∃ (dC : Nat → ClassId) (dI : Nat → Nat → Nat), ∀ (k : Nat) (q : vw_C), ev_cl[k]? = some q → u_Kn s q.1 q.2.1 q.2.2 (dC k) (dI k) := by
    refine ⟨fun k => [c0, c1, c2, c3, c4, c5, c6, c7, c8, c9, c10, c11].getD k c0, fun k => [i0, i1, i2, i3, i4, i5, i6, i7, i8, i9, i10, i11].getD k i0, ?_⟩
    intro k q hq
    match k, hq with
    | 0, hq => cases hq; exact hK0
    | 1, hq => cases hq; exact hK1
    | 2, hq => cases hq; exact hK2
    | 3, hq => cases hq; exact hK3
    | 4, hq => cases hq; exact hK4
    | 5, hq => cases hq; exact hK5
    | 6, hq => cases hq; exact hK6
    | 7, hq => cases hq; exact hK7
    | 8, hq => cases hq; exact hK8
    | 9, hq => cases hq; exact hK9
    | 10, hq => cases hq; exact hK10
    | 11, hq => cases hq; exact hK11
    | k + 12, hq => simp [ev_cl] at hq
  have hK : va_K (dC, dI) ev_cl [(cAi, .int), (cAd, .double)] s := by
    refine ⟨hKc, fun k q hq => ?_⟩
    rcases k with _ | _ | k
    · cases hq
      exact ⟨fun n z => ⟨fun k h => (by cases h), kAi, hki, cmi, hkdi⟩, fi⟩
    · cases hq
      exact ⟨fun n z => ⟨fun k h => (by cases h), kAd, hkd, cmd, hkdd⟩, fd⟩
    · simp at hq
  obtain ⟨A, hA⟩ : ∃ A : Nat → Prop, A = fun q => s.heap.size ≤ q := ⟨_, rfl⟩
  have hAn : ∀ a : Nat, a < s.heap.size → ¬ A a := fun a h q => by
    rw [hA] at q
    exact Nat.not_le.mpr h q
  have hAf : ∀ q : Nat, s.heap.size ≤ q → A q := fun q h => by rw [hA]; exact h
  let Y : Yt := ((b, (L, xs)), ((dC, dI), (cAi, (cAd, (A, (A, []))))))
  let G : Gm := ((p, (l, (e, (room_1, s)))), ((m, (#[Value.ref b], (below, (meth, c)))), Y))
  have hCy : Cy Y s := ⟨hK, fun w hw => va_Nw.of (ev_on (List.mem_filter.mp hw).2) (hts w (List.mem_filter.mp hw).1), fun q hq => va_Nc.of (hgf _ (g_ncs q hq)), vx_Zqof (hts _ g_ls1) (hts _ g_lsi) (hgf _ g_is1) hAn, vx_Zqof (hts _ g_ls2) (hts _ g_lsi) (hgf _ g_is2) hAn, hX, hbl, hAn b hbl, hAf⟩
  have w : Wk G cL_law 2 RL := ⟨hx, hb, hml, hown, hG, hlocks, hCy, fun q h => h, hAf, htr, (by decide : 10 ≤ room_1.frames), (by decide : 200 ≤ room_1.locals)⟩
  obtain ⟨v1, v2, v3, hv1, hv2, hv3, r1, r2, r3⟩ := law_bounds (X := (b, (L, xs))) hL
  have hcal : CalOK l tabT 23 Y (calL b_law 13) := calL_ok htr okT_all hv1 hv2 hv3 r1 r2 r3
  have hOK := ok_L_law (d := 23) (G := G) (cal := calL b_law 13) ⟨by decide, w, hr, hcal, (by decide : 10 + 23 + 1 ≤ room_1.frames), (by decide : 260 + 60 * 23 ≤ room_1.locals)⟩
  have h1 := loop_snd hOK SStp_Qm 1000000 0
  rw [e_drop_eq, List.drop_zero] at h1
  obtain ⟨h', z', c', n', hrun, hc, hn⟩ := okR_inv run_law
  have hent := lv_entry [.ref b] (n := 2) (Nat.le_of_ble_eq_true rfl)
  rw [lg_entry_eq]
  generalize (lg_sl [.ref b] ++ List.replicate (2 - (lg_sl [.ref b]).length) Slot.unset).toArray = ls at hent ⊢
  have S0 : St G 2 (e_locs [xscr] [.inr (.inr (.inr (.inr (.inr 2))))]) [] [] 0 [] [] ls [] s.heap [] := by
    refine ⟨⟨rfl, _, hent, fun j v hj => ?_⟩, trivial, ⟨e_Wf_nil, rfl, rfl, fun a cl hcl => by rw [e_cell_eq] at hcl; simp at hcl⟩, ⟨[], rfl⟩, fun k q h => by simp at h, ⟨fun i j p q h => by simp at h, fun k q h => by simp at h⟩, va_S.rf⟩
    rcases j with _ | _ | j
    · cases hj
      exact Or.inr ⟨.ref b, List.mem_cons_self, rfl⟩
    · cases hj
      exact Or.inl rfl
    · cases hj
  have h2 := (h1 _ _ _ _ _ _ _ hrun).2 hc hn [] [] ls [] s.heap [] S0
  intro T hT Xs
  obtain ⟨t, a1, o, b1, b2, b3⟩ := h2 T hT Xs
  refine ⟨t, a1, o, b1, b2, ?_⟩
  rcases b3 with ⟨⟨V, ρ', ws', ho, hV, -⟩, L9, hE, hL9⟩ | ⟨x, -, E, ce, L9, ⟨e9, _, _, he, -⟩, -⟩
  rotate_left
  · cases he
  have hV1 : V = some (.int 1) := by
    cases V with
    | none => exact hV.elim
    | some V => exact congrArg some hV.2
  subst hV1
  have hfr : ∀ q ∈ L9, s.heap.size ≤ q.base := fun q hq => by
    have := hL9 q hq
    rw [show gA G = A from rfl, hA] at this
    exact this
  have hs : s.sameButNew ({ t with vm := s.vm } : State) ([] ++ L9) c' n' := hE.2.2
  exact ⟨ho, lw_closed (d0 := s.drawn) (Drawn.sameBut.refl s.drawn lw_cs) ⟨_, ho⟩ hE.2.1 ((State.sameButNew.drop_fresh hs hfr).mono hc hn)⟩
