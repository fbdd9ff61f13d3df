/-! THE LAW'S THREE PARTS, as it calls them -/
noncomputable def calC (vs : List (Nat × (Nat × Nat))) (d : Nat) : Cal := fun y as h z => match y with
  | 0 => a_at as h z 0 0
  | 1 => a_some vs as h z 0 0
  | 2 => none
  | 3 => none
  | 4 => none
  | y + 5 => e_exec tab d y as h z
def a_top (as : List AV) (h : AH) (z c n : Nat) : RR := match as with
  | [.inr (.inr (.inr (.inr (.inr 0))))] => some (.inl (.inl (some (.inl 1))), h, z, c, n)
  | _ => none
theorem a_top_inv {as : List AV} {h : AH} {z c n : Nat} {r : Rs} (hr : a_top as h z c n = some r) : as = [.inr (.inr (.inr (.inr (.inr 0))))] ∧ r = (.inl (.inl (some (.inl 1))), h, z, c, n) := by
  unfold a_top at hr
  split at hr
  · exact ⟨rfl, (Option.some.inj hr).symm⟩
  · exact no_none hr
noncomputable def calL (b : (Nat × Nat) × ((Nat × Nat) × (Nat × Nat))) (d : Nat) : Cal := fun y as h z => match y with
  | 0 => none
  | 1 => none
  | 2 => a_top as h z b.1.1 b.1.2
  | 3 => a_top as h z b.2.1.1 b.2.1.2
  | 4 => a_top as h z b.2.2.1 b.2.2.2
  | y + 5 => e_exec tab d y as h z
abbrev xscr : AV := .inr (.inr (.inr (.inr (.inr 0))))
theorem at_run (k : Nat) (h : AH) (z : Nat) : e_loop t_L_at.1.1 (fun _ _ _ _ => none) 1000000 t_L_at.1.1 (e_locs [xscr, .inl k] t_L_at.1.2) [] h z 0 0 = a_at [xscr, .inl k] h z 0 0 := rfl
theorem some_run (vs : List (Nat × (Nat × Nat))) (k m : Nat) (h : AH) (z : Nat) : e_loop (t_some vs).1.1 (fun _ _ _ _ => none) 1000000 (t_some vs).1.1 (e_locs [.inr (.inr (.inr (.inr (.inr (k + 3))))), .inl m] (t_some vs).1.2) [] h z 0 0 = a_some vs [.inr (.inr (.inr (.inr (.inr (k + 3))))), .inl m] h z 0 0 := rfl
theorem CalOK_none {l : Launch} {tb : List En} {d : Nat} {Y : Yt} : CalOK l tb d Y (fun _ _ _ _ => none) := fun _ _ _ _ _ _ _ hr => no_none hr
theorem at_meth {X : Nat × (Nat × (Nat → Int32))} (hX9 : X.2.1 ≤ 260) : MethOKX tab 10 X t_L_at := ⟨by decide +kernel, fun v h => absurd h List.not_mem_nil, fun d hB G cal hX w htb hn hre hcal hf hlo => ⟨fun _ => 0, rfl, OKs_cons (fun nx jp hn hj => at_snd w (by rw [hX]; exact hX9) hre) OKs_nil⟩⟩
theorem some_meth {X : Nat × (Nat × (Nat → Int32))} {vs : List (Nat × (Nat × Nat))} (hv : vsOK X vs) : MethOKX tab 10 X (t_some vs) := ⟨(by decide +kernel : plainName RL = true), by intro v h; exact List.mem_singleton.mp h, fun d hB G cal hX w htb hn hre hcal hf hlo => ⟨fun _ => 0, rfl, OKs_cons (fun nx jp hn hj => some_snd w (by rw [hX]; exact hv) hre) OKs_nil⟩⟩
theorem calC_ok {l : Launch} (hl : l.stackTraces = false) (hm : ∀ en ∈ tab, MethOK tab 10 en) {Y : Yt} {vs : List (Nat × (Nat × Nat))} (hv : vsOK Y.1 vs) (dd : Nat) : CalOK l tabT (10 + dd + 1) Y (calC vs (dd + 1)) := by
  intro y as h z r en hen hr ho ρ ws sz Vs hV
  match y, hen, hr with
  | 0, hen, hr =>
    have hr : a_at as h z 0 0 = some r := hr
    cases (show some t_L_at = some en from hen)
    obtain ⟨k, hk, rfl, rfl⟩ := a_at_inv hr
    exact met_en (tab := tab) (d := 10 + dd) (B9 := 10) (cal := fun _ _ _ _ => none) (en := t_L_at) (as := [xscr, .inl k]) (h := h) (z := z) hl (Nat.le_add_right 10 dd) (at_meth hv.1) rfl (fun _ _ => CalOK_none) rfl ((at_run k h z).trans hr) ρ ws sz Vs hV
  | 1, hen, hr =>
    have hr : a_some vs as h z 0 0 = some r := hr
    cases (show some t_L_some = some en from hen)
    obtain ⟨k, m, v, hmem, rfl, rfl⟩ := a_some_inv hr
    exact met_en (tab := tab) (d := 10 + dd) (B9 := 10) (cal := fun _ _ _ _ => none) (en := t_some vs) (as := [.inr (.inr (.inr (.inr (.inr (k + 3))))), .inl m]) (h := h) (z := z) hl (Nat.le_add_right 10 dd) (some_meth hv) rfl (fun _ _ => CalOK_none) rfl ((some_run vs k m h z).trans hr) ρ ws sz Vs hV
  | 2, hen, hr => exact no_none hr
  | 3, hen, hr => exact no_none hr
  | 4, hen, hr => exact no_none hr
  | y + 5, hen, hr => exact exec_ok hl 10 hm (dd + 1) Y y as h z r en hen hr ho ρ ws sz Vs hV
theorem room_less {s : State} {pl : Platform} {r r' : Room} (hf : r.frames ≤ r'.frames) (hl : r.locals ≤ r'.locals) (hc : r.cells ≤ r'.cells) (hs : r.slots ≤ r'.slots) (h : s.hasRoom pl r' = true) : s.hasRoom pl r = true := by
  simp only [State.hasRoom, Bool.and_eq_true, decide_eq_true_eq] at h ⊢
  obtain ⟨⟨⟨⟨y, a, b, c, d, e⟩, f⟩, g⟩, i⟩ := h
  exact ⟨⟨⟨⟨by omega, by omega, by omega, by omega, by omega, e⟩, by omega⟩, by omega⟩, i⟩
/-- a part of the law returned true; what it made is forgotten -/
theorem met_quiet {l : Launch} {q : Mi} {d c n C N : Nat} {Y : Yt} {h h0 : AH} {z z0 sz : Nat} {ρ : List Nat} {ws : va_W} {Vs : List Value} (hc : c ≤ C) (hn : n ≤ N)
    (h1 : vx_Met l q.1 (eW q :: ev_G) (rmd d c n) (va_Pc Vs (PF (yMk Y (aC [] sz) []) sz [] 0 [])) (Qc (yMk Y (aC [] sz) []) (.inl (.inl (some (.inl 1))), h0, z0, c, n)) (Xc (yMk Y (aC [] sz) []) (.inl (.inl (some (.inl 1))), h0, z0, c, n)) c n (aC [] sz)) :
    vx_Met l q.1 (eW q :: ev_G) (rmd d C N) (va_Pc Vs (PF (yMk Y (aC ρ sz) ρ) sz h z ws)) (Qc (yMk Y (aC ρ sz) ρ) (.inl (.inl (some (.inl 1))), h, z, C, N)) (Xc (yMk Y (aC ρ sz) ρ) (.inl (.inl (some (.inl 1))), h, z, C, N)) C N (aC ρ sz) := by
  intro p e ha hcs hk s m args below hf happ hP hK
  obtain ⟨hargs, hsz, hC, hHR, hPP, hD, hsub⟩ := hP
  have hin : ∀ x, aC [] sz x → sz ≤ x := fun x hx => by
    rcases hx with ⟨k, hk⟩ | hx
    · simp at hk
    · exact hx
  obtain ⟨y1, y2, y3, y4, y5, y6, y7, y8⟩ := (Spec.appliesLoose_iff hf).mp happ
  obtain ⟨k, o, a1, a2, a3, hQ⟩ := h1 p e ha hcs hk s m args below hf ((Spec.appliesLoose_iff hf).mpr ⟨y1, y2, y3, y4, y5, y6, room_less (r := rmd d c n) (r' := rmd d C N) (Nat.le_refl _) (Nat.le_refl _) hc hn y7, y8⟩) ⟨hargs, hsz, hC, ⟨e_Wf_nil, rfl, rfl, fun a cl hcl => by rw [e_cell_eq] at hcl; simp at hcl⟩, fun k q h => by simp at h, ⟨fun i j p q h => by simp at h, fun k q h => by simp at h⟩, fun x hx => hC.2.2.2.2.2.2.2.2 x (by rw [hsz]; exact hin x hx)⟩ hK
  refine ⟨k, o, a1, a2, a3, ?_⟩
  rcases hQ with ⟨⟨V, ρ', ws', ho, hV, -, -, -, -, hF⟩, L, hE, hL⟩ | ⟨x, -, E, ce, L, ⟨e, _, _, he, -⟩, -⟩
  · refine Or.inl ⟨⟨V, ρ, ws, ho, ?_, ⟨[], (List.append_nil ρ).symm⟩, hHR, hPP.kept (fun k x hx => ?_), hD, ⟨hF.1, fun x hx hnx => hF.2 x hx (fun hz => hnx (Or.inr (hin x hz)))⟩⟩, L, ⟨hE.1, hE.2.1, hE.2.2.mono hc hn⟩, fun x hx => Or.inr (hin _ (hL x hx))⟩
    · cases V with
      | none => exact hV.elim
      | some V => exact hV
    · have hlt := (hPP k x hx).lt
      exact hF.2 x.1 hlt (fun hz => Nat.not_le.mpr hlt (by rw [hsz]; exact hin _ hz))
  · cases he
/-- .. it ran to its end with true, within these bounds -/
def okR (r : RR) (C N : Nat) : Bool := match r with
  | some (.inl (.inl (some (.inl 1))), _, _, c, n) => Nat.ble c C && Nat.ble n N
  | _ => false
theorem okR_inv {r : RR} {C N : Nat} (h : okR r C N = true) : ∃ h' z' c n, r = some (.inl (.inl (some (.inl 1))), h', z', c, n) ∧ c ≤ C ∧ n ≤ N := by
  unfold okR at h
  split at h
  · rename_i h' z' c n
    rw [Bool.and_eq_true] at h
    exact ⟨h', z', c, n, rfl, Nat.le_of_ble_eq_true h.1, Nat.le_of_ble_eq_true h.2⟩
  · cases h
noncomputable def top_run (en : En) (vs : List (Nat × (Nat × Nat))) : RR := e_loop en.1.1 (calC vs 12) 1000000 en.1.1 (e_locs [xscr] en.1.2) [] [] 0 0 0
theorem met_top {l : Launch} (hl : l.stackTraces = false) (hm : ∀ en ∈ tab, MethOK tab 10 en) {en : En} (he : MethOK tabT 10 en) (hh : en.2.2.2.2.2 = []) (hfit : (e_locs [xscr] en.1.2).length = en.2.2.2.1) {vs : List (Nat × (Nat × Nat))} {C N : Nat} (hr : okR (top_run en vs) C N = true) {Y : Yt} (hv : vsOK Y.1 vs) {h : AH} {z : Nat} (ρ : List Nat) (ws : va_W) (sz : Nat) (Vs : List Value) (hV : vl Y.1 ρ [xscr] Vs) :
    vx_Met l en.2.1 (eW en.2 :: ev_G) (rmd 23 C N) (va_Pc Vs (PF (yMk Y (aC ρ sz) ρ) sz h z ws)) (Qc (yMk Y (aC ρ sz) ρ) (.inl (.inl (some (.inl 1))), h, z, C, N)) (Xc (yMk Y (aC ρ sz) ρ) (.inl (.inl (some (.inl 1))), h, z, C, N)) C N (aC ρ sz) := by
  obtain ⟨h', z', c, n, h1, h2, h3⟩ := okR_inv hr
  have hV0 : vl Y.1 [] [xscr] Vs := by
    obtain ⟨V, T, rfl, hv1, hv2⟩ := vl_cons hV
    exact ⟨hv1, by rw [vl_nil hv2]; trivial⟩
  exact met_quiet (q := en.2) h2 h3 (met_en (tab := tabT) (d := 22) (B9 := 10) (cal := calC vs 12) hl (by decide) he.x hh (fun ρ sz => calC_ok (Y := yMk Y (aC ρ sz) ρ) hl hm hv 11) hfit h1 [] [] sz Vs hV0)
/-- the three of them -/
def bR (b : (Nat × Nat) × ((Nat × Nat) × (Nat × Nat))) (vs : List (Nat × (Nat × Nat))) : Prop := okR (top_run t_L_cards vs) b.1.1 b.1.2 = true ∧ okR (top_run t_L_reviews vs) b.2.1.1 b.2.1.2 = true ∧ okR (top_run t_L_empties vs) b.2.2.1 b.2.2.2 = true
theorem calL_ok {l : Launch} (hl : l.stackTraces = false) (hm : ∀ en ∈ tab, MethOK tab 10 en) {Y : Yt} {v1 v2 v3 : List (Nat × (Nat × Nat))} {b : (Nat × Nat) × ((Nat × Nat) × (Nat × Nat))} (hv1 : vsOK Y.1 v1) (hv2 : vsOK Y.1 v2) (hv3 : vsOK Y.1 v3) (h1 : okR (top_run t_L_cards v1) b.1.1 b.1.2 = true) (h2 : okR (top_run t_L_reviews v2) b.2.1.1 b.2.1.2 = true) (h3 : okR (top_run t_L_empties v3) b.2.2.1 b.2.2.2 = true) : CalOK l tabT 23 Y (calL b 13) := by
  intro y as h z r en hen hr ho ρ ws sz Vs hV
  match y, hen, hr with
  | 0, hen, hr => exact no_none hr
  | 1, hen, hr => exact no_none hr
  | 2, hen, hr =>
    have hr : a_top as h z b.1.1 b.1.2 = some r := hr
    cases (show some t_L_cards = some en from hen)
    obtain ⟨rfl, rfl⟩ := a_top_inv hr
    exact met_top hl hm ok_L_cards rfl rfl h1 hv1 ρ ws sz Vs hV
  | 3, hen, hr =>
    have hr : a_top as h z b.2.1.1 b.2.1.2 = some r := hr
    cases (show some t_L_reviews = some en from hen)
    obtain ⟨rfl, rfl⟩ := a_top_inv hr
    exact met_top hl hm ok_L_reviews rfl rfl h2 hv2 ρ ws sz Vs hV
  | 4, hen, hr =>
    have hr : a_top as h z b.2.2.1 b.2.2.2 = some r := hr
    cases (show some t_L_empties = some en from hen)
    obtain ⟨rfl, rfl⟩ := a_top_inv hr
    exact met_top hl hm ok_L_empties rfl rfl h3 hv3 ρ ws sz Vs hV
  | y + 5, hen, hr => exact exec_ok hl 10 hm 13 Y y as h z r en hen hr ho ρ ws sz Vs hV
