/-! CALLS THAT RETURN, where nothing is known of the table of handlers -/
noncomputable def o_invSq (y k : Nat) : Op := fun nx _ cal l s h z c n => e_take k s [] fun as s => e_if (Nat.ble (e_wt s) 8) (e_back (cal y as h z) (fun v h z c2 n2 => e_force (Nat.add c c2) fun c => e_force (Nat.add n n2) fun n => nx l (e_push v s) h z c n) (fun _ _ _ _ _ => none)) none
noncomputable def o_invIq (y k : Nat) : Op := fun nx _ cal l s h z c n => e_take k s [] fun as s => e_if (Nat.ble (e_wt s) 8) (e_pR as fun _ _ => e_back (cal y as h z) (fun v h z c2 n2 => e_force (Nat.add c c2) fun c => e_force (Nat.add n n2) fun n => nx l (e_push v s) h z c n) (fun _ _ _ _ _ => none)) none
section QUIET
variable {G : Gm} {nL : Nat} {Q : Rs → State → Prop} {nx : Kt} {jp : Nat → Kt} {cal : Cal} {cc : ByteArray} {own : String} {pc : Nat}
theorem s_callq {tab : List En} {y k d : Nat} {q : Mi} {rok : Heap → List Value → Prop} {as t : List AV} {lv : List AV} {h : AH} {z cn sn : Nat} {r : Rs} (w : Wk G cc nL own) (hcal : CalOK (gl G) tab d G.2.2 cal) (en : En) (hen : tab[y]? = some en) (he2 : en.2 = q) (row : Row G nL pc d k q rok) (kk : Snd G nL (Qm G) nx (pc + 3)) (hak : as.length = k) (hwt : e_wt t ≤ 8)
    (hchk : ∀ (ρ : List Nat) (ws : va_W) (ls : Array Slot) (Vs As : List Value) (H : Heap) (locs : List Loc), St G nL lv t h z ρ ws ls Vs H locs → vl (gX G) ρ as As → rok H As)
    (hr : e_back (cal y as h z) (fun v h z c2 n2 => e_force (Nat.add cn c2) fun c => e_force (Nat.add sn n2) fun n => nx lv (e_push v t) h z c n) (fun _ _ _ _ _ => none) = some r) :
    (cn ≤ r.2.2.2.1 ∧ sn ≤ r.2.2.2.2) ∧ (r.2.2.2.1 ≤ (gR G).cells → r.2.2.2.2 ≤ (gR G).slots → ∀ (ρ : List Nat) (ws : va_W) (ls : Array Slot) (Vs : List Value) (H : Heap) (locs : List Loc), St G nL lv (as.reverse ++ t) h z ρ ws ls Vs H locs → gW G H locs cn sn (Qm G r) (F0 (gm G) pc ls Vs)) := by
  subst he2
  rcases e_back_inv hr with ⟨v, h', z', c2, n2, g1, g2⟩ | ⟨e, h', z', c2, n2, g1, g2⟩
  · rw [e_force_eq, e_force_eq] at g2
    obtain ⟨hm, hk⟩ := kk _ _ _ _ _ _ _ g2
    have hm1 : cn + c2 ≤ r.2.2.2.1 := hm.1
    have hm2 : sn + n2 ≤ r.2.2.2.2 := hm.2
    refine ⟨⟨by omega, by omega⟩, fun hcc hss ρ ws ls Vs H locs S => ?_⟩
    obtain ⟨As, T9, rfl, hA, hT⟩ := q_args S.2.1
    have S2 : St G nL lv t h z ρ ws ls T9 H locs := ⟨S.1, hT, S.2.2⟩
    refine s_run (r2 := (.inl (.inl v), h', z', c2, n2)) (a := As.toArray) w S2 (row _ _ _ _ _ _ As T9 H locs cn sn ls (hcal y as h z _ en hen g1 ⟨_, rfl⟩ ρ ws H.size As hA) PF_blind (q_pre (as := as) w S2) (by rw [vl_len hA]; exact hak) (hchk ρ ws ls T9 As H locs S2 hA) (q_lsz S.1) (by rw [vl_wt hT]; exact hwt) ⟨by show cn + c2 ≤ _; omega, by show sn + n2 ≤ _; omega⟩) (fun V ρ' ws' H1 locs1 hv S3 => ?_) (fun e E q ce ρ' ws' H1 locs1 hv => by cases hv)
    exact hk hcc hss ρ' ws' ls _ H1 locs1 ⟨S3.1, q_push hv S3.2.1, S3.2.2⟩
  · exact no_none g2
theorem s_invSq {tab : List En} {y k d : Nat} {q : Mi} (w : Wk G cc nL own) (hcal : CalOK (gl G) tab d G.2.2 cal) (en : En) (hen : tab[y]? = some en) (he2 : en.2 = q) (row : Row G nL pc d k q (fun _ _ => True)) (kk : Snd G nL (Qm G) nx (pc + 3)) : Snd G nL (Qm G) (o_invSq y k nx jp cal) pc := by
  intro lv st h z cn sn r hr
  obtain ⟨as, t, rfl, h1, h2⟩ := e_take_inv hr
  obtain ⟨h3, h4⟩ := e_if_t h2
  rw [List.append_nil] at h4
  exact s_callq w hcal en hen he2 row kk h1 (Nat.le_of_ble_eq_true h3) (fun _ _ _ _ _ _ _ _ _ => trivial) h4
theorem s_invIq {tab : List En} {y k d : Nat} {q : Mi} (w : Wk G cc nL own) (hcal : CalOK (gl G) tab d G.2.2 cal) (en : En) (hen : tab[y]? = some en) (he2 : en.2 = q) (row : Row G nL pc d k q okI) (kk : Snd G nL (Qm G) nx (pc + 3)) : Snd G nL (Qm G) (o_invIq y k nx jp cal) pc := by
  intro lv st h z cn sn r hr
  obtain ⟨as, t, rfl, h1, h2⟩ := e_take_inv hr
  obtain ⟨h3, h4⟩ := e_if_t h2
  rw [List.append_nil] at h4
  obtain ⟨m, as2, e9, h5⟩ := e_pR_inv h4
  refine s_callq w hcal en hen he2 row kk h1 (Nat.le_of_ble_eq_true h3) (fun ρ ws ls Vs As H locs S hA => ?_) h5
  rw [e9] at hA
  obtain ⟨a, T, rfl, -, -⟩ := vl_ref hA
  exact ⟨a, T, rfl⟩
end QUIET
/-- what the law's blocks may use -/
def CtxL (tab : List En) (B9 d : Nat) (G : Gm) (cal : Cal) (en : En) : Prop := B9 ≤ d ∧ Wk G en.2.2.1 en.2.2.2.1 en.2.1.cls ∧ (gk G).sig.returnType = en.2.2.2.2.1 ∧ CalOK (gl G) tab d G.2.2 cal ∧ 10 + d + 1 ≤ (gR G).frames ∧ 260 + 60 * d ≤ (gR G).locals
theorem CtxL.w {tab : List En} {B9 d : Nat} {G : Gm} {cal : Cal} {en : En} (c : CtxL tab B9 d G cal en) : Wk G en.2.2.1 en.2.2.2.1 en.2.1.cls := c.2.1
theorem CtxL.re {tab : List En} {B9 d : Nat} {G : Gm} {cal : Cal} {en : En} (c : CtxL tab B9 d G cal en) : (gk G).sig.returnType = en.2.2.2.2.1 := c.2.2.1
theorem CtxL.ca {tab : List En} {B9 d : Nat} {G : Gm} {cal : Cal} {en : En} (c : CtxL tab B9 d G cal en) : CalOK (gl G) tab d G.2.2 cal := c.2.2.2.1
theorem CtxL.fr {tab : List En} {B9 d : Nat} {G : Gm} {cal : Cal} {en : En} (c : CtxL tab B9 d G cal en) : 10 + d + 1 ≤ (gR G).frames := c.2.2.2.2.1
theorem CtxL.lo {tab : List En} {B9 d : Nat} {G : Gm} {cal : Cal} {en : En} (c : CtxL tab B9 d G cal en) : 260 + 60 * d ≤ (gR G).locals := c.2.2.2.2.2
