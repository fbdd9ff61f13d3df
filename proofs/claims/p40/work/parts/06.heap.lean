section HEAP
variable {G : Gm} {nL : Nat} {Q : Rs → State → Prop} {nx : Kt} {jp : Nat → Kt} {cal : Cal} {cc : ByteArray} {own : String} {pc : Nat}
/-! fields -/
theorem s_get {C : String} {T : u_T} {N ci k len : Nat} (w : Wk G cc nL own) (hc : ev_cl[ci]? = some (C, T, N))
    (row : ∀ (H : Heap) (locs : List Loc) (cn sn : Nat) (Q : State → Prop) (ls : Array Slot) (Vs : List Value) (ws : va_W) (q0 a : Nat) (Fs : List Value) (V : Value), va_P (gD G) ev_cl ws H → ws[q0]? = some (a, .inr (ci, Fs)) → Fs[k]? = some V → gW G H locs cn sn Q (F0 (gm G) (pc + len) ls (V :: Vs)) → gW G H locs cn sn Q (F0 (gm G) pc ls (.ref a :: Vs)))
    (kk : Snd G nL Q nx (pc + len)) : Snd G nL Q (o_get ci k nx jp cal) pc := by
  intro lv st h z cn sn r hr
  obtain ⟨a, t, rfl, h1⟩ := e_pR_inv (show e_pR st (fun a s => e_op (e_fld h a ci k) fun v => nx lv (v :: s) h z cn sn) = some r from hr)
  obtain ⟨v, h2, h3⟩ := e_op_inv h1
  obtain ⟨fs, h4, h5⟩ := e_fld_inv h2
  obtain ⟨hm, hk⟩ := kk _ _ _ _ _ _ _ h3
  refine ⟨hm, fun hcc hss ρ ws ls Vs H locs S => ?_⟩
  obtain ⟨ad, T2, rfl, ha, hT⟩ := vl_ref S.2.1
  obtain ⟨E, g1, Fs, rfl, g2⟩ := HR_at S.2.2.1 h4 ha
  obtain ⟨V, g3, g4⟩ := vl_at g2 h5
  exact row _ _ _ _ _ _ _ ws a ad Fs V S.2.2.2.2.1 g1 g3 (hk hcc hss ρ ws ls _ H locs ⟨S.1, ⟨g4, hT⟩, S.2.2⟩)
theorem r_get {C : String} {T : u_T} {N ci k ix : Nat} (w : Wk G cc nL own) (hc : ev_cl[ci]? = some (C, T, N)) (hin : ∀ v ∈ u_ws C T N, v ∈ ev_G) (hk : k < N) (hl : Cond.fieldLink own ix (T k).1 (T k).2.1 (T k).2.2.1 ∈ ev_G) (hd : decode cc pc = .ok (.getfield ix, 3)) :
    ∀ (H : Heap) (locs : List Loc) (cn sn : Nat) (Q : State → Prop) (ls : Array Slot) (Vs : List Value) (ws : va_W) (q0 a : Nat) (Fs : List Value) (V : Value), va_P (gD G) ev_cl ws H → ws[q0]? = some (a, .inr (ci, Fs)) → Fs[k]? = some V → gW G H locs cn sn Q (F0 (gm G) (pc + 3) ls (V :: Vs)) → gW G H locs cn sn Q (F0 (gm G) pc ls (.ref a :: Vs)) :=
  fun _ _ _ _ _ _ _ _ q0 _ _ _ hP he hv kk => va_get w.1 w.2.1 (fun v h => w.use h) hin w.2.2.2.1 w.K hP q0 he hc k hk (w.use hl) (fun _ h => h) hv hd kk
theorem r_getN {C host : String} {T : u_T} {N ci k ix : Nat} (w : Wk G cc nL own) (hc : ev_cl[ci]? = some (C, T, N)) (hin : ∀ v ∈ u_ws C T N, v ∈ ev_G) (hk : k < N) (hl : Cond.fieldLinkNest own ix (T k).1 (T k).2.1 (T k).2.2.1 host ∈ ev_N) (hd : decode cc pc = .ok (.getfield ix, 3)) :
    ∀ (H : Heap) (locs : List Loc) (cn sn : Nat) (Q : State → Prop) (ls : Array Slot) (Vs : List Value) (ws : va_W) (q0 a : Nat) (Fs : List Value) (V : Value), va_P (gD G) ev_cl ws H → ws[q0]? = some (a, .inr (ci, Fs)) → Fs[k]? = some V → gW G H locs cn sn Q (F0 (gm G) (pc + 3) ls (V :: Vs)) → gW G H locs cn sn Q (F0 (gm G) pc ls (.ref a :: Vs)) :=
  fun _ _ _ _ _ _ _ _ q0 _ _ _ hP he hv kk => va_getN w.1 w.2.1 (fun v h => w.use h) hin w.2.2.2.1 w.K hP q0 he hc k hk (va_Nw.use rfl (w.cx.2.1 _ hl)) (fun _ h => h) hv hd kk
/-- a store into a field -/
def Put (G : Gm) (pc ci k : Nat) (ty : FieldType) : Prop := ∀ (H : Heap) (locs : List Loc) (cn sn : Nat) (Q : State → Prop) (ls : Array Slot) (Vs : List Value) (ws : va_W) (q0 a : Nat) (Fs : List Value) (V : Value), va_P (gD G) ev_cl ws H → va_D (gA G) ws → va_S (gA G) (gs G).heap H locs → ws[q0]? = some (a, .inr (ci, Fs)) → narrow ty V = V → fits ty V = true → k < Fs.length →
  (∀ (H1 : Heap) (locs1 : List Loc), va_P (gD G) ev_cl (ws.set q0 (a, .inr (ci, Fs.set k V))) H1 → va_D (gA G) (ws.set q0 (a, .inr (ci, Fs.set k V))) → va_S (gA G) (gs G).heap H1 locs1 → gW G H1 locs1 cn sn Q (F0 (gm G) (pc + 3) ls Vs)) → gW G H locs cn sn Q (F0 (gm G) pc ls (V :: .ref a :: Vs))
theorem r_put {C : String} {T : u_T} {ty0 : Nat → FieldType} {N ci k ix : Nat} (w : Wk G cc nL own) (hc : ev_cl[ci]? = some (C, T, N)) (hin : ∀ v ∈ u_ws C T N, v ∈ ev_G) (hty : ∀ k, k < N → parseFieldDescriptor (T k).2.2.1 = some (ty0 k)) (hnm : ∀ a, a < N → ∀ b, b < N → a ≠ b → (T a).2.1 ≠ (T b).2.1) (hk : k < N) (hl : Cond.fieldLink own ix (T k).1 (T k).2.1 (T k).2.2.1 ∈ ev_G) (hf : (T k).2.2.2 = false) (hd : decode cc pc = .ok (.putfield ix, 3)) : Put G pc ci k (ty0 k) :=
  fun _ _ _ _ _ _ _ _ q0 _ _ _ hP hD hS he hn hft hlen kk => va_put w.1 w.2.1 (fun v h => w.use h) hin ty0 hty hnm w.2.2.2.1 w.K hP hD hS q0 he hc k hk (w.use hl) (fun _ h => h) hf (hty k hk) hn hft hlen hd kk
theorem r_putF {C : String} {T : u_T} {ty0 : Nat → FieldType} {N ci k ix : Nat} (w : Wk G cc nL own) (hc : ev_cl[ci]? = some (C, T, N)) (hin : ∀ v ∈ u_ws C T N, v ∈ ev_G) (hty : ∀ k, k < N → parseFieldDescriptor (T k).2.2.1 = some (ty0 k)) (hnm : ∀ a, a < N → ∀ b, b < N → a ≠ b → (T a).2.1 ≠ (T b).2.1) (hk : k < N) (hl : Cond.fieldLink own ix (T k).1 (T k).2.1 (T k).2.2.1 ∈ ev_G) (hf : (T k).2.2.2 = true) (hi : (gk G).name = "<init>") (ho : (T k).1 = own) (hd : decode cc pc = .ok (.putfield ix, 3)) : Put G pc ci k (ty0 k) :=
  fun _ _ _ _ _ _ _ _ q0 _ _ _ hP hD hS he hn hft hlen kk => va_putF w.1 w.2.1 (fun v h => w.use h) hin ty0 hty hnm w.2.2.2.1 w.K hP hD hS q0 he hc k hk (w.use hl) (fun _ h => h) hf hi ho (hty k hk) hn hft hlen hd kk
theorem r_putN {C host : String} {T : u_T} {ty0 : Nat → FieldType} {N ci k ix : Nat} (w : Wk G cc nL own) (hc : ev_cl[ci]? = some (C, T, N)) (hin : ∀ v ∈ u_ws C T N, v ∈ ev_G) (hty : ∀ k, k < N → parseFieldDescriptor (T k).2.2.1 = some (ty0 k)) (hnm : ∀ a, a < N → ∀ b, b < N → a ≠ b → (T a).2.1 ≠ (T b).2.1) (hk : k < N) (hl : Cond.fieldLinkNest own ix (T k).1 (T k).2.1 (T k).2.2.1 host ∈ ev_N) (hf : (T k).2.2.2 = false) (hd : decode cc pc = .ok (.putfield ix, 3)) : Put G pc ci k (ty0 k) :=
  fun _ _ _ _ _ _ _ _ q0 _ _ _ hP hD hS he hn hft hlen kk => va_putN w.1 w.2.1 (fun v h => w.use h) hin ty0 hty hnm w.2.2.2.1 w.K hP hD hS q0 he hc k hk (va_Nw.use rfl (w.cx.2.1 _ hl)) (fun _ h => h) hf (hty k hk) hn hft hlen hd kk
theorem s_put {ci k : Nat} {ty : FieldType} {v : AV} {st : List AV} {lv : List AV} {h : AH} {z cn sn : Nat} {r : Rs} {a : Nat} (row : Put G pc ci k ty) (kk : Snd G nL Q nx (pc + 3)) (hv : ∀ ρ V, rv (gX G) ρ v V → narrow ty V = V ∧ fits ty V = true)
    (hr : (e_obj h a ci fun fs => e_upd fs k v fun fs => e_hup h a (.inl (ci, fs)) fun h => nx lv st h z cn sn) = some r) : (cn ≤ r.2.2.2.1 ∧ sn ≤ r.2.2.2.2) ∧ (r.2.2.2.1 ≤ (gR G).cells → r.2.2.2.2 ≤ (gR G).slots → ∀ (ρ : List Nat) (ws : va_W) (ls : Array Slot) (Vs : List Value) (H : Heap) (locs : List Loc), St G nL lv (v :: .inr (.inl (a + 1)) :: st) h z ρ ws ls Vs H locs → gW G H locs cn sn (Q r) (F0 (gm G) pc ls Vs)) := by
  obtain ⟨fs, h1, h2⟩ := e_op_inv hr
  have h1 := e_kind_inv h1
  obtain ⟨h3, h4⟩ := e_upd_inv h2
  obtain ⟨h', h5, h6, h7, h8⟩ := e_hup_inv h4
  obtain ⟨hm, hk⟩ := kk _ _ _ _ _ _ _ h5
  refine ⟨hm, fun hcc hss ρ ws ls Vs H locs S => ?_⟩
  obtain ⟨V, T1, rfl, hV, hT1⟩ := vl_cons S.2.1
  obtain ⟨ad, T2, rfl, ha, hT⟩ := vl_ref hT1
  obtain ⟨E, g1, Fs, rfl, g2⟩ := HR_at S.2.2.1 h1 ha
  obtain ⟨n1, n2⟩ := hv ρ V hV
  refine row _ _ _ _ _ _ _ ws a ad Fs V S.2.2.2.2.1 S.2.2.2.2.2.1 S.2.2.2.2.2.2 g1 n1 n2 (by rw [vl_len g2]; exact h3) (fun H1 locs1 hP hD hS => ?_)
  exact hk hcc hss ρ _ ls T2 H1 locs1 ⟨S.1, hT, HR_set S.2.2.1 g1 (h6 z S.2.2.1.1) h7 h8 ⟨_, rfl, vl_set g2 hV⟩, S.2.2.2.1, hP, hD, hS⟩
theorem s_putI {ci k : Nat} (row : Put G pc ci k .int) (kk : Snd G nL Q nx (pc + 3)) : Snd G nL Q (o_putI ci k nx jp cal) pc := by
  intro lv st h z cn sn r hr
  obtain ⟨x, t, rfl, h1⟩ := e_pI_inv (show e_pI st (fun x s => e_pR s fun a s => e_obj h a ci fun fs => e_upd fs k (.inl x) fun fs => e_hup h a (.inl (ci, fs)) fun h => nx lv s h z cn sn) = some r from hr)
  obtain ⟨a, t, rfl, h2⟩ := e_pR_inv h1
  exact s_put row kk (fun ρ V hV => by obtain ⟨-, rfl⟩ := (show x < 4294967296 ∧ V = .int (nI x) from hV); exact ⟨rfl, rfl⟩) h2
theorem s_putZ {ci k : Nat} (row : Put G pc ci k .boolean) (kk : Snd G nL Q nx (pc + 3)) : Snd G nL Q (o_putZ ci k nx jp cal) pc := by
  intro lv st h z cn sn r hr
  obtain ⟨x, t, rfl, h1⟩ := e_pI_inv (show e_pI st (fun x s => e_if (Nat.ble x 1) (e_pR s fun a s => e_obj h a ci fun fs => e_upd fs k (.inl x) fun fs => e_hup h a (.inl (ci, fs)) fun h => nx lv s h z cn sn) none) = some r from hr)
  obtain ⟨hb, h1⟩ := e_if_t h1
  have hb := Nat.le_of_ble_eq_true hb
  obtain ⟨a, t, rfl, h2⟩ := e_pR_inv h1
  refine s_put row kk (fun ρ V hV => ?_) h2
  obtain ⟨-, rfl⟩ := (show x < 4294967296 ∧ V = .int (nI x) from hV)
  rcases (show x = 0 ∨ x = 1 by omega) with rfl | rfl
  · exact ⟨rfl, rfl⟩
  · exact ⟨rfl, rfl⟩
theorem s_putR {ci k : Nat} {ty : FieldType} (ht : (∃ n, ty = .object n) ∨ ∃ t, ty = .array t) (row : Put G pc ci k ty) (kk : Snd G nL Q nx (pc + 3)) : Snd G nL Q (o_putR ci k nx jp cal) pc := by
  intro lv st h z cn sn r hr
  obtain ⟨x, t, rfl, h1⟩ := e_pR_inv (show e_pR st (fun x s => e_pR s fun a s => e_obj h a ci fun fs => e_upd fs k (.inr (.inl (Nat.succ x))) fun fs => e_hup h a (.inl (ci, fs)) fun h => nx lv s h z cn sn) = some r from hr)
  obtain ⟨a, t, rfl, h2⟩ := e_pR_inv h1
  refine s_put row kk (fun ρ V hV => ?_) h2
  obtain ⟨q, -, rfl⟩ := (show ∃ q : Nat, ρ[x]? = some q ∧ V = .ref q from hV)
  rcases ht with ⟨n, rfl⟩ | ⟨t, rfl⟩
  · exact ⟨rfl, rfl⟩
  · exact ⟨rfl, rfl⟩
/-! making -/
theorem s_new {C : String} {T : u_T} {ty0 : Nat → FieldType} {N ci ix : Nat} {fs : List AV} {Fs : List Value} (w : Wk G cc nL own) (hc : ev_cl[ci]? = some (C, T, N)) (hin : ∀ v ∈ u_ws C T N, v ∈ ev_G) (hty : ∀ k, k < N → parseFieldDescriptor (T k).2.2.1 = some (ty0 k)) (hl : Cond.classLink own ix C ∈ ev_G) (hi : Cond.instantiable C N ∈ ev_G) (hn : Cond.initialized C ∈ ev_G) (hv : ∀ X ρ, vl X ρ fs Fs) (hfs : ∀ j, j < N → defaultValue (ty0 j) = vp_V Fs j) (hd : decode cc pc = .ok (.new ix, 3)) (kk : Snd G nL Q nx (pc + 3)) : Snd G nL Q (o_new ci N fs nx jp cal) pc := by
  intro lv st h z cn sn r hr
  obtain ⟨h', h1, h2⟩ := e_happ_inv (show (e_happ h z (.inl (ci, fs)) fun h => e_force (Nat.succ z) fun z => e_force (Nat.succ cn) fun c => e_force (Nat.add sn N) fun n => nx lv (.inr (.inl z) :: st) h z c n) = some r from hr)
  simp only [e_force_eq] at h1
  obtain ⟨hm, hk⟩ := kk _ _ _ _ _ _ _ h1
  have hm1 : cn + 1 ≤ r.2.2.2.1 := hm.1
  have hm2 : sn + N ≤ r.2.2.2.2 := hm.2
  refine ⟨⟨by omega, by omega⟩, fun hcc hss ρ ws ls Vs H locs S => ?_⟩
  obtain ⟨w1, w2, w3⟩ := h2 S.2.2.1.1
  refine va_new w.1 w.2.1 (fun v h => w.use h) hin ty0 hty w.2.2.2.1 (w.use hl) (w.use hi) (w.use hn) w.K S.2.2.2.2.1 S.2.2.2.2.2.1 S.2.2.2.2.2.2 w.fresh hc (fs := Fs) hfs (by omega) (by omega) hd (fun q H1 hP hD hS => ?_)
  have hl2 : ρ.length = z := S.2.2.1.2.1
  obtain ⟨t0, ht0⟩ := S.2.2.2.1
  exact hk hcc hss (ρ ++ [q]) _ ls _ H1 locs ⟨LR_more S.1, ⟨⟨q, by rw [List.getElem?_append_right (by omega), hl2, Nat.sub_self]; rfl, rfl⟩, vl_more S.2.1⟩, HR_push S.2.2.1 w1 w2 w3 ⟨Fs, rfl, hv _ _⟩, ⟨t0 ++ [q], by rw [ht0, List.append_assoc]⟩, hP, hD, hS⟩
theorem q_rep (k j x : Nat) (h : (List.replicate k 0)[j]? = some x) : x = 0 := by
  have := List.mem_of_getElem? h
  exact (List.mem_replicate.mp this).2
theorem s_newI (w : Wk G cc nL own) (ha : Cond.arrayClass .int ∈ ev_G) (hd : decode cc pc = .ok (.newarray .int, 2)) (kk : Snd G nL Q nx (pc + 2)) : Snd G nL Q (o_newI nx jp cal) pc := by
  intro lv st h z cn sn r hr
  obtain ⟨k, t, rfl, h1⟩ := e_pI_inv (show e_pI st (fun k s => e_if (Nat.ble k 1000) (e_rep k fun xs => e_happ h z (.inr (.inl (k, xs))) fun h => e_force (Nat.succ z) fun z => e_force (Nat.succ cn) fun c => e_force (Nat.add sn k) fun n => nx lv (.inr (.inl z) :: s) h z c n) none) = some r from hr)
  obtain ⟨hb, h1⟩ := e_if_t h1
  have hb := Nat.le_of_ble_eq_true hb
  rw [e_rep_eq] at h1
  obtain ⟨h', h1, h2⟩ := e_happ_inv h1
  simp only [e_force_eq] at h1
  obtain ⟨hm, hk⟩ := kk _ _ _ _ _ _ _ h1
  have hm1 : cn + 1 ≤ r.2.2.2.1 := hm.1
  have hm2 : sn + k ≤ r.2.2.2.2 := hm.2
  refine ⟨⟨by omega, by omega⟩, fun hcc hss ρ ws ls Vs H locs S => ?_⟩
  obtain ⟨w1, w2, w3⟩ := h2 S.2.2.1.1
  obtain ⟨T, rfl, hx, hT⟩ := vl_int S.2.1
  refine va_newa (atype := .int) (a0 := (k, .inl (fun _ => 0))) (N' := k) w.1 w.2.1 (w.use ha) rfl w.K S.2.2.2.2.1 S.2.2.2.2.2.1 S.2.2.2.2.2.2 w.fresh (fun _ => rfl) (fun q => by have := (q_lt0 hx).mp q; omega) (q_cl (by omega)) (by show k * 4 ≤ _; omega) (by omega) (by omega) hd (fun q cA H1 hK hP hD hS => ?_)
  have e1 : (gs G).vm.findClass ("[" ++ FieldType.int.toString) = some cA := (hK.2 2 _ rfl).2
  have e2 : (gs G).vm.findClass ("[" ++ FieldType.int.toString) = some (gAi G) := (w.K.2 0 _ rfl).2
  have e3 : gAi G = cA := Option.some.inj (e2.symm.trans e1)
  subst e3
  have hl2 : ρ.length = z := S.2.2.1.2.1
  obtain ⟨t0, ht0⟩ := S.2.2.2.1
  refine hk hcc hss (ρ ++ [q]) _ ls _ H1 locs ⟨LR_more S.1, ⟨⟨q, by rw [List.getElem?_append_right (by omega), hl2, Nat.sub_self]; rfl, rfl⟩, vl_more hT⟩, HR_push S.2.2.1 w1 w2 w3 ⟨_, rfl, (List.length_replicate).symm, hb, fun j x hj => ?_⟩, ⟨t0 ++ [q], by rw [ht0, List.append_assoc]⟩, hP, hD, hS⟩
  rw [q_rep _ _ _ hj]
  exact ⟨by decide, rfl⟩
theorem s_newD (w : Wk G cc nL own) (ha : Cond.arrayClass .double ∈ ev_G) (hd : decode cc pc = .ok (.newarray .double, 2)) (kk : Snd G nL Q nx (pc + 2)) : Snd G nL Q (o_newD nx jp cal) pc := by
  intro lv st h z cn sn r hr
  obtain ⟨k, t, rfl, h1⟩ := e_pI_inv (show e_pI st (fun k s => e_if (Nat.ble k 1000) (e_rep k fun xs => e_happ h z (.inr (.inr (k, xs))) fun h => e_force (Nat.succ z) fun z => e_force (Nat.succ cn) fun c => e_force (Nat.add sn k) fun n => nx lv (.inr (.inl z) :: s) h z c n) none) = some r from hr)
  obtain ⟨hb, h1⟩ := e_if_t h1
  have hb := Nat.le_of_ble_eq_true hb
  rw [e_rep_eq] at h1
  obtain ⟨h', h1, h2⟩ := e_happ_inv h1
  simp only [e_force_eq] at h1
  obtain ⟨hm, hk⟩ := kk _ _ _ _ _ _ _ h1
  have hm1 : cn + 1 ≤ r.2.2.2.1 := hm.1
  have hm2 : sn + k ≤ r.2.2.2.2 := hm.2
  refine ⟨⟨by omega, by omega⟩, fun hcc hss ρ ws ls Vs H locs S => ?_⟩
  obtain ⟨w1, w2, w3⟩ := h2 S.2.2.1.1
  obtain ⟨T, rfl, hx, hT⟩ := vl_int S.2.1
  refine va_newa (atype := .double) (a0 := (k, .inr (.inr (.inr (.inl (fun _ => 0)))))) (N' := k) w.1 w.2.1 (w.use ha) rfl w.K S.2.2.2.2.1 S.2.2.2.2.2.1 S.2.2.2.2.2.2 w.fresh (fun _ => rfl) (fun q => by have := (q_lt0 hx).mp q; omega) (q_cl (by omega)) (by show k * 8 ≤ _; omega) (by omega) (by omega) hd (fun q cA H1 hK hP hD hS => ?_)
  have e1 : (gs G).vm.findClass ("[" ++ FieldType.double.toString) = some cA := (hK.2 2 _ rfl).2
  have e2 : (gs G).vm.findClass ("[" ++ FieldType.double.toString) = some (gAd G) := (w.K.2 1 _ rfl).2
  have e3 : gAd G = cA := Option.some.inj (e2.symm.trans e1)
  subst e3
  have hl2 : ρ.length = z := S.2.2.1.2.1
  obtain ⟨t0, ht0⟩ := S.2.2.2.1
  refine hk hcc hss (ρ ++ [q]) _ ls _ H1 locs ⟨LR_more S.1, ⟨⟨q, by rw [List.getElem?_append_right (by omega), hl2, Nat.sub_self]; rfl, rfl⟩, vl_more hT⟩, HR_push S.2.2.1 w1 w2 w3 ⟨_, rfl, (List.length_replicate).symm, hb, fun j x hj => ?_⟩, ⟨t0 ++ [q], by rw [ht0, List.append_assoc]⟩, hP, hD, hS⟩
  rw [q_rep _ _ _ hj]
  exact ⟨by decide, rfl⟩
/-! arrays -/
theorem s_alen (w : Wk G cc nL own) (hd : decode cc pc = .ok (.arraylength, 1)) (kk : Snd G nL Q nx (pc + 1)) : Snd G nL Q (o_alen nx jp cal) pc := by
  intro lv st h z cn sn r hr
  obtain ⟨a, t, rfl, h1⟩ := e_pR_inv (show e_pR st (fun a s => e_op (e_len h a) fun x => nx lv (.inl x :: s) h z cn sn) = some r from hr)
  obtain ⟨x, h2, h3⟩ := e_op_inv h1
  obtain ⟨hm, hk⟩ := kk _ _ _ _ _ _ _ h3
  refine ⟨hm, fun hcc hss ρ ws ls Vs H locs S => ?_⟩
  obtain ⟨ad, T, rfl, ha, hT⟩ := vl_ref S.2.1
  rcases e_len_inv h2 with ⟨xs, h4⟩ | ⟨xs, h4⟩
  · obtain ⟨E, g1, f, rfl, g2, g3, g4⟩ := HR_at S.2.2.1 h4 ha
    exact va_alen w.1 w.2.1 w.K S.2.2.2.2.1 a 0 g1 rfl rfl hd (hk hcc hss ρ ws ls _ H locs ⟨S.1, ⟨⟨by omega, rfl⟩, hT⟩, S.2.2⟩)
  · obtain ⟨E, g1, f, rfl, g2, g3, g4⟩ := HR_at S.2.2.1 h4 ha
    exact va_alen w.1 w.2.1 w.K S.2.2.2.2.1 a 1 g1 rfl rfl hd (hk hcc hss ρ ws ls _ H locs ⟨S.1, ⟨⟨by omega, rfl⟩, hT⟩, S.2.2⟩)
theorem s_iald (w : Wk G cc nL own) (hd : decode cc pc = .ok (.iaload, 1)) (kk : Snd G nL Q nx (pc + 1)) : Snd G nL Q (o_iald nx jp cal) pc := by
  intro lv st h z cn sn r hr
  obtain ⟨i, t, rfl, h1⟩ := e_pI_inv (show e_pI st (fun i s => e_pR s fun a s => e_op (e_elI h a i) fun x => nx lv (.inl x :: s) h z cn sn) = some r from hr)
  obtain ⟨a, t, rfl, h1⟩ := e_pR_inv h1
  obtain ⟨x, h2, h3⟩ := e_op_inv h1
  obtain ⟨⟨n, xs⟩, h4, h5⟩ := e_elI_inv h2
  obtain ⟨hm, hk⟩ := kk _ _ _ _ _ _ _ h3
  refine ⟨hm, fun hcc hss ρ ws ls Vs H locs S => ?_⟩
  obtain ⟨T, rfl, hi, hT⟩ := vl_int S.2.1
  obtain ⟨ad, T, rfl, ha, hT⟩ := vl_ref hT
  obtain ⟨E, g1, f, rfl, g2, g3, g4⟩ := HR_at S.2.2.1 h4 ha
  obtain ⟨g5, g6⟩ := g4 i x h5
  have hlt : i < n := by rw [g2]; exact (List.getElem?_eq_some_iff.mp h5).1
  refine va_iald w.1 w.2.1 w.K S.2.2.2.2.1 a 0 g1 rfl (vp_in_nI hlt (by omega)) hd ?_
  rw [q_cl (by omega), g6]
  exact hk hcc hss ρ ws ls _ H locs ⟨S.1, ⟨⟨g5, rfl⟩, hT⟩, S.2.2⟩
theorem s_iast (w : Wk G cc nL own) (hd : decode cc pc = .ok (.iastore, 1)) (kk : Snd G nL Q nx (pc + 1)) : Snd G nL Q (o_iast nx jp cal) pc := by
  intro lv st h z cn sn r hr
  obtain ⟨x, t, rfl, h1⟩ := e_pI_inv (show e_pI st (fun x s => e_pI s fun i s => e_pR s fun a s => e_arrI h a fun m xs => e_upd xs i x fun xs => e_hup h a (.inr (.inl (m, xs))) fun h => nx lv s h z cn sn) = some r from hr)
  obtain ⟨i, t, rfl, h1⟩ := e_pI_inv h1
  obtain ⟨a, t, rfl, h1⟩ := e_pR_inv h1
  obtain ⟨⟨n, xs⟩, h2, h3⟩ := e_op_inv h1
  have h2 := e_aI_inv h2
  obtain ⟨h4, h5⟩ := e_upd_inv h3
  obtain ⟨h', h6, h7, h8, h9⟩ := e_hup_inv h5
  obtain ⟨hm, hk⟩ := kk _ _ _ _ _ _ _ h6
  refine ⟨hm, fun hcc hss ρ ws ls Vs H locs S => ?_⟩
  obtain ⟨T, rfl, hx, hT⟩ := vl_int S.2.1
  obtain ⟨T, rfl, hi, hT⟩ := vl_int hT
  obtain ⟨ad, T, rfl, ha, hT⟩ := vl_ref hT
  obtain ⟨E, g1, f, rfl, g2, g3, g4⟩ := HR_at S.2.2.1 h2 ha
  have h4 : i < xs.length := h4
  refine va_iast w.1 w.2.1 w.K S.2.2.2.2.1 S.2.2.2.2.2.1 S.2.2.2.2.2.2 a 0 g1 rfl (vp_in_nI (by omega) (by omega)) hd (fun H1 locs1 hP hD hS => ?_)
  refine hk hcc hss ρ _ ls _ H1 locs1 ⟨S.1, hT, HR_set S.2.2.1 g1 (h7 z S.2.2.1.1) h8 h9 ⟨_, rfl, by rw [List.length_set]; exact g2, g3, fun j y hj => ?_⟩, S.2.2.2.1, hP, hD, hS⟩
  rw [q_cl (by omega)]
  show y < 4294967296 ∧ (if j = i then nI x else f j) = nI y
  have hj : (xs.set i x)[j]? = some y := hj
  by_cases hji : j = i
  · subst hji
    rw [List.getElem?_set_self h4] at hj
    cases hj
    exact ⟨hx, if_pos rfl⟩
  · rw [List.getElem?_set_ne (fun q => hji q.symm)] at hj
    rw [if_neg hji]
    exact g4 j y hj
theorem s_dald (w : Wk G cc nL own) (hd : decode cc pc = .ok (.daload, 1)) (kk : Snd G nL Q nx (pc + 1)) : Snd G nL Q (o_dald nx jp cal) pc := by
  intro lv st h z cn sn r hr
  obtain ⟨i, t, rfl, h1⟩ := e_pI_inv (show e_pI st (fun i s => e_pR s fun a s => e_op (e_elD h a i) fun x => nx lv (.inr (.inr (.inr (.inl x))) :: s) h z cn sn) = some r from hr)
  obtain ⟨a, t, rfl, h1⟩ := e_pR_inv h1
  obtain ⟨x, h2, h3⟩ := e_op_inv h1
  obtain ⟨⟨n, xs⟩, h4, h5⟩ := e_elD_inv h2
  obtain ⟨hm, hk⟩ := kk _ _ _ _ _ _ _ h3
  refine ⟨hm, fun hcc hss ρ ws ls Vs H locs S => ?_⟩
  obtain ⟨T, rfl, hi, hT⟩ := vl_int S.2.1
  obtain ⟨ad, T, rfl, ha, hT⟩ := vl_ref hT
  obtain ⟨E, g1, f, rfl, g2, g3, g4⟩ := HR_at S.2.2.1 h4 ha
  obtain ⟨g5, g6⟩ := g4 i x h5
  have hlt : i < n := by rw [g2]; exact (List.getElem?_eq_some_iff.mp h5).1
  refine va_dald w.1 w.2.1 w.K S.2.2.2.2.1 a 1 g1 rfl (vp_in_nI hlt (by omega)) hd ?_
  rw [q_cl (by omega), g6]
  exact hk hcc hss ρ ws ls _ H locs ⟨S.1, ⟨⟨g5, rfl⟩, hT⟩, S.2.2⟩
theorem s_dast (w : Wk G cc nL own) (hd : decode cc pc = .ok (.dastore, 1)) (kk : Snd G nL Q nx (pc + 1)) : Snd G nL Q (o_dast nx jp cal) pc := by
  intro lv st h z cn sn r hr
  obtain ⟨v, t, rfl, h1⟩ := e_pV_inv (show e_pV st (fun v s => e_vD v fun x => e_pI s fun i s => e_pR s fun a s => e_arrD h a fun m xs => e_upd xs i x fun xs => e_hup h a (.inr (.inr (m, xs))) fun h => nx lv s h z cn sn) = some r from hr)
  obtain ⟨x, rfl, h1⟩ := e_vD_inv h1
  obtain ⟨i, t, rfl, h1⟩ := e_pI_inv h1
  obtain ⟨a, t, rfl, h1⟩ := e_pR_inv h1
  obtain ⟨⟨n, xs⟩, h2, h3⟩ := e_op_inv h1
  have h2 := e_aD_inv h2
  obtain ⟨h4, h5⟩ := e_upd_inv h3
  obtain ⟨h', h6, h7, h8, h9⟩ := e_hup_inv h5
  obtain ⟨hm, hk⟩ := kk _ _ _ _ _ _ _ h6
  refine ⟨hm, fun hcc hss ρ ws ls Vs H locs S => ?_⟩
  obtain ⟨V, T, rfl, hV, hT⟩ := vl_cons S.2.1
  obtain ⟨hx, rfl⟩ := (show x < 18446744073709551616 ∧ V = .double (UInt64.ofNat x) from hV)
  obtain ⟨T, rfl, hi, hT⟩ := vl_int hT
  obtain ⟨ad, T, rfl, ha, hT⟩ := vl_ref hT
  obtain ⟨E, g1, f, rfl, g2, g3, g4⟩ := HR_at S.2.2.1 h2 ha
  have h4 : i < xs.length := h4
  refine va_dast w.1 w.2.1 w.K S.2.2.2.2.1 S.2.2.2.2.2.1 S.2.2.2.2.2.2 a 1 g1 rfl (vp_in_nI (by omega) (by omega)) hd (fun H1 locs1 hP hD hS => ?_)
  refine hk hcc hss ρ _ ls _ H1 locs1 ⟨S.1, hT, HR_set S.2.2.1 g1 (h7 z S.2.2.1.1) h8 h9 ⟨_, rfl, by rw [List.length_set]; exact g2, g3, fun j y hj => ?_⟩, S.2.2.2.1, hP, hD, hS⟩
  rw [q_cl (by omega)]
  show y < 18446744073709551616 ∧ (if j = i then UInt64.ofNat x else f j) = UInt64.ofNat y
  have hj : (xs.set i x)[j]? = some y := hj
  by_cases hji : j = i
  · subst hji
    rw [List.getElem?_set_self h4] at hj
    cases hj
    exact ⟨hx, if_pos rfl⟩
  · rw [List.getElem?_set_ne (fun q => hji q.symm)] at hj
    rw [if_neg hji]
    exact g4 j y hj
end HEAP
