/-! numbers -/
theorem q_mod (n : Nat) : nI (n % 4294967296) = nI n := by
  apply Int32.toBitVec_inj.mp
  apply BitVec.eq_of_toNat_eq
  show n % 4294967296 % 2 ^ 32 = n % 2 ^ 32
  omega
theorem q_toInt {n : Nat} (h : n < 4294967296) : (nI n).toInt = if n < 2147483648 then (n : Int) else (n : Int) - 4294967296 := by
  show (Int32.ofNat n).toInt = _
  rw [Int32.toInt_ofNat']
  show Int.bmod (n : Int) 4294967296 = _
  rw [Int.bmod_def]
  split <;> split <;> omega
theorem q_eq {a b : Nat} (ha : a < 4294967296) (hb : b < 4294967296) : nI a = nI b ↔ a = b := by
  rw [← Int32.toInt_inj, q_toInt ha, q_toInt hb]
  constructor
  · intro h
    split at h <;> split at h <;> omega
  · intro h
    rw [h]
theorem q_le {a b : Nat} (ha : a < 4294967296) (hb : b < 4294967296) : nI a ≤ nI b ↔ (a + 2147483648) % 4294967296 ≤ (b + 2147483648) % 4294967296 := by
  rw [Int32.le_iff_toInt_le, q_toInt ha, q_toInt hb]
  split <;> split <;> omega
theorem q_lt {a b : Nat} (ha : a < 4294967296) (hb : b < 4294967296) : nI a < nI b ↔ ¬ (b + 2147483648) % 4294967296 ≤ (a + 2147483648) % 4294967296 := by
  rw [Int32.lt_iff_toInt_lt, q_toInt ha, q_toInt hb]
  split <;> split <;> omega
theorem q_lt0 {a : Nat} (ha : a < 4294967296) : nI a < 0 ↔ ¬ a ≤ 2147483647 := by
  rw [Int32.lt_iff_toInt_lt, q_toInt ha, show (0 : Int32).toInt = 0 from by decide]
  split <;> omega
theorem q_eq0 {a : Nat} (ha : a < 4294967296) : nI a = 0 ↔ a = 0 := q_eq ha (b := 0) (by decide)
theorem q_le0 {a : Nat} (ha : a < 4294967296) : nI a ≤ 0 ↔ (a = 0 ∨ ¬ a ≤ 2147483647) := by
  rw [Int32.le_iff_toInt_le, q_toInt ha, show (0 : Int32).toInt = 0 from by decide]
  split <;> omega
theorem q_add (a b : Nat) : nI a + nI b = nI (f_add a b) := by
  show _ = nI ((a + b) % 4294967296)
  rw [q_mod, nI_add]
theorem q_sub {a b : Nat} (hb : b < 4294967296) : nI a - nI b = nI (f_sub a b) := by
  show _ = nI ((a + (4294967296 - b)) % 4294967296)
  rw [q_mod]
  have h1 : nI (a + (4294967296 - b)) + nI b = nI a := by
    rw [nI_add, ← q_mod, show (a + (4294967296 - b) + b) = a + 4294967296 by omega, show (a + 4294967296) % 4294967296 = a % 4294967296 by omega, q_mod]
  rw [← h1, Int32.add_sub_cancel]
theorem q_mul (a b : Nat) : nI a * nI b = nI (f_mul a b) := by
  show _ = nI ((a * b) % 4294967296)
  rw [q_mod, pk_mul]
theorem q_and (a b : Nat) : nI a &&& nI b = nI (f_and a b) := by
  show _ = nI (a &&& b)
  apply Int32.toBitVec_inj.1
  show BitVec.ofNat 32 a &&& BitVec.ofNat 32 b = BitVec.ofNat 32 (a &&& b)
  apply BitVec.eq_of_getLsbD_eq
  intro i hi
  simp [hi]
theorem q_or (a b : Nat) : nI a ||| nI b = nI (f_or a b) := by
  show _ = nI (a ||| b)
  apply Int32.toBitVec_inj.1
  show BitVec.ofNat 32 a ||| BitVec.ofNat 32 b = BitVec.ofNat 32 (a ||| b)
  apply BitVec.eq_of_getLsbD_eq
  intro i hi
  simp [hi]
theorem q_neg {a : Nat} (ha : a < 4294967296) : - nI a = nI (f_neg a) := by
  show _ = nI ((4294967296 - a) % 4294967296)
  rw [q_mod]
  have h1 : nI (4294967296 - a) + nI a = 0 := by
    rw [nI_add, ← q_mod, show (4294967296 - a + a) = 4294967296 by omega]
    rfl
  have h2 : - nI a + nI a = 0 := Int32.add_left_neg _
  rw [← Int32.add_sub_cancel (- nI a) (nI a), h2, ← h1, Int32.add_sub_cancel]
theorem q_char {a : Nat} (ha : a < 4294967296) : ((nI a).toUInt32 % 65536).toInt32 = nI (f_char a) := by
  show _ = nI (a % 65536)
  rw [pk_char, pk_tn (n := a) (by omega)]
theorem q_shr : ∀ b, b < 32 → ((nI b &&& 31).toBitVec.smod 32).toNat = b := by decide +kernel
theorem q_cl {n : Nat} (h : n < 2147483648) : (nI n).toNatClampNeg = n := nI_clamp (by omega)
/-! the simple instructions -/
section OPS
variable {G : Gm} {nL : Nat} {Q : Rs → State → Prop} {nx : Kt} {jp : Nat → Kt} {cal : Cal} {cc : ByteArray} {own : String} {pc : Nat}
theorem s_no : Snd G nL Q (o_no nx jp cal) pc := Snd_no (fun _ _ _ _ _ _ => rfl)
theorem s_push {v : AV} {V : Value} {pc2 : Nat} (row : ∀ (H : Heap) (locs : List Loc) (cn sn : Nat) (Q : State → Prop) (ls : Array Slot) (Vs : List Value), gW G H locs cn sn Q (F0 (gm G) pc2 ls (V :: Vs)) → gW G H locs cn sn Q (F0 (gm G) pc ls Vs)) (hv : ∀ ρ, rv (gX G) ρ v V) (k : Snd G nL Q nx pc2) : Snd G nL Q (o_v v nx jp cal) pc := by
  intro lv st h z cn sn r hr
  obtain ⟨hm, hk⟩ := k lv (v :: st) h z cn sn r hr
  refine ⟨hm, fun hc hs ρ ws ls Vs H locs S => ?_⟩
  exact row _ _ _ _ _ _ _ (hk hc hs ρ ws ls (V :: Vs) H locs ⟨S.1, ⟨hv ρ, S.2.1⟩, S.2.2⟩)
theorem s_ic {n : Int} {v : Nat} (w : Wk G cc nL own) (hd : decode cc pc = .ok (.iconst n, 1)) (hv : v < 4294967296) (e : Int32.ofInt n = nI v) (k : Snd G nL Q nx (pc + 1)) : Snd G nL Q (o_ic v nx jp cal) pc :=
  s_push (jp := jp) (cal := cal) (v := .inl v) (V := .int (nI v)) (fun _ _ _ _ _ _ _ => lv_iconst w.1 w.2.1 hd e) (fun _ => ⟨hv, rfl⟩) k
theorem s_bi {n : Int} {v : Nat} (w : Wk G cc nL own) (hd : decode cc pc = .ok (.bipush n, 2)) (hv : v < 4294967296) (e : (Int8.ofInt n).toInt32 = nI v) (k : Snd G nL Q nx (pc + 2)) : Snd G nL Q (o_ic v nx jp cal) pc :=
  s_push (jp := jp) (cal := cal) (v := .inl v) (V := .int (nI v)) (fun _ _ _ _ _ _ _ => lv_bipush w.1 w.2.1 hd e) (fun _ => ⟨hv, rfl⟩) k
theorem s_si {n : Int} {v : Nat} (w : Wk G cc nL own) (hd : decode cc pc = .ok (.sipush n, 3)) (hv : v < 4294967296) (e : (Int16.ofInt n).toInt32 = nI v) (k : Snd G nL Q nx (pc + 3)) : Snd G nL Q (o_ic v nx jp cal) pc :=
  s_push (jp := jp) (cal := cal) (v := .inl v) (V := .int (nI v)) (fun _ _ _ _ _ _ _ => lv_sipush w.1 w.2.1 hd e) (fun _ => ⟨hv, rfl⟩) k
theorem s_ldc {ix v : Nat} {v' : Int32} (w : Wk G cc nL own) (hd : decode cc pc = .ok (.ldc ix, 2)) (hv : v < 4294967296) (e : v' = nI v) (hw : Cond.constant own ix v' ∈ ev_G) (k : Snd G nL Q nx (pc + 2)) : Snd G nL Q (o_ic v nx jp cal) pc := by
  subst e
  exact s_push (jp := jp) (cal := cal) (v := .inl v) (V := .int (nI v)) (fun _ _ _ _ _ _ _ => lv_ldc w.1 w.2.1 w.2.2.2.1 (w.2.2.2.2.1 _ hw) hd) (fun _ => ⟨hv, rfl⟩) k
theorem s_ldcL {ix v : Nat} {v' : Int64} (w : Wk G cc nL own) (hd : decode cc pc = .ok (.ldc2_w ix, 3)) (hv : v < 18446744073709551616) (e : v' = lN v) (hw : Cond.constantLong own ix v' ∈ ev_G) (k : Snd G nL Q nx (pc + 3)) : Snd G nL Q (o_v (.inr (.inr (.inl v))) nx jp cal) pc := by
  subst e
  exact s_push (jp := jp) (cal := cal) (V := .long (lN v)) (fun _ _ _ _ _ _ _ => lv_ldc2 w.1 w.2.1 w.2.2.2.1 (w.2.2.2.2.1 _ hw) hd) (fun _ => ⟨hv, rfl⟩) k
theorem s_ldcD {ix v : Nat} {v' : UInt64} (w : Wk G cc nL own) (hd : decode cc pc = .ok (.ldc2_w ix, 3)) (hv : v < 18446744073709551616) (e : v' = UInt64.ofNat v) (hw : Cond.constantDouble own ix v' ∈ ev_G) (k : Snd G nL Q nx (pc + 3)) : Snd G nL Q (o_v (.inr (.inr (.inr (.inl v)))) nx jp cal) pc := by
  subst e
  exact s_push (jp := jp) (cal := cal) (V := .double (UInt64.ofNat v)) (fun _ _ _ _ _ _ _ => lv_ldc2d w.1 w.2.1 w.2.2.2.1 (w.2.2.2.2.1 _ hw) hd) (fun _ => ⟨hv, rfl⟩) k
theorem s_dc0 (w : Wk G cc nL own) (hd : decode cc pc = .ok (.dconst 0, 1)) (k : Snd G nL Q nx (pc + 1)) : Snd G nL Q (o_v (.inr (.inr (.inr (.inl 0)))) nx jp cal) pc :=
  s_push (jp := jp) (cal := cal) (V := .double (UInt64.ofNat 0)) (fun _ _ _ _ _ _ _ => lv_dconst0 w.1 w.2.1 hd) (fun _ => ⟨by decide, rfl⟩) k
theorem s_fc1 (w : Wk G cc nL own) (hd : decode cc pc = .ok (.fconst 1, 1)) (k : Snd G nL Q nx (pc + 1)) : Snd G nL Q (o_v (.inr (.inr (.inr (.inr (.inl 1065353216))))) nx jp cal) pc :=
  s_push (jp := jp) (cal := cal) (V := .float (UInt32.ofNat 1065353216)) (fun _ _ _ _ _ _ _ => lv_fconst1 w.1 w.2.1 hd) (fun _ => ⟨by decide, rfl⟩) k
/-- a variable onto the stack -/
theorem s_ild {i len : Nat} (row : ∀ (H : Heap) (locs : List Loc) (cn sn : Nat) (Q : State → Prop) (ls : Array Slot) (Vs : List Value) (x : Int32), ls[i]? = some (.val (.int x)) → gW G H locs cn sn Q (F0 (gm G) (pc + len) ls (.int x :: Vs)) → gW G H locs cn sn Q (F0 (gm G) pc ls Vs)) (k : Snd G nL Q nx (pc + len)) : Snd G nL Q (o_ild i nx jp cal) pc := by
  intro lv st h z cn sn r hr
  obtain ⟨v, h1, h2⟩ := e_nth_inv (show e_nth lv i (fun v => e_vI v fun x => nx lv (.inl x :: st) h z cn sn) = some r from hr)
  obtain ⟨x, rfl, h3⟩ := e_vI_inv h2
  obtain ⟨hm, hk⟩ := k _ _ _ _ _ _ _ h3
  refine ⟨hm, fun hc hs ρ ws ls Vs H locs S => ?_⟩
  obtain ⟨V, h4, hx, rfl⟩ := LR_at S.1 h1 (fun q => by cases q)
  exact row _ _ _ _ _ _ _ _ h4 (hk hc hs ρ ws ls _ H locs ⟨S.1, ⟨⟨hx, rfl⟩, S.2.1⟩, S.2.2⟩)
theorem s_ild_n {i : Nat} {f : Fin 4} (w : Wk G cc nL own) (hd : decode cc pc = .ok (.iload_n f, 1)) (hf : (f : Nat) = i) (k : Snd G nL Q nx (pc + 1)) : Snd G nL Q (o_ild i nx jp cal) pc := s_ild (fun _ _ _ _ _ _ _ _ h => lv_iload_n w.1 w.2.1 hd hf h) k
theorem s_ild_w {i : Nat} (w : Wk G cc nL own) (hd : decode cc pc = .ok (.iload i, 2)) (k : Snd G nL Q nx (pc + 2)) : Snd G nL Q (o_ild i nx jp cal) pc := s_ild (fun _ _ _ _ _ _ _ _ h => lv_iload w.1 w.2.1 hd h) k
theorem s_ald {i len : Nat} (row : ∀ (H : Heap) (locs : List Loc) (cn sn : Nat) (Q : State → Prop) (ls : Array Slot) (Vs : List Value) (x : Nat), ls[i]? = some (.val (.ref x)) → gW G H locs cn sn Q (F0 (gm G) (pc + len) ls (.ref x :: Vs)) → gW G H locs cn sn Q (F0 (gm G) pc ls Vs)) (k : Snd G nL Q nx (pc + len)) : Snd G nL Q (o_ald i nx jp cal) pc := by
  intro lv st h z cn sn r hr
  obtain ⟨v, h1, h2⟩ := e_nth_inv (show e_nth lv i (fun v => e_vR v fun _ => nx lv (v :: st) h z cn sn) = some r from hr)
  obtain ⟨x, rfl, h3⟩ := e_vR_inv h2
  obtain ⟨hm, hk⟩ := k _ _ _ _ _ _ _ h3
  refine ⟨hm, fun hc hs ρ ws ls Vs H locs S => ?_⟩
  obtain ⟨V, h4, a, hx, rfl⟩ := LR_at S.1 h1 (fun q => by cases q)
  exact row _ _ _ _ _ _ _ _ h4 (hk hc hs ρ ws ls _ H locs ⟨S.1, ⟨⟨a, hx, rfl⟩, S.2.1⟩, S.2.2⟩)
theorem s_ald_n {i : Nat} {f : Fin 4} (w : Wk G cc nL own) (hd : decode cc pc = .ok (.aload_n f, 1)) (hf : (f : Nat) = i) (k : Snd G nL Q nx (pc + 1)) : Snd G nL Q (o_ald i nx jp cal) pc := s_ald (fun _ _ _ _ _ _ _ _ h => lv_aload_n w.1 w.2.1 hd hf h) k
theorem s_ald_w {i : Nat} (w : Wk G cc nL own) (hd : decode cc pc = .ok (.aload i, 2)) (k : Snd G nL Q nx (pc + 2)) : Snd G nL Q (o_ald i nx jp cal) pc := s_ald (fun _ _ _ _ _ _ _ _ h => lv_aload w.1 w.2.1 hd h) k
theorem s_sld_n {i : Nat} {f : Fin 4} (w : Wk G cc nL own) (hd : decode cc pc = .ok (.aload_n f, 1)) (hf : (f : Nat) = i) (k : Snd G nL Q nx (pc + 1)) : Snd G nL Q (o_sld i nx jp cal) pc := by
  intro lv st h z cn sn r hr
  obtain ⟨v, h1, h2⟩ := e_nth_inv (show e_nth lv i (fun v => e_vS v fun x => e_if (Nat.beq x 0) (nx lv (v :: st) h z cn sn) none) = some r from hr)
  obtain ⟨x, rfl, h3⟩ := e_vS_inv h2
  obtain ⟨h4, h5⟩ := e_if_t h3
  have h4 := Nat.eq_of_beq_eq_true h4
  subst h4
  obtain ⟨hm, hk⟩ := k _ _ _ _ _ _ _ h5
  refine ⟨hm, fun hc hs ρ ws ls Vs H locs S => ?_⟩
  obtain ⟨V, h6, h7⟩ := LR_at S.1 h1 (fun q => by cases q)
  have h7 : V = .ref (gX G).1 := h7
  subst h7
  exact lv_aload_n w.1 w.2.1 hd hf h6 (hk hc hs ρ ws ls _ H locs ⟨S.1, ⟨rfl, S.2.1⟩, S.2.2⟩)
theorem s_dld {i len : Nat} (row : ∀ (H : Heap) (locs : List Loc) (cn sn : Nat) (Q : State → Prop) (ls : Array Slot) (Vs : List Value) (x : UInt64), ls[i]? = some (.val (.double x)) → gW G H locs cn sn Q (F0 (gm G) (pc + len) ls (.double x :: Vs)) → gW G H locs cn sn Q (F0 (gm G) pc ls Vs)) (k : Snd G nL Q nx (pc + len)) : Snd G nL Q (o_dld i nx jp cal) pc := by
  intro lv st h z cn sn r hr
  obtain ⟨v, h1, h2⟩ := e_nth_inv (show e_nth lv i (fun v => e_vD v fun _ => nx lv (v :: st) h z cn sn) = some r from hr)
  obtain ⟨x, rfl, h3⟩ := e_vD_inv h2
  obtain ⟨hm, hk⟩ := k _ _ _ _ _ _ _ h3
  refine ⟨hm, fun hc hs ρ ws ls Vs H locs S => ?_⟩
  obtain ⟨V, h4, hx, rfl⟩ := LR_at S.1 h1 (fun q => by cases q)
  exact row _ _ _ _ _ _ _ _ h4 (hk hc hs ρ ws ls _ H locs ⟨S.1, ⟨⟨hx, rfl⟩, S.2.1⟩, S.2.2⟩)
theorem s_dld_n {i : Nat} {f : Fin 4} (w : Wk G cc nL own) (hd : decode cc pc = .ok (.dload_n f, 1)) (hf : (f : Nat) = i) (k : Snd G nL Q nx (pc + 1)) : Snd G nL Q (o_dld i nx jp cal) pc := s_dld (fun _ _ _ _ _ _ _ _ h => lv_dload_n w.1 w.2.1 hd hf h) k
theorem s_dld_w {i : Nat} (w : Wk G cc nL own) (hd : decode cc pc = .ok (.dload i, 2)) (k : Snd G nL Q nx (pc + 2)) : Snd G nL Q (o_dld i nx jp cal) pc := s_dld (fun _ _ _ _ _ _ _ _ h => lv_dload w.1 w.2.1 hd h) k
theorem s_lld_n {i : Nat} {f : Fin 4} (w : Wk G cc nL own) (hd : decode cc pc = .ok (.lload_n f, 1)) (hf : (f : Nat) = i) (k : Snd G nL Q nx (pc + 1)) : Snd G nL Q (o_lld i nx jp cal) pc := by
  intro lv st h z cn sn r hr
  obtain ⟨v, h1, h2⟩ := e_nth_inv (show e_nth lv i (fun v => e_vL v fun _ => nx lv (v :: st) h z cn sn) = some r from hr)
  obtain ⟨x, rfl, h3⟩ := e_vL_inv h2
  obtain ⟨hm, hk⟩ := k _ _ _ _ _ _ _ h3
  refine ⟨hm, fun hc hs ρ ws ls Vs H locs S => ?_⟩
  obtain ⟨V, h4, hx, rfl⟩ := LR_at S.1 h1 (fun q => by cases q)
  exact lv_lload_n w.1 w.2.1 hd hf h4 (hk hc hs ρ ws ls _ H locs ⟨S.1, ⟨⟨hx, rfl⟩, S.2.1⟩, S.2.2⟩)
/-- what stands ahead of a place is one slot wide -/
theorem q_ahead {X : Nat × (Nat × (Nat → Int32))} {ρ : List Nat} {lv : List AV} {j0 i : Nat} {v : AV} (h1 : lv[j0]? = some v) (ho : e_one v = true) (e : j0 + 1 = i) : ∀ (j : Nat) (u : AV) (U : Value), j + 1 = i → lv[j]? = some u → rv X ρ u U → U.category ≠ 2 := by
  intro j u U hj hu hU
  have : j = j0 := by omega
  subst this
  rw [h1] at hu
  cases hu
  rw [rv_one hU ho]
  decide
theorem s_ist {j i len : Nat} (e : j + 1 = i) (row : ∀ (H : Heap) (locs : List Loc) (cn sn : Nat) (Q : State → Prop) (ls : Array Slot) (Vs : List Value) (x : Int32) (q : List (Nat × Value)), lv_has ls nL q → i < nL → (∀ ls' : Array Slot, lv_has ls' nL ((i, Value.int x) :: q.filter (fun q => !(q.1 == i) && !(q.1 + 1 == i && q.2.category == 2))) → gW G H locs cn sn Q (F0 (gm G) (pc + len) ls' Vs)) → gW G H locs cn sn Q (F0 (gm G) pc ls (.int x :: Vs))) (k : Snd G nL Q nx (pc + len)) : Snd G nL Q (o_ist j nx jp cal) pc := by
  subst e
  intro lv st h z cn sn r hr
  obtain ⟨x, t, rfl, h1⟩ := e_pI_inv (show e_pI st (fun x s => e_nth lv j fun v => e_if (e_one v) (e_upd lv (Nat.succ j) (.inl x) fun l => nx l s h z cn sn) none) = some r from hr)
  obtain ⟨v, h2, h3⟩ := e_nth_inv h1
  obtain ⟨h4, h5⟩ := e_if_t h3
  obtain ⟨h6, h7⟩ := e_upd_inv h5
  obtain ⟨hm, hk⟩ := k _ _ _ _ _ _ _ h7
  refine ⟨hm, fun hc hs ρ ws ls Vs H locs S => ?_⟩
  obtain ⟨T, rfl, hx, hT⟩ := vl_int S.2.1
  obtain ⟨hlen, q, hq, hv⟩ := S.1
  refine row _ _ _ _ _ _ _ _ q hq (by rw [← hlen]; exact h6) (fun ls' hl => hk hc hs ρ ws ls' T H locs ⟨?_, hT, S.2.2⟩)
  exact LR_st1 hlen hv ⟨hx, rfl⟩ (q_ahead h2 h4 rfl) hl
theorem s_ist_n {j i : Nat} {f : Fin 4} (w : Wk G cc nL own) (hd : decode cc pc = .ok (.istore_n f, 1)) (hf : (f : Nat) = i) (e : j + 1 = i) (k : Snd G nL Q nx (pc + 1)) : Snd G nL Q (o_ist j nx jp cal) pc := s_ist e (fun _ _ _ _ _ _ _ _ _ h hn kk => lv_istore_n w.1 w.2.1 hd hf h hn rfl kk) k
theorem s_ist_w {j i : Nat} (w : Wk G cc nL own) (hd : decode cc pc = .ok (.istore i, 2)) (e : j + 1 = i) (k : Snd G nL Q nx (pc + 2)) : Snd G nL Q (o_ist j nx jp cal) pc := s_ist e (fun _ _ _ _ _ _ _ _ _ h hn kk => lv_istore w.1 w.2.1 hd h hn rfl kk) k
theorem s_ast {j i len : Nat} (e : j + 1 = i) (row : ∀ (H : Heap) (locs : List Loc) (cn sn : Nat) (Q : State → Prop) (ls : Array Slot) (Vs : List Value) (x : Nat) (q : List (Nat × Value)), lv_has ls nL q → i < nL → (∀ ls' : Array Slot, lv_has ls' nL ((i, Value.ref x) :: q.filter (fun q => !(q.1 == i) && !(q.1 + 1 == i && q.2.category == 2))) → gW G H locs cn sn Q (F0 (gm G) (pc + len) ls' Vs)) → gW G H locs cn sn Q (F0 (gm G) pc ls (.ref x :: Vs))) (k : Snd G nL Q nx (pc + len)) : Snd G nL Q (o_ast j nx jp cal) pc := by
  subst e
  intro lv st h z cn sn r hr
  obtain ⟨x, t, rfl, h1⟩ := e_pR_inv (show e_pR st (fun x s => e_nth lv j fun v => e_if (e_one v) (e_upd lv (Nat.succ j) (.inr (.inl (Nat.succ x))) fun l => nx l s h z cn sn) none) = some r from hr)
  obtain ⟨v, h2, h3⟩ := e_nth_inv h1
  obtain ⟨h4, h5⟩ := e_if_t h3
  obtain ⟨h6, h7⟩ := e_upd_inv h5
  obtain ⟨hm, hk⟩ := k _ _ _ _ _ _ _ h7
  refine ⟨hm, fun hc hs ρ ws ls Vs H locs S => ?_⟩
  obtain ⟨a, T, rfl, ha, hT⟩ := vl_ref S.2.1
  obtain ⟨hlen, q, hq, hv⟩ := S.1
  refine row _ _ _ _ _ _ _ _ q hq (by rw [← hlen]; exact h6) (fun ls' hl => hk hc hs ρ ws ls' T H locs ⟨?_, hT, S.2.2⟩)
  exact LR_st1 hlen hv ⟨a, ha, rfl⟩ (q_ahead h2 h4 rfl) hl
theorem s_ast_n {j i : Nat} {f : Fin 4} (w : Wk G cc nL own) (hd : decode cc pc = .ok (.astore_n f, 1)) (hf : (f : Nat) = i) (e : j + 1 = i) (k : Snd G nL Q nx (pc + 1)) : Snd G nL Q (o_ast j nx jp cal) pc := s_ast e (fun _ _ _ _ _ _ _ _ _ h hn kk => lv_astore_n w.1 w.2.1 hd hf h hn rfl kk) k
theorem s_ast_w {j i : Nat} (w : Wk G cc nL own) (hd : decode cc pc = .ok (.astore i, 2)) (e : j + 1 = i) (k : Snd G nL Q nx (pc + 2)) : Snd G nL Q (o_ast j nx jp cal) pc := s_ast e (fun _ _ _ _ _ _ _ _ _ h hn kk => lv_astore w.1 w.2.1 hd h hn rfl kk) k
theorem s_xst_n {j i : Nat} {f : Fin 4} (w : Wk G cc nL own) (hd : decode cc pc = .ok (.astore_n f, 1)) (hf : (f : Nat) = i) (e : j + 1 = i) (k : Snd G nL Q nx (pc + 1)) : Snd G nL Q (o_xst j nx jp cal) pc := by
  subst e
  intro lv st h z cn sn r hr
  obtain ⟨x, t, rfl, h1⟩ := e_pV_inv (show e_pV st (fun x s => e_vS x fun t => e_if (Nat.beq t 1) (e_nth lv j fun v => e_if (e_one v) (e_upd lv (Nat.succ j) x fun l => nx l s h z cn sn) none) none) = some r from hr)
  obtain ⟨y, rfl, h0⟩ := e_vS_inv h1
  obtain ⟨hy, h1⟩ := e_if_t h0
  have hy := Nat.eq_of_beq_eq_true hy
  subst hy
  obtain ⟨v, h2, h3⟩ := e_nth_inv h1
  obtain ⟨h4, h5⟩ := e_if_t h3
  obtain ⟨h6, h7⟩ := e_upd_inv h5
  obtain ⟨hm, hk⟩ := k _ _ _ _ _ _ _ h7
  refine ⟨hm, fun hc hs ρ ws ls Vs H locs S => ?_⟩
  obtain ⟨V, T, rfl, hV, hT⟩ := vl_cons S.2.1
  obtain ⟨a, rfl⟩ : ∃ a : Nat, V = .ref a := hV
  obtain ⟨hlen, q, hq, hv⟩ := S.1
  refine lv_astore_n w.1 w.2.1 hd hf hq (by rw [← hlen]; exact h6) rfl (fun ls' hl => hk hc hs ρ ws ls' T H locs ⟨?_, hT, S.2.2⟩)
  exact LR_st1 hlen hv (V := .ref a) ⟨a, rfl⟩ (q_ahead h2 h4 rfl) hl
theorem s_inc {i kk : Nat} {n : Int} (w : Wk G cc nL own) (hd : decode cc pc = .ok (.iinc i n, 3)) (e : Int32.ofInt n = nI kk) (k : Snd G nL Q nx (pc + 3)) : Snd G nL Q (o_inc i kk nx jp cal) pc := by
  intro lv st h z cn sn r hr
  obtain ⟨v, h1, h2⟩ := e_nth_inv (show e_nth lv i (fun v => e_vI v fun x => e_force (Nat.mod (Nat.add x kk) 4294967296) fun y => e_upd lv i (.inl y) fun l => nx l st h z cn sn) = some r from hr)
  obtain ⟨x, rfl, h3⟩ := e_vI_inv h2
  rw [e_force_eq] at h3
  obtain ⟨h6, h7⟩ := e_upd_inv h3
  obtain ⟨hm, hk⟩ := k _ _ _ _ _ _ _ h7
  refine ⟨hm, fun hc hs ρ ws ls Vs H locs S => ?_⟩
  obtain ⟨hlen, q, hq, hv⟩ := S.1
  rcases hv i _ h1 with h | ⟨V, hm9, hx, rfl⟩
  · cases h
  · obtain ⟨k9, hk9⟩ := List.getElem?_of_mem hm9
    have hy : Nat.mod (Nat.add x kk) 4294967296 < 4294967296 := Nat.mod_lt _ (by decide)
    refine lv_iinc (v := nI (Nat.mod (Nat.add x kk) 4294967296)) w.1 w.2.1 hd hq hk9 (by rw [e, q_add]; rfl) (by rw [← hlen]; exact h6) rfl (fun ls' hl => hk hc hs ρ ws ls' Vs H locs ⟨?_, S.2⟩)
    refine LR_st1 hlen hv ⟨hy, rfl⟩ (fun j u U hj hu hU hcat => ?_) hl
    have hi : ls[i]? = some (.val (.int (nI x))) := hq.2.2 _ hm9
    have hu2 : u ≠ .inr (.inr (.inr (.inr (.inr 2)))) := fun q => by rw [q] at hU; exact hU
    obtain ⟨U2, h8, h9⟩ := LR_at S.1 hu hu2
    have hc2 : U2.category = 2 := by
      cases ho : e_one u with
      | true => rw [rv_one hU ho] at hcat; cases hcat
      | false => exact rv_two h9 ho
    have h10 := hq.2.1.1 j U2 h8 hc2
    rw [hj, hi] at h10
    cases h10
/-- two ints into one -/
theorem s_bin {f : Nat → Nat → Nat} {g : Int32 → Int32 → Int32} (row : ∀ (H : Heap) (locs : List Loc) (cn sn : Nat) (Q : State → Prop) (ls : Array Slot) (Vs : List Value) (x y : Int32), gW G H locs cn sn Q (F0 (gm G) (pc + 1) ls (.int (g x y) :: Vs)) → gW G H locs cn sn Q (F0 (gm G) pc ls (.int y :: .int x :: Vs))) (hf : ∀ a b, a < 4294967296 → b < 4294967296 → g (nI a) (nI b) = nI (f a b) ∧ f a b < 4294967296) (k : Snd G nL Q nx (pc + 1)) : Snd G nL Q (o_bin f nx jp cal) pc := by
  intro lv st h z cn sn r hr
  obtain ⟨b, t, rfl, h1⟩ := e_pI_inv (show e_pI st (fun b s => e_pI s fun a s => e_force (f a b) fun x => nx lv (.inl x :: s) h z cn sn) = some r from hr)
  obtain ⟨a, t, rfl, h2⟩ := e_pI_inv h1
  rw [e_force_eq] at h2
  obtain ⟨hm, hk⟩ := k _ _ _ _ _ _ _ h2
  refine ⟨hm, fun hc hs ρ ws ls Vs H locs S => ?_⟩
  obtain ⟨T, rfl, hb, hT⟩ := vl_int S.2.1
  obtain ⟨T, rfl, ha, hT⟩ := vl_int hT
  obtain ⟨e1, e2⟩ := hf a b ha hb
  refine row _ _ _ _ _ _ _ _ _ ?_
  rw [e1]
  exact hk hc hs ρ ws ls _ H locs ⟨S.1, ⟨⟨e2, rfl⟩, hT⟩, S.2.2⟩
theorem s_add (w : Wk G cc nL own) (hd : decode cc pc = .ok (.iadd, 1)) (k : Snd G nL Q nx (pc + 1)) : Snd G nL Q (o_bin f_add nx jp cal) pc := s_bin (g := fun x y => x + y) (fun _ _ _ _ _ _ _ _ _ => lv_iadd w.1 w.2.1 hd) (fun a b _ _ => ⟨q_add a b, Nat.mod_lt _ (by decide)⟩) k
theorem s_sub (w : Wk G cc nL own) (hd : decode cc pc = .ok (.isub, 1)) (k : Snd G nL Q nx (pc + 1)) : Snd G nL Q (o_bin f_sub nx jp cal) pc := s_bin (g := fun x y => x - y) (fun _ _ _ _ _ _ _ _ _ => lv_isub w.1 w.2.1 hd) (fun a b _ hb => ⟨q_sub hb, Nat.mod_lt _ (by decide)⟩) k
theorem s_mul (w : Wk G cc nL own) (hd : decode cc pc = .ok (.imul, 1)) (k : Snd G nL Q nx (pc + 1)) : Snd G nL Q (o_bin f_mul nx jp cal) pc := s_bin (g := fun x y => x * y) (fun _ _ _ _ _ _ _ _ _ => lv_imul w.1 w.2.1 hd) (fun a b _ _ => ⟨q_mul a b, Nat.mod_lt _ (by decide)⟩) k
theorem s_and (w : Wk G cc nL own) (hd : decode cc pc = .ok (.iand, 1)) (k : Snd G nL Q nx (pc + 1)) : Snd G nL Q (o_bin f_and nx jp cal) pc := s_bin (g := fun x y => x &&& y) (fun _ _ _ _ _ _ _ _ _ => lv_iand w.1 w.2.1 hd) (fun a b ha _ => ⟨q_and a b, Nat.lt_of_le_of_lt Nat.and_le_left ha⟩) k
theorem s_or (w : Wk G cc nL own) (hd : decode cc pc = .ok (.ior, 1)) (k : Snd G nL Q nx (pc + 1)) : Snd G nL Q (o_bin f_or nx jp cal) pc := s_bin (g := fun x y => x ||| y) (fun _ _ _ _ _ _ _ _ _ => lv_ior w.1 w.2.1 hd) (fun a b ha hb => ⟨q_or a b, Nat.or_lt_two_pow (n := 32) ha hb⟩) k
theorem s_un {f : Nat → Nat} {g : Int32 → Int32} (row : ∀ (H : Heap) (locs : List Loc) (cn sn : Nat) (Q : State → Prop) (ls : Array Slot) (Vs : List Value) (x : Int32), gW G H locs cn sn Q (F0 (gm G) (pc + 1) ls (.int (g x) :: Vs)) → gW G H locs cn sn Q (F0 (gm G) pc ls (.int x :: Vs))) (hf : ∀ a, a < 4294967296 → g (nI a) = nI (f a) ∧ f a < 4294967296) (k : Snd G nL Q nx (pc + 1)) : Snd G nL Q (o_un f nx jp cal) pc := by
  intro lv st h z cn sn r hr
  obtain ⟨a, t, rfl, h2⟩ := e_pI_inv (show e_pI st (fun a s => e_force (f a) fun x => nx lv (.inl x :: s) h z cn sn) = some r from hr)
  rw [e_force_eq] at h2
  obtain ⟨hm, hk⟩ := k _ _ _ _ _ _ _ h2
  refine ⟨hm, fun hc hs ρ ws ls Vs H locs S => ?_⟩
  obtain ⟨T, rfl, ha, hT⟩ := vl_int S.2.1
  obtain ⟨e1, e2⟩ := hf a ha
  refine row _ _ _ _ _ _ _ _ ?_
  rw [e1]
  exact hk hc hs ρ ws ls _ H locs ⟨S.1, ⟨⟨e2, rfl⟩, hT⟩, S.2.2⟩
theorem s_neg (w : Wk G cc nL own) (hd : decode cc pc = .ok (.ineg, 1)) (k : Snd G nL Q nx (pc + 1)) : Snd G nL Q (o_un f_neg nx jp cal) pc := s_un (g := fun x => -x) (fun _ _ _ _ _ _ _ _ => lv_ineg w.1 w.2.1 hd) (fun a ha => ⟨q_neg ha, Nat.mod_lt _ (by decide)⟩) k
theorem s_chr (w : Wk G cc nL own) (hd : decode cc pc = .ok (.i2c, 1)) (k : Snd G nL Q nx (pc + 1)) : Snd G nL Q (o_un f_char nx jp cal) pc := s_un (g := fun x => (x.toUInt32 % 65536).toInt32) (fun _ _ _ _ _ _ _ _ => lv_i2c w.1 w.2.1 hd rfl) (fun a ha => ⟨q_char ha, Nat.lt_of_lt_of_le (Nat.mod_lt _ (by decide)) (by decide : 65536 ≤ 4294967296)⟩) k
theorem s_rem (w : Wk G cc nL own) (hd : decode cc pc = .ok (.irem, 1)) (k : Snd G nL Q nx (pc + 1)) : Snd G nL Q (o_rem nx jp cal) pc := by
  intro lv st h z cn sn r hr
  obtain ⟨b, t, rfl, h1⟩ := e_pI_inv (show e_pI st (fun b s => e_pI s fun a s => e_if (Nat.ble 1 b) (e_if (Nat.ble b 2147483647) (e_if (Nat.ble a 2147483647) (e_force (Nat.mod a b) fun x => nx lv (.inl x :: s) h z cn sn) none) none) none) = some r from hr)
  obtain ⟨a, t, rfl, h2⟩ := e_pI_inv h1
  obtain ⟨b1, h2⟩ := e_if_t h2
  obtain ⟨b2, h2⟩ := e_if_t h2
  obtain ⟨b3, h2⟩ := e_if_t h2
  have b1 := Nat.le_of_ble_eq_true b1
  have b2 := Nat.le_of_ble_eq_true b2
  have b3 := Nat.le_of_ble_eq_true b3
  rw [e_force_eq] at h2
  obtain ⟨hm, hk⟩ := k _ _ _ _ _ _ _ h2
  refine ⟨hm, fun hc hs ρ ws ls Vs H locs S => ?_⟩
  obtain ⟨T, rfl, hb, hT⟩ := vl_int S.2.1
  obtain ⟨T, rfl, ha, hT⟩ := vl_int hT
  refine lv_irem w.1 w.2.1 hd (fun q => by have := (q_eq0 hb).mp q; omega) ?_
  rw [pk_rem (by omega) (by omega) (by omega)]
  exact hk hc hs ρ ws ls _ H locs ⟨S.1, ⟨⟨Nat.lt_of_le_of_lt (Nat.mod_le a b) ha, rfl⟩, hT⟩, S.2.2⟩
theorem s_shr (w : Wk G cc nL own) (hd : decode cc pc = .ok (.ishr, 1)) (k : Snd G nL Q nx (pc + 1)) : Snd G nL Q (o_shr nx jp cal) pc := by
  intro lv st h z cn sn r hr
  obtain ⟨b, t, rfl, h1⟩ := e_pI_inv (show e_pI st (fun b s => e_pI s fun a s => e_if (Nat.ble b 31) (e_if (Nat.ble a 2147483647) (e_force (Nat.div a (Nat.pow 2 b)) fun x => nx lv (.inl x :: s) h z cn sn) none) none) = some r from hr)
  obtain ⟨a, t, rfl, h2⟩ := e_pI_inv h1
  obtain ⟨b1, h2⟩ := e_if_t h2
  obtain ⟨b2, h2⟩ := e_if_t h2
  have b1 := Nat.le_of_ble_eq_true b1
  have b2 := Nat.le_of_ble_eq_true b2
  rw [e_force_eq] at h2
  obtain ⟨hm, hk⟩ := k _ _ _ _ _ _ _ h2
  refine ⟨hm, fun hc hs ρ ws ls Vs H locs S => ?_⟩
  obtain ⟨T, rfl, hb, hT⟩ := vl_int S.2.1
  obtain ⟨T, rfl, ha, hT⟩ := vl_int hT
  refine lv_ishr w.1 w.2.1 hd ?_
  rw [pk_shrN (by omega) _ b (q_shr b (by omega))]
  exact hk hc hs ρ ws ls _ H locs ⟨S.1, ⟨⟨Nat.lt_of_le_of_lt (Nat.div_le_self a _) ha, rfl⟩, hT⟩, S.2.2⟩
theorem s_dup (w : Wk G cc nL own) (hd : decode cc pc = .ok (.dup, 1)) (k : Snd G nL Q nx (pc + 1)) : Snd G nL Q (o_dup nx jp cal) pc := by
  intro lv st h z cn sn r hr
  obtain ⟨v, t, rfl, h1⟩ := e_pV_inv (show e_pV st (fun v t => e_if (e_one v) (nx lv (v :: v :: t) h z cn sn) none) = some r from hr)
  obtain ⟨h1, h2⟩ := e_if_t h1
  obtain ⟨hm, hk⟩ := k _ _ _ _ _ _ _ h2
  refine ⟨hm, fun hc hs ρ ws ls Vs H locs S => ?_⟩
  obtain ⟨V, T, rfl, hV, hT⟩ := vl_cons S.2.1
  exact lv_dup w.1 w.2.1 hd (rv_one hV h1) (hk hc hs ρ ws ls _ H locs ⟨S.1, ⟨hV, hV, hT⟩, S.2.2⟩)
theorem s_pop (w : Wk G cc nL own) (hd : decode cc pc = .ok (.pop, 1)) (k : Snd G nL Q nx (pc + 1)) : Snd G nL Q (o_pop nx jp cal) pc := by
  intro lv st h z cn sn r hr
  obtain ⟨v, t, rfl, h1⟩ := e_pV_inv (show e_pV st (fun v t => e_if (e_one v) (nx lv t h z cn sn) none) = some r from hr)
  obtain ⟨h1, h2⟩ := e_if_t h1
  obtain ⟨hm, hk⟩ := k _ _ _ _ _ _ _ h2
  refine ⟨hm, fun hc hs ρ ws ls Vs H locs S => ?_⟩
  obtain ⟨V, T, rfl, hV, hT⟩ := vl_cons S.2.1
  exact lv_pop w.1 w.2.1 hd (rv_one hV h1) (hk hc hs ρ ws ls _ H locs ⟨S.1, hT, S.2.2⟩)
theorem s_dup2 (w : Wk G cc nL own) (hd : decode cc pc = .ok (.dup2, 1)) (k : Snd G nL Q nx (pc + 1)) : Snd G nL Q (o_dup2 nx jp cal) pc := by
  intro lv st h z cn sn r hr
  obtain ⟨v, t, rfl, h1⟩ := e_pV_inv (show e_pV st (fun v t => e_pV t fun w t => e_if (e_one v) (e_if (e_one w) (nx lv (v :: w :: v :: w :: t) h z cn sn) none) none) = some r from hr)
  obtain ⟨v2, t, rfl, h1⟩ := e_pV_inv h1
  obtain ⟨h1, h2⟩ := e_if_t h1
  obtain ⟨h3, h2⟩ := e_if_t h2
  obtain ⟨hm, hk⟩ := k _ _ _ _ _ _ _ h2
  refine ⟨hm, fun hc hs ρ ws ls Vs H locs S => ?_⟩
  obtain ⟨V, T, rfl, hV, hT⟩ := vl_cons S.2.1
  obtain ⟨V2, T, rfl, hV2, hT⟩ := vl_cons hT
  exact lv_dup2_11 w.1 w.2.1 hd (rv_one hV h1) (rv_one hV2 h3) (hk hc hs ρ ws ls _ H locs ⟨S.1, ⟨hV, hV2, hV, hV2, hT⟩, S.2.2⟩)
theorem s_go {off : Int} {t tgt : Nat} (w : Wk G cc nL own) (hd : decode cc pc = .ok (.goto off, 3)) (ht : (pc : Int) + off = (tgt : Int)) (k : Snd G nL Q (jp t) tgt) : Snd G nL Q (o_go t nx jp cal) pc := by
  intro lv st h z cn sn r hr
  obtain ⟨hm, hk⟩ := k lv st h z cn sn r hr
  exact ⟨hm, fun hc hs ρ ws ls Vs H locs S => lv_goto w.1 w.2.1 hd ht (hk hc hs ρ ws ls Vs H locs S)⟩
theorem s_if {P : Int32 → Prop} {p : Nat → Bool} {t tgt : Nat} (row : ∀ (H : Heap) (locs : List Loc) (cn sn : Nat) (Q : State → Prop) (ls : Array Slot) (Vs : List Value) (x : Int32), (P x → gW G H locs cn sn Q (F0 (gm G) tgt ls Vs)) → (¬ P x → gW G H locs cn sn Q (F0 (gm G) (pc + 3) ls Vs)) → gW G H locs cn sn Q (F0 (gm G) pc ls (.int x :: Vs))) (hp : ∀ a, a < 4294967296 → (P (nI a) ↔ p a = true)) (kt : Snd G nL Q (jp t) tgt) (k : Snd G nL Q nx (pc + 3)) : Snd G nL Q (o_if t p nx jp cal) pc := by
  intro lv st h z cn sn r hr
  obtain ⟨a, s, rfl, h1⟩ := e_pI_inv (show e_pI st (fun a s => e_if (p a) (jp t lv s h z cn sn) (nx lv s h z cn sn)) = some r from hr)
  rcases e_if_inv h1 with ⟨hb, h2⟩ | ⟨hb, h2⟩
  · obtain ⟨hm, hk⟩ := kt _ _ _ _ _ _ _ h2
    refine ⟨hm, fun hc hs ρ ws ls Vs H locs S => ?_⟩
    obtain ⟨T, rfl, ha, hT⟩ := vl_int S.2.1
    exact row _ _ _ _ _ _ _ _ (fun _ => hk hc hs ρ ws ls T H locs ⟨S.1, hT, S.2.2⟩) (fun q => absurd ((hp a ha).mpr hb) q)
  · obtain ⟨hm, hk⟩ := k _ _ _ _ _ _ _ h2
    refine ⟨hm, fun hc hs ρ ws ls Vs H locs S => ?_⟩
    obtain ⟨T, rfl, ha, hT⟩ := vl_int S.2.1
    exact row _ _ _ _ _ _ _ _ (fun q => by rw [(hp a ha).mp q] at hb; cases hb) (fun _ => hk hc hs ρ ws ls T H locs ⟨S.1, hT, S.2.2⟩)
theorem q_not {b : Bool} {P : Prop} (h : P ↔ b = true) : ¬ P ↔ Bool.not b = true := by
  cases b with
  | true => simp [h]
  | false => simp [h]
theorem q_beq (a b : Nat) : a = b ↔ Nat.beq a b = true := ⟨fun h => by rw [h]; exact Nat.beq_refl b, Nat.eq_of_beq_eq_true⟩
theorem q_ble (a b : Nat) : a ≤ b ↔ Nat.ble a b = true := ⟨Nat.ble_eq_true_of_le, Nat.le_of_ble_eq_true⟩
theorem s_ifeq {off : Int} {t tgt : Nat} (w : Wk G cc nL own) (hd : decode cc pc = .ok (.ifCond .eq off, 3)) (ht : (pc : Int) + off = (tgt : Int)) (kt : Snd G nL Q (jp t) tgt) (k : Snd G nL Q nx (pc + 3)) : Snd G nL Q (o_if t p_eq0 nx jp cal) pc := s_if (P := fun x => x = 0) (fun _ _ _ _ _ _ _ _ => lv_if_eq w.1 w.2.1 hd ht) (fun a ha => (q_eq0 ha).trans (q_beq a 0)) kt k
theorem s_ifne {off : Int} {t tgt : Nat} (w : Wk G cc nL own) (hd : decode cc pc = .ok (.ifCond .ne off, 3)) (ht : (pc : Int) + off = (tgt : Int)) (kt : Snd G nL Q (jp t) tgt) (k : Snd G nL Q nx (pc + 3)) : Snd G nL Q (o_if t p_ne0 nx jp cal) pc := s_if (P := fun x => ¬ x = 0) (fun _ _ _ _ _ _ _ _ kt kf => lv_if_ne w.1 w.2.1 hd ht kt (fun q => kf (fun h => h q))) (fun a ha => q_not ((q_eq0 ha).trans (q_beq a 0))) kt k
theorem s_iflt {off : Int} {t tgt : Nat} (w : Wk G cc nL own) (hd : decode cc pc = .ok (.ifCond .lt off, 3)) (ht : (pc : Int) + off = (tgt : Int)) (kt : Snd G nL Q (jp t) tgt) (k : Snd G nL Q nx (pc + 3)) : Snd G nL Q (o_if t p_lt0 nx jp cal) pc := s_if (P := fun x => x < 0) (fun _ _ _ _ _ _ _ _ => lv_if_lt w.1 w.2.1 hd ht) (fun a ha => (q_lt0 ha).trans (q_not (q_ble a 2147483647))) kt k
theorem s_ifle {off : Int} {t tgt : Nat} (w : Wk G cc nL own) (hd : decode cc pc = .ok (.ifCond .le off, 3)) (ht : (pc : Int) + off = (tgt : Int)) (kt : Snd G nL Q (jp t) tgt) (k : Snd G nL Q nx (pc + 3)) : Snd G nL Q (o_if t p_le0 nx jp cal) pc := s_if (P := fun x => x ≤ 0) (fun _ _ _ _ _ _ _ _ => lv_if_le w.1 w.2.1 hd ht) (fun a ha => (q_le0 ha).trans (by
  show _ ↔ Bool.rec (motive := fun _ => Bool) (Bool.not (Nat.ble a 2147483647)) true (Nat.beq a 0) = true
  cases hb : Nat.beq a 0 with
  | true => exact ⟨fun _ => rfl, fun _ => Or.inl (Nat.eq_of_beq_eq_true hb)⟩
  | false => exact ⟨fun q => (q_not (q_ble a 2147483647)).mp (q.resolve_left (fun e => by rw [(q_beq a 0).mp e] at hb; cases hb)), fun q => Or.inr ((q_not (q_ble a 2147483647)).mpr q)⟩)) kt k
theorem s_if2 {P : Int32 → Int32 → Prop} {p : Nat → Nat → Bool} {t tgt : Nat} (row : ∀ (H : Heap) (locs : List Loc) (cn sn : Nat) (Q : State → Prop) (ls : Array Slot) (Vs : List Value) (x y : Int32), (P x y → gW G H locs cn sn Q (F0 (gm G) tgt ls Vs)) → (¬ P x y → gW G H locs cn sn Q (F0 (gm G) (pc + 3) ls Vs)) → gW G H locs cn sn Q (F0 (gm G) pc ls (.int y :: .int x :: Vs))) (hp : ∀ a b, a < 4294967296 → b < 4294967296 → (P (nI a) (nI b) ↔ p a b = true)) (kt : Snd G nL Q (jp t) tgt) (k : Snd G nL Q nx (pc + 3)) : Snd G nL Q (o_if2 t p nx jp cal) pc := by
  intro lv st h z cn sn r hr
  obtain ⟨b, s, rfl, h1⟩ := e_pI_inv (show e_pI st (fun b s => e_pI s fun a s => e_if (p a b) (jp t lv s h z cn sn) (nx lv s h z cn sn)) = some r from hr)
  obtain ⟨a, s, rfl, h1⟩ := e_pI_inv h1
  rcases e_if_inv h1 with ⟨hb, h2⟩ | ⟨hb, h2⟩
  · obtain ⟨hm, hk⟩ := kt _ _ _ _ _ _ _ h2
    refine ⟨hm, fun hc hs ρ ws ls Vs H locs S => ?_⟩
    obtain ⟨T, rfl, hb9, hT⟩ := vl_int S.2.1
    obtain ⟨T, rfl, ha, hT⟩ := vl_int hT
    exact row _ _ _ _ _ _ _ _ _ (fun _ => hk hc hs ρ ws ls T H locs ⟨S.1, hT, S.2.2⟩) (fun q => absurd ((hp a b ha hb9).mpr hb) q)
  · obtain ⟨hm, hk⟩ := k _ _ _ _ _ _ _ h2
    refine ⟨hm, fun hc hs ρ ws ls Vs H locs S => ?_⟩
    obtain ⟨T, rfl, hb9, hT⟩ := vl_int S.2.1
    obtain ⟨T, rfl, ha, hT⟩ := vl_int hT
    exact row _ _ _ _ _ _ _ _ _ (fun q => by rw [(hp a b ha hb9).mp q] at hb; cases hb) (fun _ => hk hc hs ρ ws ls T H locs ⟨S.1, hT, S.2.2⟩)
theorem s_ceq {off : Int} {t tgt : Nat} (w : Wk G cc nL own) (hd : decode cc pc = .ok (.if_icmp .eq off, 3)) (ht : (pc : Int) + off = (tgt : Int)) (kt : Snd G nL Q (jp t) tgt) (k : Snd G nL Q nx (pc + 3)) : Snd G nL Q (o_if2 t p_eq nx jp cal) pc := s_if2 (P := fun x y => x = y) (fun _ _ _ _ _ _ _ _ _ => lv_icmp_eq w.1 w.2.1 hd ht) (fun a b ha hb => (q_eq ha hb).trans (q_beq a b)) kt k
theorem s_cne {off : Int} {t tgt : Nat} (w : Wk G cc nL own) (hd : decode cc pc = .ok (.if_icmp .ne off, 3)) (ht : (pc : Int) + off = (tgt : Int)) (kt : Snd G nL Q (jp t) tgt) (k : Snd G nL Q nx (pc + 3)) : Snd G nL Q (o_if2 t p_ne nx jp cal) pc := s_if2 (P := fun x y => ¬ x = y) (fun _ _ _ _ _ _ _ _ _ kt kf => lv_icmp_ne w.1 w.2.1 hd ht kt (fun q => kf (fun h => h q))) (fun a b ha hb => q_not ((q_eq ha hb).trans (q_beq a b))) kt k
theorem s_clt {off : Int} {t tgt : Nat} (w : Wk G cc nL own) (hd : decode cc pc = .ok (.if_icmp .lt off, 3)) (ht : (pc : Int) + off = (tgt : Int)) (kt : Snd G nL Q (jp t) tgt) (k : Snd G nL Q nx (pc + 3)) : Snd G nL Q (o_if2 t p_lt nx jp cal) pc := s_if2 (P := fun x y => x < y) (fun _ _ _ _ _ _ _ _ _ => lv_icmp_lt w.1 w.2.1 hd ht) (fun a b ha hb => (q_lt ha hb).trans (q_not (q_ble _ _))) kt k
theorem s_cge {off : Int} {t tgt : Nat} (w : Wk G cc nL own) (hd : decode cc pc = .ok (.if_icmp .ge off, 3)) (ht : (pc : Int) + off = (tgt : Int)) (kt : Snd G nL Q (jp t) tgt) (k : Snd G nL Q nx (pc + 3)) : Snd G nL Q (o_if2 t p_ge nx jp cal) pc := s_if2 (P := fun x y => y ≤ x) (fun _ _ _ _ _ _ _ _ _ => lv_icmp_ge w.1 w.2.1 hd ht) (fun a b ha hb => (q_le hb ha).trans (q_ble _ _)) kt k
theorem s_cgt {off : Int} {t tgt : Nat} (w : Wk G cc nL own) (hd : decode cc pc = .ok (.if_icmp .gt off, 3)) (ht : (pc : Int) + off = (tgt : Int)) (kt : Snd G nL Q (jp t) tgt) (k : Snd G nL Q nx (pc + 3)) : Snd G nL Q (o_if2 t p_gt nx jp cal) pc := s_if2 (P := fun x y => y < x) (fun _ _ _ _ _ _ _ _ _ => lv_icmp_gt w.1 w.2.1 hd ht) (fun a b ha hb => (q_lt hb ha).trans (q_not (q_ble _ _))) kt k
theorem s_cle {off : Int} {t tgt : Nat} (w : Wk G cc nL own) (hd : decode cc pc = .ok (.if_icmp .le off, 3)) (ht : (pc : Int) + off = (tgt : Int)) (kt : Snd G nL Q (jp t) tgt) (k : Snd G nL Q nx (pc + 3)) : Snd G nL Q (o_if2 t p_le nx jp cal) pc := s_if2 (P := fun x y => x ≤ y) (fun _ _ _ _ _ _ _ _ _ => lv_icmp_le w.1 w.2.1 hd ht) (fun a b ha hb => (q_le ha hb).trans (q_ble _ _)) kt k
end OPS
