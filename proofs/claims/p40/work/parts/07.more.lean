/-! doubles, floats, longs -/
theorem q_u64 {a : Nat} (h : a < 18446744073709551616) : (UInt64.ofNat a).toNat = a := by
  show a % 2 ^ 64 = a
  omega
theorem q_u32 {a : Nat} (h : a < 4294967296) : (UInt32.ofNat a).toNat = a := by
  show a % 2 ^ 32 = a
  omega
theorem q_m64 (n : Nat) : UInt64.ofNat (Nat.mod n 18446744073709551616) = UInt64.ofNat n := by
  apply UInt64.toNat_inj.mp
  show n % 18446744073709551616 % 2 ^ 64 = n % 2 ^ 64
  omega
theorem q_m32 (n : Nat) : UInt32.ofNat (Nat.mod n 4294967296) = UInt32.ofNat n := by
  apply UInt32.toNat_inj.mp
  show n % 4294967296 % 2 ^ 32 = n % 2 ^ 32
  omega
theorem q_n64 {x : Nat} (hx : x < 18446744073709551616) (h : Nat.ble (Nat.land x 9223372036854775807) 9218868437227405312 = true) : vf_n64 (UInt64.ofNat x) := by
  have h := Nat.le_of_ble_eq_true h
  show UInt64.ofNat x &&& 0x7fffffffffffffff ≤ 0x7ff0000000000000
  rw [UInt64.le_iff_toNat_le, UInt64.toNat_and, q_u64 hx]
  exact h
theorem q_n32 {x : Nat} (hx : x < 4294967296) (h : Nat.ble (Nat.land x 2147483647) 2139095040 = true) : vf_n32 (UInt32.ofNat x) := by
  have h := Nat.le_of_ble_eq_true h
  show UInt32.ofNat x &&& 0x7fffffff ≤ 0x7f800000
  rw [UInt32.le_iff_toNat_le, UInt32.toNat_and, q_u32 hx]
  exact h
theorem q_sgn {a : Nat} (ha : a < 4294967296) : (nI a).toInt = Bool.rec (motive := fun _ => Int) (Int.sub (Int.ofNat a) 4294967296) (Int.ofNat a) (Nat.ble a 2147483647) := by
  rw [q_toInt ha]
  cases hb : Nat.ble a 2147483647 with
  | true =>
    have := Nat.le_of_ble_eq_true hb
    rw [if_pos (by omega)]
    rfl
  | false =>
    have : ¬ a ≤ 2147483647 := fun q => by rw [Nat.ble_eq_true_of_le q] at hb; cases hb
    rw [if_neg (by omega)]
    rfl
section MORE
variable {G : Gm} {nL : Nat} {Q : Rs → State → Prop} {nx : Kt} {jp : Nat → Kt} {cal : Cal} {cc : ByteArray} {own : String} {pc : Nat}
theorem s_lcmp (w : Wk G cc nL own) (hd : decode cc pc = .ok (.lcmp, 1)) (k : Snd G nL Q nx (pc + 1)) : Snd G nL Q (o_lcmp nx jp cal) pc := by
  intro lv st h z cn sn r hr
  obtain ⟨b, t, rfl, h1⟩ := e_pV_inv (show e_pV st (fun b s => e_vL b fun b => e_pV s fun a s => e_vL a fun a => e_if (Nat.beq a b) (nx lv (.inl 0 :: s) h z cn sn) none) = some r from hr)
  obtain ⟨b, rfl, h2⟩ := e_vL_inv h1
  obtain ⟨a0, t, rfl, h3⟩ := e_pV_inv h2
  obtain ⟨a, rfl, h4⟩ := e_vL_inv h3
  obtain ⟨hb, h5⟩ := e_if_t h4
  have hb := Nat.eq_of_beq_eq_true hb
  subst hb
  obtain ⟨hm, hk⟩ := k _ _ _ _ _ _ _ h5
  refine ⟨hm, fun hc hs ρ ws ls Vs H locs S => ?_⟩
  obtain ⟨V, T, rfl, hV, hT⟩ := vl_cons S.2.1
  obtain ⟨-, rfl⟩ := (show a < 18446744073709551616 ∧ V = .long (lN a) from hV)
  obtain ⟨V2, T2, rfl, hV2, hT2⟩ := vl_cons hT
  obtain ⟨-, rfl⟩ := (show a < 18446744073709551616 ∧ V2 = .long (lN a) from hV2)
  refine W.lcmp w.1 w.2.1 hd ?_
  have e : lg_cmp (lN a) (lN a) = nI 0 := by simp [lg_cmp]; rfl
  rw [e]
  exact hk hc hs ρ ws ls _ H locs ⟨S.1, ⟨⟨by decide, rfl⟩, hT2⟩, S.2.2⟩
theorem s_i2d (w : Wk G cc nL own) (hd : decode cc pc = .ok (.i2d, 1)) (k : Snd G nL Q nx (pc + 1)) : Snd G nL Q (o_i2d nx jp cal) pc := by
  intro lv st h z cn sn r hr
  obtain ⟨a, t, rfl, h1⟩ := e_pI_inv (show e_pI st (fun a s => e_force (Nat.mod (FP.Core.fromInt FP.Core.b64 (Bool.rec (motive := fun _ => Int) (Int.sub (Int.ofNat a) 4294967296) (Int.ofNat a) (Nat.ble a 2147483647))) 18446744073709551616) fun x => nx lv (.inr (.inr (.inr (.inl x))) :: s) h z cn sn) = some r from hr)
  rw [e_force_eq] at h1
  obtain ⟨hm, hk⟩ := k _ _ _ _ _ _ _ h1
  refine ⟨hm, fun hc hs ρ ws ls Vs H locs S => ?_⟩
  obtain ⟨T, rfl, ha, hT⟩ := vl_int S.2.1
  refine lv_i2d w.1 w.2.1 hd ?_
  rw [show FP.i2d (nI a) = UInt64.ofNat (FP.Core.fromInt FP.Core.b64 (nI a).toInt) from rfl, q_sgn ha, ← q_m64]
  exact hk hc hs ρ ws ls _ H locs ⟨S.1, ⟨⟨Nat.mod_lt _ (by decide), rfl⟩, hT⟩, S.2.2⟩
theorem s_i2f (w : Wk G cc nL own) (hd : decode cc pc = .ok (.i2f, 1)) (k : Snd G nL Q nx (pc + 1)) : Snd G nL Q (o_i2f nx jp cal) pc := by
  intro lv st h z cn sn r hr
  obtain ⟨a, t, rfl, h1⟩ := e_pI_inv (show e_pI st (fun a s => e_force (Nat.mod (FP.Core.fromInt FP.Core.b32 (Bool.rec (motive := fun _ => Int) (Int.sub (Int.ofNat a) 4294967296) (Int.ofNat a) (Nat.ble a 2147483647))) 4294967296) fun x => nx lv (.inr (.inr (.inr (.inr (.inl x)))) :: s) h z cn sn) = some r from hr)
  rw [e_force_eq] at h1
  obtain ⟨hm, hk⟩ := k _ _ _ _ _ _ _ h1
  refine ⟨hm, fun hc hs ρ ws ls Vs H locs S => ?_⟩
  obtain ⟨T, rfl, ha, hT⟩ := vl_int S.2.1
  refine lv_i2f w.1 w.2.1 hd ?_
  rw [show FP.i2f (nI a) = UInt32.ofNat (FP.Core.fromInt FP.Core.b32 (nI a).toInt) from rfl, q_sgn ha, ← q_m32]
  exact hk hc hs ρ ws ls _ H locs ⟨S.1, ⟨⟨Nat.mod_lt _ (by decide), rfl⟩, hT⟩, S.2.2⟩
theorem s_dbin {f : Nat → Nat → Nat} {g : UInt64 → UInt64 → UInt64} (row : ∀ (H : Heap) (locs : List Loc) (cn sn : Nat) (Q : State → Prop) (ls : Array Slot) (Vs : List Value) (x y : UInt64), vf_n64 (g x y) → gW G H locs cn sn Q (F0 (gm G) (pc + 1) ls (.double (g x y) :: Vs)) → gW G H locs cn sn Q (F0 (gm G) pc ls (.double y :: .double x :: Vs))) (hf : ∀ x y : UInt64, g x y = UInt64.ofNat (f x.toNat y.toNat)) (k : Snd G nL Q nx (pc + 1)) : Snd G nL Q (o_dbin f nx jp cal) pc := by
  intro lv st h z cn sn r hr
  obtain ⟨b, t, rfl, h1⟩ := e_pV_inv (show e_pV st (fun b s => e_vD b fun b => e_pV s fun a s => e_vD a fun a => e_force (Nat.mod (f a b) 18446744073709551616) fun x => e_if (Nat.ble (Nat.land x 9223372036854775807) 9218868437227405312) (nx lv (.inr (.inr (.inr (.inl x))) :: s) h z cn sn) none) = some r from hr)
  obtain ⟨b, rfl, h2⟩ := e_vD_inv h1
  obtain ⟨a0, t, rfl, h3⟩ := e_pV_inv h2
  obtain ⟨a, rfl, h4⟩ := e_vD_inv h3
  rw [e_force_eq] at h4
  obtain ⟨hn, h5⟩ := e_if_t h4
  obtain ⟨hm, hk⟩ := k _ _ _ _ _ _ _ h5
  refine ⟨hm, fun hc hs ρ ws ls Vs H locs S => ?_⟩
  obtain ⟨V, T, rfl, hV, hT⟩ := vl_cons S.2.1
  obtain ⟨hb, rfl⟩ := (show b < 18446744073709551616 ∧ V = .double (UInt64.ofNat b) from hV)
  obtain ⟨V2, T2, rfl, hV2, hT2⟩ := vl_cons hT
  obtain ⟨ha, rfl⟩ := (show a < 18446744073709551616 ∧ V2 = .double (UInt64.ofNat a) from hV2)
  have hx : Nat.mod (f a b) 18446744073709551616 < 18446744073709551616 := Nat.mod_lt _ (by decide)
  have e : g (UInt64.ofNat a) (UInt64.ofNat b) = UInt64.ofNat (Nat.mod (f a b) 18446744073709551616) := by
    rw [hf, q_u64 ha, q_u64 hb, q_m64]
  refine row _ _ _ _ _ _ _ _ _ (by rw [e]; exact q_n64 hx hn) ?_
  rw [e]
  exact hk hc hs ρ ws ls _ H locs ⟨S.1, ⟨⟨hx, rfl⟩, hT2⟩, S.2.2⟩
theorem s_dadd (w : Wk G cc nL own) (hd : decode cc pc = .ok (.dadd, 1)) (k : Snd G nL Q nx (pc + 1)) : Snd G nL Q (o_dbin (FP.Core.add FP.Core.b64) nx jp cal) pc := s_dbin (g := FP.dadd) (fun _ _ _ _ _ _ _ _ _ => lv_dadd w.1 w.2.1 hd) (fun _ _ => rfl) k
theorem s_dsub (w : Wk G cc nL own) (hd : decode cc pc = .ok (.dsub, 1)) (k : Snd G nL Q nx (pc + 1)) : Snd G nL Q (o_dbin (FP.Core.sub FP.Core.b64) nx jp cal) pc := s_dbin (g := FP.dsub) (fun _ _ _ _ _ _ _ _ _ => lv_dsub w.1 w.2.1 hd) (fun _ _ => rfl) k
theorem s_dmul (w : Wk G cc nL own) (hd : decode cc pc = .ok (.dmul, 1)) (k : Snd G nL Q nx (pc + 1)) : Snd G nL Q (o_dbin (FP.Core.mul FP.Core.b64) nx jp cal) pc := s_dbin (g := FP.dmul) (fun _ _ _ _ _ _ _ _ _ => lv_dmul w.1 w.2.1 hd) (fun _ _ => rfl) k
theorem s_ddiv (w : Wk G cc nL own) (hd : decode cc pc = .ok (.ddiv, 1)) (k : Snd G nL Q nx (pc + 1)) : Snd G nL Q (o_dbin (FP.Core.div FP.Core.b64) nx jp cal) pc := s_dbin (g := FP.ddiv) (fun _ _ _ _ _ _ _ _ _ => lv_ddiv w.1 w.2.1 hd) (fun _ _ => rfl) k
theorem s_fdiv (w : Wk G cc nL own) (hd : decode cc pc = .ok (.fdiv, 1)) (k : Snd G nL Q nx (pc + 1)) : Snd G nL Q (o_fdiv nx jp cal) pc := by
  intro lv st h z cn sn r hr
  obtain ⟨b, t, rfl, h1⟩ := e_pV_inv (show e_pV st (fun b s => e_vF b fun b => e_pV s fun a s => e_vF a fun a => e_force (Nat.mod (FP.Core.div FP.Core.b32 a b) 4294967296) fun x => e_if (Nat.ble (Nat.land x 2147483647) 2139095040) (nx lv (.inr (.inr (.inr (.inr (.inl x)))) :: s) h z cn sn) none) = some r from hr)
  obtain ⟨b, rfl, h2⟩ := e_vF_inv h1
  obtain ⟨a0, t, rfl, h3⟩ := e_pV_inv h2
  obtain ⟨a, rfl, h4⟩ := e_vF_inv h3
  rw [e_force_eq] at h4
  obtain ⟨hn, h5⟩ := e_if_t h4
  obtain ⟨hm, hk⟩ := k _ _ _ _ _ _ _ h5
  refine ⟨hm, fun hc hs ρ ws ls Vs H locs S => ?_⟩
  obtain ⟨V, T, rfl, hV, hT⟩ := vl_cons S.2.1
  obtain ⟨hb, rfl⟩ := (show b < 4294967296 ∧ V = .float (UInt32.ofNat b) from hV)
  obtain ⟨V2, T2, rfl, hV2, hT2⟩ := vl_cons hT
  obtain ⟨ha, rfl⟩ := (show a < 4294967296 ∧ V2 = .float (UInt32.ofNat a) from hV2)
  have hx : Nat.mod (FP.Core.div FP.Core.b32 a b) 4294967296 < 4294967296 := Nat.mod_lt _ (by decide)
  have e : FP.fdiv (UInt32.ofNat a) (UInt32.ofNat b) = UInt32.ofNat (Nat.mod (FP.Core.div FP.Core.b32 a b) 4294967296) := by
    rw [show FP.fdiv (UInt32.ofNat a) (UInt32.ofNat b) = UInt32.ofNat (FP.Core.div FP.Core.b32 (UInt32.ofNat a).toNat (UInt32.ofNat b).toNat) from rfl, q_u32 ha, q_u32 hb, q_m32]
  refine lv_fdiv w.1 w.2.1 hd (by rw [e]; exact q_n32 hx hn) ?_
  rw [e]
  exact hk hc hs ρ ws ls _ H locs ⟨S.1, ⟨⟨hx, rfl⟩, hT2⟩, S.2.2⟩
theorem q_ord {o : Option Ordering} (h : Option.rec (motive := fun _ => Bool) false (fun o => Ordering.rec (motive := fun _ => Bool) false true false o) o = true) : o = some .eq := by
  rcases o with _ | o
  · cases h
  · cases o
    · cases h
    · rfl
    · cases h
theorem s_dcmp {op : CmpOp} (w : Wk G cc nL own) (hd : decode cc pc = .ok (.dcmp op, 1)) (k : Snd G nL Q nx (pc + 1)) : Snd G nL Q (o_dcmp nx jp cal) pc := by
  intro lv st h z cn sn r hr
  obtain ⟨b, t, rfl, h1⟩ := e_pV_inv (show e_pV st (fun b s => e_vD b fun b => e_pV s fun a s => e_vD a fun a => e_if (Option.rec (motive := fun _ => Bool) false (fun o => Ordering.rec (motive := fun _ => Bool) false true false o) (FP.Core.cmp FP.Core.b64 a b)) (nx lv (.inl 0 :: s) h z cn sn) none) = some r from hr)
  obtain ⟨b, rfl, h2⟩ := e_vD_inv h1
  obtain ⟨a0, t, rfl, h3⟩ := e_pV_inv h2
  obtain ⟨a, rfl, h4⟩ := e_vD_inv h3
  obtain ⟨hn, h5⟩ := e_if_t h4
  have hn := q_ord hn
  obtain ⟨hm, hk⟩ := k _ _ _ _ _ _ _ h5
  refine ⟨hm, fun hc hs ρ ws ls Vs H locs S => ?_⟩
  obtain ⟨V, T, rfl, hV, hT⟩ := vl_cons S.2.1
  obtain ⟨hb, rfl⟩ := (show b < 18446744073709551616 ∧ V = .double (UInt64.ofNat b) from hV)
  obtain ⟨V2, T2, rfl, hV2, hT2⟩ := vl_cons hT
  obtain ⟨ha, rfl⟩ := (show a < 18446744073709551616 ∧ V2 = .double (UInt64.ofNat a) from hV2)
  refine lv_dcmp w.1 w.2.1 hd ?_
  rw [show FP.dcmp (UInt64.ofNat a) (UInt64.ofNat b) = FP.Core.cmp FP.Core.b64 (UInt64.ofNat a).toNat (UInt64.ofNat b).toNat from rfl, q_u64 ha, q_u64 hb, hn]
  exact hk hc hs ρ ws ls _ H locs ⟨S.1, ⟨⟨by decide, by cases op <;> rfl⟩, hT2⟩, S.2.2⟩
theorem s_fcmp {op : CmpOp} (w : Wk G cc nL own) (hd : decode cc pc = .ok (.fcmp op, 1)) (k : Snd G nL Q nx (pc + 1)) : Snd G nL Q (o_fcmp nx jp cal) pc := by
  intro lv st h z cn sn r hr
  obtain ⟨b, t, rfl, h1⟩ := e_pV_inv (show e_pV st (fun b s => e_vF b fun b => e_pV s fun a s => e_vF a fun a => e_if (Option.rec (motive := fun _ => Bool) false (fun o => Ordering.rec (motive := fun _ => Bool) false true false o) (FP.Core.cmp FP.Core.b32 a b)) (nx lv (.inl 0 :: s) h z cn sn) none) = some r from hr)
  obtain ⟨b, rfl, h2⟩ := e_vF_inv h1
  obtain ⟨a0, t, rfl, h3⟩ := e_pV_inv h2
  obtain ⟨a, rfl, h4⟩ := e_vF_inv h3
  obtain ⟨hn, h5⟩ := e_if_t h4
  have hn := q_ord hn
  obtain ⟨hm, hk⟩ := k _ _ _ _ _ _ _ h5
  refine ⟨hm, fun hc hs ρ ws ls Vs H locs S => ?_⟩
  obtain ⟨V, T, rfl, hV, hT⟩ := vl_cons S.2.1
  obtain ⟨hb, rfl⟩ := (show b < 4294967296 ∧ V = .float (UInt32.ofNat b) from hV)
  obtain ⟨V2, T2, rfl, hV2, hT2⟩ := vl_cons hT
  obtain ⟨ha, rfl⟩ := (show a < 4294967296 ∧ V2 = .float (UInt32.ofNat a) from hV2)
  refine lv_fcmp w.1 w.2.1 hd ?_
  rw [show FP.fcmp (UInt32.ofNat a) (UInt32.ofNat b) = FP.Core.cmp FP.Core.b32 (UInt32.ofNat a).toNat (UInt32.ofNat b).toNat from rfl, q_u32 ha, q_u32 hb, hn]
  exact hk hc hs ρ ws ls _ H locs ⟨S.1, ⟨⟨by decide, by cases op <;> rfl⟩, hT2⟩, S.2.2⟩
/-! a long or double into a variable -/
theorem s_lst {j i len : Nat} (e : j + 1 = i) (row : ∀ (H : Heap) (locs : List Loc) (cn sn : Nat) (Q : State → Prop) (ls : Array Slot) (Vs : List Value) (x : Int64) (q : List (Nat × Value)), lv_has ls nL q → i + 1 < nL → (∀ ls' : Array Slot, lv_has ls' nL ((i, Value.long x) :: q.filter (fun q => !(q.1 == i) && (!(q.1 == i + 1) && !(q.1 + 1 == i && q.2.category == 2)))) → gW G H locs cn sn Q (F0 (gm G) (pc + len) ls' Vs)) → gW G H locs cn sn Q (F0 (gm G) pc ls (.long x :: Vs))) (k : Snd G nL Q nx (pc + len)) : Snd G nL Q (o_wst false j nx jp cal) pc := by
  subst e
  intro lv st h z cn sn r hr
  obtain ⟨x, t, rfl, h1⟩ := e_pV_inv (show e_pV st (fun x s => e_if (Bool.rec (motive := fun _ => Bool) true false (e_one x)) (e_vL x fun _ => e_nth lv j fun v => e_if (e_one v) (e_upd lv (Nat.succ j) x fun l => e_upd l (Nat.succ (Nat.succ j)) (.inr (.inr (.inr (.inr (.inr 2))))) fun l => nx l s h z cn sn) none) none) = some r from hr)
  obtain ⟨-, h1⟩ := e_if_t h1
  obtain ⟨x, rfl, h1⟩ := e_vL_inv h1
  obtain ⟨v, h2, h3⟩ := e_nth_inv h1
  obtain ⟨h4, h5⟩ := e_if_t h3
  obtain ⟨h6, h7⟩ := e_upd_inv h5
  obtain ⟨h8, h9⟩ := e_upd_inv h7
  obtain ⟨hm, hk⟩ := k _ _ _ _ _ _ _ h9
  refine ⟨hm, fun hc hs ρ ws ls Vs H locs S => ?_⟩
  obtain ⟨V, T, rfl, hV, hT⟩ := vl_cons S.2.1
  obtain ⟨hx, rfl⟩ := (show x < 18446744073709551616 ∧ V = .long (lN x) from hV)
  obtain ⟨hlen, q, hq, hv⟩ := S.1
  rw [List.length_set] at h8
  refine row _ _ _ _ _ _ _ _ q hq (by rw [← hlen]; exact h8) (fun ls' hl => hk hc hs ρ ws ls' T H locs ⟨?_, hT, S.2.2⟩)
  exact LR_st2 hlen hv ⟨hx, rfl⟩ (q_ahead h2 h4 rfl) hl
theorem s_lst_n {j i : Nat} {f : Fin 4} (w : Wk G cc nL own) (hd : decode cc pc = .ok (.lstore_n f, 1)) (hf : (f : Nat) = i) (e : j + 1 = i) (k : Snd G nL Q nx (pc + 1)) : Snd G nL Q (o_wst false j nx jp cal) pc := s_lst e (fun _ _ _ _ _ _ _ _ _ h hn kk => lv_lstore_n w.1 w.2.1 hd hf h hn rfl kk) k
theorem s_dst {j i len : Nat} (e : j + 1 = i) (row : ∀ (H : Heap) (locs : List Loc) (cn sn : Nat) (Q : State → Prop) (ls : Array Slot) (Vs : List Value) (x : UInt64) (q : List (Nat × Value)), lv_has ls nL q → i + 1 < nL → (∀ ls' : Array Slot, lv_has ls' nL ((i, Value.double x) :: q.filter (fun q => !(q.1 == i) && (!(q.1 == i + 1) && !(q.1 + 1 == i && q.2.category == 2)))) → gW G H locs cn sn Q (F0 (gm G) (pc + len) ls' Vs)) → gW G H locs cn sn Q (F0 (gm G) pc ls (.double x :: Vs))) (k : Snd G nL Q nx (pc + len)) : Snd G nL Q (o_wst true j nx jp cal) pc := by
  subst e
  intro lv st h z cn sn r hr
  obtain ⟨x, t, rfl, h1⟩ := e_pV_inv (show e_pV st (fun x s => e_if (Bool.rec (motive := fun _ => Bool) true false (e_one x)) (e_vD x fun _ => e_nth lv j fun v => e_if (e_one v) (e_upd lv (Nat.succ j) x fun l => e_upd l (Nat.succ (Nat.succ j)) (.inr (.inr (.inr (.inr (.inr 2))))) fun l => nx l s h z cn sn) none) none) = some r from hr)
  obtain ⟨-, h1⟩ := e_if_t h1
  obtain ⟨x, rfl, h1⟩ := e_vD_inv h1
  obtain ⟨v, h2, h3⟩ := e_nth_inv h1
  obtain ⟨h4, h5⟩ := e_if_t h3
  obtain ⟨h6, h7⟩ := e_upd_inv h5
  obtain ⟨h8, h9⟩ := e_upd_inv h7
  obtain ⟨hm, hk⟩ := k _ _ _ _ _ _ _ h9
  refine ⟨hm, fun hc hs ρ ws ls Vs H locs S => ?_⟩
  obtain ⟨V, T, rfl, hV, hT⟩ := vl_cons S.2.1
  obtain ⟨hx, rfl⟩ := (show x < 18446744073709551616 ∧ V = .double (UInt64.ofNat x) from hV)
  obtain ⟨hlen, q, hq, hv⟩ := S.1
  rw [List.length_set] at h8
  refine row _ _ _ _ _ _ _ _ q hq (by rw [← hlen]; exact h8) (fun ls' hl => hk hc hs ρ ws ls' T H locs ⟨?_, hT, S.2.2⟩)
  exact LR_st2 hlen hv ⟨hx, rfl⟩ (q_ahead h2 h4 rfl) hl
theorem s_dst_n {j i : Nat} {f : Fin 4} (w : Wk G cc nL own) (hd : decode cc pc = .ok (.dstore_n f, 1)) (hf : (f : Nat) = i) (e : j + 1 = i) (k : Snd G nL Q nx (pc + 1)) : Snd G nL Q (o_wst true j nx jp cal) pc := s_dst e (fun _ _ _ _ _ _ _ _ _ h hn kk => lv_dstore_n w.1 w.2.1 hd hf h hn rfl kk) k
theorem s_dst_w {j i : Nat} (w : Wk G cc nL own) (hd : decode cc pc = .ok (.dstore i, 2)) (e : j + 1 = i) (k : Snd G nL Q nx (pc + 2)) : Snd G nL Q (o_wst true j nx jp cal) pc := s_dst e (fun _ _ _ _ _ _ _ _ _ h hn kk => lv_dstore w.1 w.2.1 hd h hn rfl kk) k
/-! a switch over a table -/
theorem s_sw {dflt lo9 hi9 : Int} {offs : Array Int} {len lo : Nat} {ts : List Nat} {P : Nat → Nat} (w : Wk G cc nL own) (hd : decode cc pc = .ok (.tableswitch dflt lo9 hi9 offs, len)) (e1 : lo9 = (lo : Int)) (e2 : hi9 = ((lo + ts.length : Nat) : Int) - 1) (e3 : lo + ts.length ≤ 1000) (e4 : ∀ j, j < ts.length → ∃ (t : Nat) (off : Int), ts[j]? = some t ∧ offs[j]? = some off ∧ (pc : Int) + off = ((P t : Nat) : Int)) (kt : ∀ t, Snd G nL Q (jp t) (P t)) : Snd G nL Q (o_sw lo ts nx jp cal) pc := by
  intro lv st h z cn sn r hr
  obtain ⟨a, s, rfl, h1⟩ := e_pI_inv (show e_pI st (fun a s => e_if (Nat.ble lo a) (e_op (e_at ts (Nat.sub a lo)) fun t => jp t lv s h z cn sn) none) = some r from hr)
  obtain ⟨hb, h1⟩ := e_if_t h1
  have hb := Nat.le_of_ble_eq_true hb
  obtain ⟨t, h2, h3⟩ := e_op_inv h1
  rw [e_at_eq] at h2
  have h2 : ts[a - lo]? = some t := h2
  have hj := (List.getElem?_eq_some_iff.mp h2).1
  obtain ⟨t2, off, h4, h5, h6⟩ := e4 (a - lo) hj
  cases Option.some.inj (h4.symm.trans h2)
  obtain ⟨hm, hk⟩ := kt t _ _ _ _ _ _ _ h3
  refine ⟨hm, fun hc hs ρ ws ls Vs H locs S => ?_⟩
  obtain ⟨T, rfl, ha, hT⟩ := vl_int S.2.1
  have e5 : (nI a).toInt = (a : Int) := nI_toInt (by omega)
  refine lv_tableIn w.1 w.2.1 hd (by rw [e5]; omega) (by rw [e5]; omega) (off := off) (tgt := P t) ?_ h6 (hk hc hs ρ ws ls T H locs ⟨S.1, hT, S.2.2⟩)
  rw [e5, e1, show ((a : Int) - (lo : Int)).toNat = a - lo by omega]
  exact h5
end MORE
