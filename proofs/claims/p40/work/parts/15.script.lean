/-! THE SCRIPT'S TWO READERS: 'at' and 'some' -/
theorem dL_at_0 : decode cL_at 0 = .ok (.iload_n 1, 1) := by decide +kernel
theorem dL_at_1 : decode cL_at 1 = .ok (.aload_n 0, 1) := by decide +kernel
theorem dL_at_2 : decode cL_at 2 = .ok (.arraylength, 1) := by decide +kernel
theorem dL_at_3 : decode cL_at 3 = .ok (.if_icmp .ge 9, 3) := by decide +kernel
theorem dL_at_6 : decode cL_at 6 = .ok (.aload_n 0, 1) := by decide +kernel
theorem dL_at_7 : decode cL_at 7 = .ok (.iload_n 1, 1) := by decide +kernel
theorem dL_at_8 : decode cL_at 8 = .ok (.iaload, 1) := by decide +kernel
theorem dL_at_9 : decode cL_at 9 = .ok (.goto 4, 3) := by decide +kernel
theorem dL_at_12 : decode cL_at 12 = .ok (.iconst 0, 1) := by decide +kernel
theorem dL_at_13 : decode cL_at 13 = .ok (.ireturn, 1) := by decide +kernel
theorem dL_some_0 : decode cL_some 0 = .ok (.iload_n 0, 1) := by decide +kernel
theorem dL_some_1 : decode cL_some 1 = .ok (.iload_n 1, 1) := by decide +kernel
theorem dL_some_2 : decode cL_some 2 = .ok (.irem, 1) := by decide +kernel
theorem dL_some_3 : decode cL_some 3 = .ok (.istore_n 2, 1) := by decide +kernel
theorem dL_some_4 : decode cL_some 4 = .ok (.iload_n 2, 1) := by decide +kernel
theorem dL_some_5 : decode cL_some 5 = .ok (.ifCond .ge 9, 3) := by decide +kernel
theorem dL_some_8 : decode cL_some 8 = .ok (.iload_n 2, 1) := by decide +kernel
theorem dL_some_9 : decode cL_some 9 = .ok (.iload_n 1, 1) := by decide +kernel
theorem dL_some_10 : decode cL_some 10 = .ok (.iadd, 1) := by decide +kernel
theorem dL_some_11 : decode cL_some 11 = .ok (.goto 4, 3) := by decide +kernel
theorem dL_some_14 : decode cL_some 14 = .ok (.iload_n 2, 1) := by decide +kernel
theorem dL_some_15 : decode cL_some 15 = .ok (.ireturn, 1) := by decide +kernel
def sm (x m : Int32) : Int32 := if 0 ≤ x % m then x % m else x % m + m
theorem sm_rng (x : Int32) {m : Nat} (h1 : 1 ≤ m) (h2 : m ≤ 1000) : ∃ v, v < m ∧ sm x (nI m) = nI v := by
  have hm : (nI m).toInt = (m : Int) := nI_toInt (by omega)
  have hr : (x % nI m).toInt = x.toInt.tmod (m : Int) := by rw [Int32.toInt_mod, hm]
  have hb1 : x.toInt.tmod (m : Int) < (m : Int) := Int.tmod_lt_of_pos _ (by omega)
  have hb2 : -(m : Int) < x.toInt.tmod (m : Int) := Int.lt_tmod_of_pos _ (by omega)
  unfold sm
  by_cases h : 0 ≤ x % nI m
  · rw [if_pos h]
    have h3 : 0 ≤ x.toInt.tmod (m : Int) := by
      have := Int32.le_iff_toInt_le.mp h
      rwa [hr, show (0 : Int32).toInt = 0 from by decide] at this
    refine ⟨(x.toInt.tmod (m : Int)).toNat, by omega, Int32.toInt_inj.mp ?_⟩
    rw [hr, nI_toInt (by omega)]
    omega
  · rw [if_neg h]
    have h3 : ¬ 0 ≤ x.toInt.tmod (m : Int) := by
      intro q
      refine h (Int32.le_iff_toInt_le.mpr ?_)
      rw [hr, show (0 : Int32).toInt = 0 from by decide]
      exact q
    refine ⟨(x.toInt.tmod (m : Int) + m).toNat, by omega, Int32.toInt_inj.mp ?_⟩
    rw [Int32.toInt_add, hr, hm, nI_toInt (by omega)]
    show Int.bmod _ 4294967296 = _
    rw [Int.bmod_def]
    split <;> omega
noncomputable def a_at (as : List AV) (h : AH) (z c n : Nat) : RR := match as with
  | [.inr (.inr (.inr (.inr (.inr 0)))), .inl k] => e_if (Nat.ble k 999) (some (.inl (.inl (some (.inr (.inr (.inr (.inr (.inr (k + 3)))))))), h, z, c, n)) none
  | _ => none
noncomputable def o_atb : Op := fun _ _ _ l s h z c n => e_nil s (a_at l h z c n)
theorem a_at_inv {as : List AV} {h : AH} {z c n : Nat} {r : Rs} (hr : a_at as h z c n = some r) : ∃ k, k ≤ 999 ∧ as = [.inr (.inr (.inr (.inr (.inr 0)))), .inl k] ∧ r = (.inl (.inl (some (.inr (.inr (.inr (.inr (.inr (k + 3)))))))), h, z, c, n) := by
  unfold a_at at hr
  split at hr
  · rename_i k
    obtain ⟨h1, h2⟩ := e_if_t hr
    exact ⟨k, Nat.le_of_ble_eq_true h1, rfl, (Option.some.inj h2).symm⟩
  · exact no_none hr
noncomputable def e_vs (vs : List (Nat × (Nat × Nat))) (k m : Nat) (f : Nat → RR) : RR := List.rec (motive := fun _ => RR) none (fun q _ ih => e_if (Nat.beq q.1 k) (e_if (Nat.beq q.2.1 m) (f q.2.2) ih) ih) vs
theorem e_vs_inv {vs : List (Nat × (Nat × Nat))} {k m : Nat} {f : Nat → RR} {r : Rs} (h : e_vs vs k m f = some r) : ∃ v, (k, m, v) ∈ vs ∧ f v = some r := by
  induction vs with
  | nil => exact no_none h
  | cons q t ih =>
    obtain ⟨a, b, v⟩ := q
    rcases e_if_inv (show e_if (Nat.beq a k) (e_if (Nat.beq b m) (f v) (e_vs t k m f)) (e_vs t k m f) = some r from h) with ⟨h1, h2⟩ | ⟨-, h2⟩
    · rcases e_if_inv h2 with ⟨h3, h4⟩ | ⟨-, h4⟩
      · cases Nat.eq_of_beq_eq_true h1
        cases Nat.eq_of_beq_eq_true h3
        exact ⟨v, List.mem_cons_self, h4⟩
      · obtain ⟨w, h5, h6⟩ := ih h4
        exact ⟨w, List.mem_cons_of_mem _ h5, h6⟩
    · obtain ⟨w, h5, h6⟩ := ih h2
      exact ⟨w, List.mem_cons_of_mem _ h5, h6⟩
noncomputable def a_some (vs : List (Nat × (Nat × Nat))) (as : List AV) (h : AH) (z c n : Nat) : RR := match as with
  | [.inr (.inr (.inr (.inr (.inr (k + 3))))), .inl m] => e_vs vs k m fun v => some (.inl (.inl (some (.inl v))), h, z, c, n)
  | _ => none
theorem a_some_inv {vs : List (Nat × (Nat × Nat))} {as : List AV} {h : AH} {z c n : Nat} {r : Rs} (hr : a_some vs as h z c n = some r) : ∃ k m v, (k, m, v) ∈ vs ∧ as = [.inr (.inr (.inr (.inr (.inr (k + 3))))), .inl m] ∧ r = (.inl (.inl (some (.inl v))), h, z, c, n) := by
  unfold a_some at hr
  split at hr
  · rename_i k m
    obtain ⟨v, h1, h2⟩ := e_vs_inv hr
    exact ⟨k, m, v, h1, rfl, (Option.some.inj h2).symm⟩
  · exact no_none hr
noncomputable def a_smb (vs : List (Nat × (Nat × Nat))) (l : List AV) (h : AH) (z c n : Nat) : RR := match l with
  | [a, b, _] => a_some vs [a, b] h z c n
  | _ => none
noncomputable def o_smb (vs : List (Nat × (Nat × Nat))) : Op := fun _ _ _ l s h z c n => e_nil s (a_smb vs l h z c n)
/-- what the script's ints come to -/
def vsOK (X : Nat × (Nat × (Nat → Int32))) (vs : List (Nat × (Nat × Nat))) : Prop := X.2.1 ≤ 260 ∧ ∀ q ∈ vs, (1 ≤ q.2.1 ∧ q.2.1 ≤ 1000) ∧ q.2.2 < q.2.1 ∧ sm (xAt X q.1) (nI q.2.1) = nI q.2.2
section SCRIPT
variable {G : Gm} {nx : Kt} {jp : Nat → Kt} {cal : Cal}
theorem at_snd (w : Wk G cL_at 2 RL) (hL : (gX G).2.1 ≤ 260) (hre : (gk G).sig.returnType = some .int) : Snd G 2 (Qm G) (o_atb nx jp cal) 0 := by
  intro lv st h z cn sn r hr
  obtain ⟨rfl, h1⟩ := e_nil_inv (show e_nil st (a_at lv h z cn sn) = some r from hr)
  obtain ⟨k, hk, rfl, rfl⟩ := a_at_inv h1
  refine ⟨⟨Nat.le_refl _, Nat.le_refl _⟩, fun hcc hss ρ ws ls Vs H locs S => ?_⟩
  cases vl_nil S.2.1
  obtain ⟨V0, h0, hV0⟩ := LR_at S.1 (j := 0) rfl (by intro q; cases q)
  cases (show V0 = .ref (gX G).1 from hV0)
  obtain ⟨V1, h1, hV1⟩ := LR_at S.1 (j := 1) rfl (by intro q; cases q)
  obtain ⟨-, rfl⟩ := (show k < 4294967296 ∧ V1 = .int (nI k) from hV1)
  obtain ⟨-, -, -, -, -, hX, hbl, hbA0, -⟩ := w.cx
  have hbA : ¬ gA G (gX G).1 := fun q => hbA0 (w.sub _ q)
  have hS := S.2.2.2.2.2.2
  have hL2 : (gX G).2.1 < 2 ^ 31 := by omega
  refine lv_iload_n w.1 w.2.1 dL_at_0 rfl h1 ?_
  refine lv_aload_n w.1 w.2.1 dL_at_1 rfl h0 ?_
  refine va_slen w.1 w.2.1 hX hbl hbA hS dL_at_2 ?_
  have hret : ∀ (v : Int32), v = xAt (gX G) k → gW G H locs cn sn (Qm G (.inl (.inl (some (.inr (.inr (.inr (.inr (.inr (k + 3)))))))), h, z, cn, sn)) (F0 (gm G) 13 ls [.int v]) := fun v hv =>
    vx_ret (W.iret (Qc := Qc G.2.2 (.inl (.inl (some (.inr (.inr (.inr (.inr (.inr (k + 3)))))))), h, z, cn, sn)) w.1 w.2.1 hre (q_end (o := .inl (.inl (some (.inr (.inr (.inr (.inr (.inr (k + 3)))))))) ) S (V := some (.int v)) (by show Value.int v = _; rw [hv]) _) S.2.2.2.2.2.2.2.2 dL_at_13 w.lk)
  refine lv_icmp_ge (tgt := 12) w.1 w.2.1 dL_at_3 (by decide) (fun c1 => ?_) (fun c1 => ?_)
  · refine lv_iconst (v := 0) w.1 w.2.1 dL_at_12 (by decide) ?_
    refine hret 0 ?_
    unfold xAt
    rw [if_neg]
    intro q
    exact nI_ge q (by omega) c1
  · have hlt : k < (gX G).2.1 := by
      rcases Nat.lt_or_ge k (gX G).2.1 with q | q
      · exact q
      · exact absurd (nI_le q (by omega)) c1
    refine lv_aload_n w.1 w.2.1 dL_at_6 rfl h0 ?_
    refine lv_iload_n w.1 w.2.1 dL_at_7 rfl h1 ?_
    refine va_sld w.1 w.2.1 hX hbl hbA hS (vp_in_nI hlt hL2) dL_at_8 ?_
    refine lv_goto (tgt := 13) w.1 w.2.1 dL_at_9 (by decide) ?_
    refine hret _ ?_
    unfold xAt
    rw [if_pos hlt, nI_clamp (by omega)]
theorem some_snd {vs : List (Nat × (Nat × Nat))} (w : Wk G cL_some 3 RL) (hv : vsOK (gX G) vs) (hre : (gk G).sig.returnType = some .int) : Snd G 3 (Qm G) (o_smb vs nx jp cal) 0 := by
  intro lv st h z cn sn r hr
  obtain ⟨rfl, h1⟩ := e_nil_inv (show e_nil st (a_smb vs lv h z cn sn) = some r from hr)
  unfold a_smb at h1
  split at h1
  rotate_left
  · exact no_none h1
  rename_i a b u
  obtain ⟨k, m, v, hm, he, rfl⟩ := a_some_inv h1
  cases he
  obtain ⟨⟨hm1, hm2⟩, hvm, hsm⟩ := hv.2 _ hm
  have hm1 : 1 ≤ m := hm1
  have hm2 : m ≤ 1000 := hm2
  have hvm : v < m := hvm
  have hsm : sm (xAt (gX G) k) (nI m) = nI v := hsm
  refine ⟨⟨Nat.le_refl _, Nat.le_refl _⟩, fun hcc hss ρ ws ls Vs H locs S => ?_⟩
  cases vl_nil S.2.1
  obtain ⟨-, q, hq, hat⟩ := S.1
  rcases hat 0 _ rfl with e | ⟨V0, m0, hV0⟩
  · cases e
  rcases hat 1 _ rfl with e | ⟨V1, m1, hV1⟩
  · cases e
  cases (show V0 = .int (xAt (gX G) k) from hV0)
  obtain ⟨-, rfl⟩ := (show m < 4294967296 ∧ V1 = .int (nI m) from hV1)
  have h0 := hq.2.2 _ m0
  have h1 := hq.2.2 _ m1
  refine lv_iload_n w.1 w.2.1 dL_some_0 rfl h0 ?_
  refine lv_iload_n w.1 w.2.1 dL_some_1 rfl h1 ?_
  refine lv_irem w.1 w.2.1 dL_some_2 (nI_ne0 (by omega) (by omega)) ?_
  rw [irem_eq_mod]
  refine lv_istore_n w.1 w.2.1 dL_some_3 rfl hq (by decide) rfl (fun ls2 hq2 => ?_)
  have h2 := hq2.2.2 _ List.mem_cons_self
  have h3 := hq2.2.2 (1, Value.int (nI m)) (List.mem_cons_of_mem _ (List.mem_filter.mpr ⟨m1, rfl⟩))
  have hret : ∀ (x : Int32), x = nI v → gW G H locs cn sn (Qm G (.inl (.inl (some (.inl v))), h, z, cn, sn)) (F0 (gm G) 15 ls2 [.int x]) := fun x hx =>
    vx_ret (W.iret (Qc := Qc G.2.2 (.inl (.inl (some (.inl v))), h, z, cn, sn)) w.1 w.2.1 hre (q_end (o := .inl (.inl (some (.inl v)))) S (V := some (.int x)) ⟨by omega, by rw [hx]⟩ _) S.2.2.2.2.2.2.2.2 dL_some_15 w.lk)
  refine lv_iload_n w.1 w.2.1 dL_some_4 rfl h2 ?_
  unfold sm at hsm
  refine lv_if_ge (tgt := 14) w.1 w.2.1 dL_some_5 (by decide) (fun c1 => ?_) (fun c1 => ?_)
  · refine lv_iload_n w.1 w.2.1 dL_some_14 rfl h2 ?_
    rw [if_pos c1] at hsm
    exact hret _ hsm
  · refine lv_iload_n w.1 w.2.1 dL_some_8 rfl h2 ?_
    refine lv_iload_n w.1 w.2.1 dL_some_9 rfl h3 ?_
    refine lv_iadd w.1 w.2.1 dL_some_10 ?_
    refine lv_goto (tgt := 15) w.1 w.2.1 dL_some_11 (by decide) ?_
    rw [if_neg c1] at hsm
    exact hret _ hsm
end SCRIPT
