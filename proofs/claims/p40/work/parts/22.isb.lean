/-! THE VALUES, SOLVED BACKWARD: one run of it on a new object of values -/
def Z441 : List Nat := List.replicate 441 0
abbrev fs_isb : List AV := [.inr (.inl 2), .inr (.inl 3), .inl 7, .inl 7, .inl 0, .inl 0, .inl 50, .inl 30]
def H_isb : AH := [[.inl (10, fs_isb), .inr (.inr (441, Z441)), .inr (.inr (441, Z441))]]
def H2_isb : AH := [[.inl (10, fs_isb), .inr (.inr (441, L1_isb)), .inr (.inr (441, L2_isb))]]
noncomputable def r_isb : RR := e_exec tabV 10 5 [.inr (.inl 1)] H_isb 3
def ck_isb (r : RR) : Bool := match r with
  | some (.inl (.inl (some (.inl o))), [[.inl (k, [.inr (.inl r1), .inr (.inl r2), .inl x1, .inl x2, .inl x3, .inl x4, .inl x5, .inl x6]), .inr (.inr (m1, A)), .inr (.inr (m2, B))]], z', c', n') => o == 1 && (k == 10 && (r1 == 2 && (r2 == 3 && (x1 == 7 && (x2 == 7 && (x3 == 0 && (x4 == 0 && (x5 == 50 && (x6 == 30 && (m1 == 441 && (A == L1_isb && (m2 == 441 && (B == L2_isb && (z' == 3 && (c' == 0 && n' == 0)))))))))))))))
  | _ => false
theorem ck_isb_inv {r : RR} (h : ck_isb r = true) : r = some (.inl (.inl (some (.inl 1))), H2_isb, 3, 0, 0) := by
  unfold ck_isb at h
  split at h
  · simp only [Bool.and_eq_true, beq_iff_eq] at h
    obtain ⟨rfl, rfl, rfl, rfl, rfl, rfl, rfl, rfl, rfl, rfl, rfl, rfl, rfl, rfl, rfl, rfl, rfl⟩ := h
    rfl
  · cases h
theorem run_isb0 : ck_isb r_isb = true := by decide +kernel
theorem run_isb : r_isb = some (.inl (.inl (some (.inl 1))), H2_isb, 3, 0, 0) := ck_isb_inv run_isb0
theorem L1_len : L1_isb.length = 441 := by decide +kernel
theorem L2_len : L2_isb.length = 441 := by decide +kernel
theorem e_zero_inv {xs : List Nat} (h : e_zero xs = true) : xs = List.replicate xs.length 0 := by
  induction xs with
  | nil => rfl
  | cons x t ih =>
    have h1 : Bool.rec (motive := fun _ => Bool) false (e_zero t) (Nat.beq x 0) = true := h
    cases hb : Nat.beq x 0 with
    | false => rw [hb] at h1; cases h1
    | true =>
      rw [hb] at h1
      have h2 : e_zero t = true := h1
      cases Nat.eq_of_beq_eq_true hb
      show 0 :: t = 0 :: List.replicate t.length 0
      rw [← ih h2]
theorem va_nd3 {a p q : Nat} (h1 : a ≠ p) (h2 : a ≠ q) (h3 : p ≠ q) : va_nd [a, p, q] = true := by
  simp [va_nd, h1, h2, h3, Ne.symm h1, Ne.symm h2, Ne.symm h3]
section ISB
variable {G : Gm} {nL : Nat} {nx : Kt} {jp : Nat → Kt} {cal : Cal} {cc : ByteArray} {pc d : Nat}
theorem s_isb9 (w : Wk G cc nL RX11) (hd10 : 10 ≤ d) (hfr : 10 + d + 1 ≤ (gR G).frames) (hlo : 260 + 60 * d ≤ (gR G).locals) (hd : decode cc pc = .ok (.invokevirtual 508, 3)) (kk : Snd G nL (Qm G) nx (pc + 3)) : Snd G nL (Qm G) (o_isb L1_isb L2_isb 0 0 nx jp cal) pc := by
  intro lv st h z cn sn r hr
  obtain ⟨a, t, rfl, g1⟩ := e_pR_inv hr
  obtain ⟨hb, g1⟩ := e_if_t g1
  have hb := Nat.le_of_ble_eq_true hb
  obtain ⟨fs, g2, g3⟩ := e_op_inv g1
  have g2 := e_kind_inv g2
  obtain ⟨v, fs1, rfl, k1⟩ := e_pV_inv g3
  obtain ⟨p, rfl, k2⟩ := e_vR_inv k1
  obtain ⟨v, fs2, rfl, k3⟩ := e_pV_inv k2
  obtain ⟨q, rfl, k4⟩ := e_vR_inv k3
  obtain ⟨x1, fs3, rfl, k5⟩ := e_pI_inv k4
  obtain ⟨x2, fs4, rfl, k6⟩ := e_pI_inv k5
  obtain ⟨x3, fs5, rfl, k7⟩ := e_pI_inv k6
  obtain ⟨x4, fs6, rfl, k8⟩ := e_pI_inv k7
  obtain ⟨x5, fs7, rfl, k9⟩ := e_pI_inv k8
  obtain ⟨x6, fs8, rfl, k10⟩ := e_pI_inv k9
  obtain ⟨rfl, k11⟩ := e_nil_inv k10
  obtain ⟨b1, k12⟩ := e_if_t k11
  obtain ⟨b2, k13⟩ := e_if_t k12
  obtain ⟨b3, k14⟩ := e_if_t k13
  obtain ⟨b4, k15⟩ := e_if_t k14
  obtain ⟨b5, k16⟩ := e_if_t k15
  obtain ⟨b6, k17⟩ := e_if_t k16
  obtain ⟨b7, k18⟩ := e_if_t k17
  cases Nat.eq_of_beq_eq_true b1
  cases Nat.eq_of_beq_eq_true b2
  cases Nat.eq_of_beq_eq_true b3
  cases Nat.eq_of_beq_eq_true b4
  cases Nat.eq_of_beq_eq_true b5
  cases Nat.eq_of_beq_eq_true b6
  have hpq : p ≠ q := fun e => by
    rw [e, Nat.beq_refl] at b7
    cases b7
  obtain ⟨⟨m, xs⟩, g4, g5⟩ := e_op_inv k18
  have g4 := e_aD_inv g4
  obtain ⟨b8, n1⟩ := e_if_t g5
  obtain ⟨b9, n2⟩ := e_if_t n1
  obtain ⟨⟨m2, ys⟩, g6, g7⟩ := e_op_inv n2
  have g6 := e_aD_inv g6
  obtain ⟨c8, n3⟩ := e_if_t g7
  obtain ⟨c9, n4⟩ := e_if_t n3
  cases (show m = 441 from Nat.eq_of_beq_eq_true b8)
  cases (show m2 = 441 from Nat.eq_of_beq_eq_true c8)
  obtain ⟨h1, g8, wf1, up1, ot1⟩ := e_hup_inv n4
  obtain ⟨h2, g9, wf2, up2, ot2⟩ := e_hup_inv g8
  simp only [e_force_eq] at g9
  have g9 : nx lv (.inl 1 :: t) h2 z cn sn = some r := g9
  obtain ⟨hm, hk⟩ := kk _ _ _ _ _ _ _ g9
  refine ⟨hm, fun hcc hss ρ ws ls Vs H locs S => ?_⟩
  obtain ⟨ad, T9, rfl, ha, hT⟩ := vl_ref S.2.1
  obtain ⟨E0, wa, Fs, rfl, hFs⟩ := HR_at S.2.2.1 g2 ha
  obtain ⟨V1, R1, rfl, ⟨pa, hpa, rfl⟩, hR1⟩ := vl_cons hFs
  obtain ⟨V2, R2, rfl, ⟨qa, hqa, rfl⟩, hR2⟩ := vl_cons hR1
  obtain ⟨R3, rfl, -, hR3⟩ := vl_int hR2
  obtain ⟨R4, rfl, -, hR4⟩ := vl_int hR3
  obtain ⟨R5, rfl, -, hR5⟩ := vl_int hR4
  obtain ⟨R6, rfl, -, hR6⟩ := vl_int hR5
  obtain ⟨R7, rfl, -, hR7⟩ := vl_int hR6
  obtain ⟨R8, rfl, -, hR8⟩ := vl_int hR7
  cases vl_nil hR8
  obtain ⟨Ep, wp, fp, rfl, lp, -, hfp⟩ := HR_at S.2.2.1 g4 hpa
  obtain ⟨Eq, wq, fq, rfl, lq, -, hfq⟩ := HR_at S.2.2.1 g6 hqa
  have hxs : xs = Z441 := (e_zero_inv b9).trans (by rw [← lp]; rfl)
  have hys : ys = Z441 := (e_zero_inv c9).trans (by rw [← lq]; rfl)
  subst hxs
  subst hys
  have hap : a ≠ p := fun e => by
    rw [e, g4] at g2
    cases g2
  have haq : a ≠ q := fun e => by
    rw [e, g6] at g2
    cases g2
  have hP := S.2.2.2.2.1
  have hD := S.2.2.2.2.2.1
  have hS := S.2.2.2.2.2.2
  have hl : (gl G).stackTraces = false := w.tr
  -- the three cells that it has
  obtain ⟨ρ3, hρ3⟩ : ∃ ρ3 : List Nat, ρ3 = [ad, pa, qa] := ⟨_, rfl⟩
  obtain ⟨ws3, hws3⟩ : ∃ ws3 : va_W, ws3 = [(ad, .inr (10, [.ref pa, .ref qa, .int (nI 7), .int (nI 7), .int (nI 0), .int (nI 0), .int (nI 50), .int (nI 30)])), (pa, .inl (gAd G, 441, .inr (.inr (.inr (.inl fp))))), (qa, .inl (gAd G, 441, .inr (.inr (.inr (.inl fq)))))] := ⟨_, rfl⟩
  have hP3 : va_P (gD G) ev_cl ws3 H := hP.sub [a, p, q] (by rw [hws3]; simp [wa, wp, wq])
  have hD3 : va_D (gA G) ws3 := hD.sub [a, p, q] (va_nd3 hap haq hpq) (by rw [hws3]; simp [wa, wp, wq])
  have hin3 : ∀ x, (∃ k : Nat, ρ3[k]? = some x) → x = ad ∨ x = pa ∨ x = qa := fun x ⟨k, hk⟩ => by
    rw [hρ3] at hk
    rcases k with _ | _ | _ | k
    · exact Or.inl (Option.some.inj hk).symm
    · exact Or.inr (Or.inl (Option.some.inj hk).symm)
    · exact Or.inr (Or.inr (Option.some.inj hk).symm)
    · simp at hk
  have hown : ∀ x, aC ρ3 H.size x → gA G x := fun x hx => by
    rcases hx with hx | hx
    · rcases hin3 x hx with rfl | rfl | rfl
      · exact hD.2 a _ wa
      · exact hD.2 p _ wp
      · exact hD.2 q _ wq
    · exact w.fresh x (Nat.le_trans hS.1 hx)
  have hV3 : vl (gX G) ρ3 [.inr (.inl 1)] [.ref ad] := ⟨⟨ad, by rw [hρ3]; rfl, rfl⟩, trivial⟩
  have hHR3 : HR (gX G) (gAi G) (gAd G) H_isb 3 ρ3 ws3 := by
    refine ⟨⟨rfl, fun j r hj => ?_⟩, by rw [hρ3]; rfl, by rw [hws3, hρ3]; rfl, fun b cl hcl => ?_⟩
    · rcases j with _ | j
      · cases (show some _ = some r from hj); rfl
      · simp [H_isb] at hj
    · rw [e_cell_eq] at hcl
      have hb8 : b / 8 = 0 := by
        rcases hq8 : b / 8 with _ | j
        · rfl
        · rw [hq8] at hcl
          simp [H_isb] at hcl
      rw [hb8] at hcl
      have hcl : ([.inl (10, fs_isb), .inr (.inr (441, Z441)), .inr (.inr (441, Z441))] : List AC)[b % 8]? = some cl := hcl
      have hbm : b % 8 = b := by omega
      rw [hbm] at hcl
      rcases b with _ | _ | _ | b
      · cases hcl
        refine ⟨ad, .inr (10, [.ref pa, .ref qa, .int (nI 7), .int (nI 7), .int (nI 0), .int (nI 0), .int (nI 50), .int (nI 30)]), by rw [hws3]; rfl, [.ref pa, .ref qa, .int (nI 7), .int (nI 7), .int (nI 0), .int (nI 0), .int (nI 50), .int (nI 30)], rfl, ⟨pa, by rw [hρ3]; rfl, rfl⟩, ⟨qa, by rw [hρ3]; rfl, rfl⟩, ⟨by decide, rfl⟩, ⟨by decide, rfl⟩, ⟨by decide, rfl⟩, ⟨by decide, rfl⟩, ⟨by decide, rfl⟩, ⟨by decide, rfl⟩, trivial⟩
      · cases hcl
        exact ⟨pa, .inl (gAd G, 441, .inr (.inr (.inr (.inl fp)))), by rw [hws3]; rfl, fp, rfl, lp, by decide, hfp⟩
      · cases hcl
        exact ⟨qa, .inl (gAd G, 441, .inr (.inr (.inr (.inl fq)))), by rw [hws3]; rfl, fq, rfl, lq, by decide, hfq⟩
      · simp at hcl
  have hpre : ∀ U : State, U.heap = H → (gs G).WarmedH U.vm → va_Pc [Value.ref ad] (PF (yMk G.2.2 (aC ρ3 H.size) ρ3) H.size H_isb 3 ws3) [Value.ref ad].toArray U := by
    intro U hU hW
    refine ⟨rfl, by rw [hU], ?_, hHR3, by rw [hU]; exact hP3, ⟨hD3.1, fun k x hk => Or.inl ⟨k, ?_⟩⟩, fun x hx => w.sub x (hown x hx)⟩
    · have h1 := Cy_call w.cx w.sub hS hU hW
      exact h1
    · obtain ⟨-, -, hmap, -⟩ := hHR3
      show ρ3[k]? = some x.1
      rw [← hmap, List.getElem?_map, hk]
      rfl
  have hM := exec_ok hl 0 okV_all 10 G.2.2 5 [.inr (.inl 1)] H_isb 3 _ _ en_X10_isSolvedBackward run_isb ⟨_, rfl⟩ ρ3 ws3 H.size [.ref ad] hV3
  have hrow := cwV_X10_isSolvedBackward (pc := pc) (d := 0 + 10) w g_isb (by omega) (by omega) hd
  have hrun := hrow _ _ _ _ _ _ [.ref ad] T9 H locs cn sn ls hM PF_blind hpre rfl ⟨ad, [], rfl, va_recv w.K hP (show ev_cl[10]? = some (RX10, TX10, 8) from rfl) wa⟩ (q_lsz S.1) (by rw [vl_wt hT]; exact hb) ⟨Nat.le_trans hm.1 hcc, Nat.le_trans hm.2 hss⟩
  intro T hT9 X
  rcases hrun T hT9 X with ⟨v, st₀, t2, T', L, h0, X', hL, e1, e2, hq, go⟩ | ⟨x, st₀, t2, T', L, E, ce, h0, X', hL, e1, e2, ⟨e, _, _, hx, -⟩, -⟩
  rotate_left
  · cases hx
  obtain ⟨V, ρ', ws', hv, hrv, ⟨t', ht'⟩, hHR', hP', hD', hF⟩ := hq
  cases hv
  obtain ⟨k1, k2, k3⟩ := vx_keep h0 e1 hS (fun q _ h => hown q h) hown hL hF
  have ht'2 : ρ' = ρ3 ++ t' := ht'
  have hlen3 : ρ'.length = 3 := hHR'.2.1
  have ht0 : t' = [] := by
    rw [ht'2, List.length_append, hρ3] at hlen3
    exact List.length_eq_zero_iff.mp (by simpa using hlen3)
  rw [ht0, List.append_nil] at ht'2
  subst ht'2
  have hV1 : v = some (.int (nI 1)) := by
    cases v with
    | none => exact hrv.elim
    | some v => exact congrArg some hrv.2
  subst hV1
  have a0 : ρ'[0]? = some ad := by rw [hρ3]; rfl
  have a1 : ρ'[1]? = some pa := by rw [hρ3]; rfl
  have a2 : ρ'[2]? = some qa := by rw [hρ3]; rfl
  obtain ⟨E1, w0', Fs', rfl, hFs'⟩ := HR_at hHR' (a := 0) (cl := .inl (10, fs_isb)) rfl a0
  obtain ⟨E2, w1', f1, rfl, hf1⟩ := HR_at hHR' (a := 1) (cl := .inr (.inr (441, L1_isb))) rfl a1
  obtain ⟨E3, w2', f2, rfl, hf2⟩ := HR_at hHR' (a := 2) (cl := .inr (.inr (441, L2_isb))) rfl a2
  have hFe : Fs' = [.ref pa, .ref qa, .int (nI 7), .int (nI 7), .int (nI 0), .int (nI 0), .int (nI 50), .int (nI 30)] := by
    obtain ⟨V1, R1, rfl, ⟨pa', hpa', rfl⟩, hR1⟩ := vl_cons hFs'
    obtain ⟨V2, R2, rfl, ⟨qa', hqa', rfl⟩, hR2⟩ := vl_cons hR1
    obtain ⟨R3, rfl, -, hR3⟩ := vl_int hR2
    obtain ⟨R4, rfl, -, hR4⟩ := vl_int hR3
    obtain ⟨R5, rfl, -, hR5⟩ := vl_int hR4
    obtain ⟨R6, rfl, -, hR6⟩ := vl_int hR5
    obtain ⟨R7, rfl, -, hR7⟩ := vl_int hR6
    obtain ⟨R8, rfl, -, hR8⟩ := vl_int hR7
    cases vl_nil hR8
    cases Option.some.inj (a1.symm.trans hpa')
    cases Option.some.inj (a2.symm.trans hqa')
    rfl
  subst hFe
  have hHR1 := HR_set S.2.2.1 wp (wf1 z S.2.2.1.1) up1 ot1 (E := .inl (gAd G, 441, .inr (.inr (.inr (.inl f1))))) ⟨f1, rfl, L1_len.symm, by decide, hf1.2.2⟩
  have wq2 : (ws.set p (pa, .inl (gAd G, 441, .inr (.inr (.inr (.inl f1))))))[q]? = some (qa, .inl (gAd G, 441, .inr (.inr (.inr (.inl fq))))) := by
    rw [List.getElem?_set_ne hpq]; exact wq
  have hHR2 := HR_set hHR1 wq2 (wf2 z hHR1.1) up2 ot2 (E := .inl (gAd G, 441, .inr (.inr (.inr (.inl f2))))) ⟨f2, rfl, L2_len.symm, by decide, hf2.2.2⟩
  have hD1 := hD.set wp (e := .inl (gAd G, 441, .inr (.inr (.inr (.inl f1)))))
  have hD2 := hD1.set wq2 (e := .inl (gAd G, 441, .inr (.inr (.inr (.inl f2)))))
  have hP2 : va_P (gD G) ev_cl ((ws.set p (pa, .inl (gAd G, 441, .inr (.inr (.inr (.inl f1)))))).set q (qa, .inl (gAd G, 441, .inr (.inr (.inr (.inl f2)))))) T'.heap := by
    rw [e1]
    intro k x hx
    by_cases hkq : k = q
    · subst hkq
      rw [List.getElem?_set_self (List.getElem?_eq_some_iff.mp wq2).1] at hx
      cases hx
      exact hP' 2 _ w2'
    · rw [List.getElem?_set_ne (Ne.symm hkq)] at hx
      by_cases hkp : k = p
      · subst hkp
        rw [List.getElem?_set_self (List.getElem?_eq_some_iff.mp wp).1] at hx
        cases hx
        exact hP' 1 _ w1'
      · rw [List.getElem?_set_ne (Ne.symm hkp)] at hx
        by_cases hka : k = a
        · subst hka
          cases Option.some.inj (hx.symm.trans wa)
          exact hP' 0 _ w0'
        · refine (hP k x hx).kept ?_
          have hlt := (hP k x hx).lt
          rw [← e1]
          refine k2 x.1 hlt (fun hz => ?_)
          rcases hz with hz | hz
          · rcases hin3 x.1 hz with e | e | e
            · exact hka (hD.1 k a x _ hx wa e)
            · exact hkp (hD.1 k p x _ hx wp e)
            · exact hkq (hD.1 k q x _ hx wq e)
          · exact Nat.not_le.mpr hlt hz
  obtain ⟨t3, u1, u2⟩ := hk hcc hss ρ _ ls (.int (nI 1) :: T9) T'.heap (locs ++ L) ⟨S.1, ⟨⟨by decide, rfl⟩, hT⟩, hHR2, S.2.2.2.1, hP2, hD2, k3⟩ T' rfl X'
  exact ⟨t3, go t3 u1, u2⟩
end ISB
