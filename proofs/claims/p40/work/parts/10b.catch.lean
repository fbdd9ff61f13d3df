/-! which row of a table of handlers takes an exception -/
def ck_row (cts : List (Nat × String)) (E : String) (pc : Nat) (q : Nat × Nat × Nat × Nat) : Bool := !(decide (q.1 ≤ pc) && decide (pc < q.2.1)) || cts.any (fun c => c.1 == q.2.2.2 && decide ((E, c.2) ∈ ev_nc))
theorem q_catch {G : Gm} {cc : ByteArray} {nL : Nat} {own : String} {pc : Nat} {hh : List (Nat × Nat × Nat × Nat)} {E : String} (w : Wk G cc nL own) (htb : (gc G).exceptionTable.toList = tableOf hh) (cts : List (Nat × String)) (hcts : ∀ c ∈ cts, c.1 ≠ 0 ∧ Cond.classLink own c.1 c.2 ∈ ev_G) (n : Nat) (x : Nat × Nat × Nat × Nat) (hx : hh[n]? = some x) (hcov : (decide (x.1 ≤ pc) && decide (pc < x.2.1)) = true) (h0 : x.2.2.2 ≠ 0) (hl : Cond.classLink own x.2.2.2 E ∈ ev_G) (hca : Cond.castable E E ∈ ev_N) (hp : (hh.take n).all (ck_row cts E pc) = true) :
    ∀ (H1 : Heap) (locs1 : List Loc) (cn sn : Nat) (Q0 : State → Prop) (ls : Array Slot) (T9 : List Value) (q : Addr) (ce : Cell), H1[q]? = some ce → ce.vm = .none → (gs G).vm.findClass E = some ce.cls → gW G H1 locs1 cn sn Q0 (F0 (gm G) x.2.2.1 ls [.ref q]) → vx_W (gp G) (gl G) (ge G) (gR G) (gs G) (gm G) (ga G) (gb G) (gk G) (gc G) H1 locs1 cn sn Q0 (F0 (gm G) pc ls T9) q := by
  intro H1 locs1 cn sn Q0 ls T9 q ce hce hcv hcl kk
  have hsplit : hh = hh.take n ++ x :: hh.drop (n + 1) := by
    have h1 := (List.getElem?_eq_some_iff.mp hx)
    obtain ⟨h2, h3⟩ := h1
    rw [← h3, List.getElem_cons_drop, List.take_append_drop]
  have hsp2 : (gc G).exceptionTable.toList = tableOf (hh.take n) ++ (⟨x.1, x.2.1, x.2.2.1, x.2.2.2⟩ : ExceptionTableEntry) :: tableOf (hh.drop (n + 1)) := by
    rw [htb]
    conv => lhs; rw [hsplit]
    simp only [tableOf, List.map_append, List.map_cons]
  refine vx_catch w.2.2.2.1 _ _ _ hsp2 (fun z hz => ?_) hcov h0 (w.use hl) (va_Nw.use rfl (w.cx.2.1 _ hca)) hce hcv hcl kk
  obtain ⟨y, hy, rfl⟩ := List.mem_map.mp hz
  have h1 := List.all_eq_true.mp hp y hy
  unfold ck_row at h1
  rcases Bool.or_eq_true _ _ ▸ h1 with h2 | h2
  · left
    cases hb : (decide (y.1 ≤ pc) && decide (pc < y.2.1)) with
    | false => exact hb
    | true => rw [hb] at h2; cases h2
  · obtain ⟨c, hc, h3⟩ := List.any_eq_true.mp h2
    simp only [Bool.and_eq_true, beq_iff_eq, decide_eq_true_eq] at h3
    obtain ⟨h4, h5⟩ := hcts c hc
    exact Or.inr ⟨by show y.2.2.2 ≠ 0; rw [← h3.1]; exact h4, c.2, by show (Cond.classLink own y.2.2.2 c.2).before _ _ = true; rw [← h3.1]; exact w.use h5, w.cx.2.2.1 _ h3.2⟩
theorem hs_nil {C : String → Nat → Prop} : ∀ (e t : Nat) (E : String), (e, t) ∈ ([] : List (Nat × Nat)) → ev_ex[e]? = some E → C E t := fun _ _ _ h => absurd h List.not_mem_nil
theorem hs_cons {C : String → Nat → Prop} {e0 t0 : Nat} {E0 : String} {l : List (Nat × Nat)} (he : ev_ex[e0]? = some E0) (h0 : C E0 t0) (h : ∀ (e t : Nat) (E : String), (e, t) ∈ l → ev_ex[e]? = some E → C E t) : ∀ (e t : Nat) (E : String), (e, t) ∈ (e0, t0) :: l → ev_ex[e]? = some E → C E t := by
  intro e t E hm hE
  rcases List.mem_cons.mp hm with q | q
  · cases q
    cases Option.some.inj (he.symm.trans hE)
    exact h0
  · exact h e t E q hE
def ck_sw (P : Nat → Nat) (pc : Nat) (ts : List Nat) (offs : Array Int) : Bool := (List.range ts.length).all fun j => match ts[j]?, offs[j]? with
  | some t, some off => decide ((pc : Int) + off = ((P t : Nat) : Int))
  | _, _ => false
theorem q_sw {P : Nat → Nat} {pc : Nat} {ts : List Nat} {offs : Array Int} (h : ck_sw P pc ts offs = true) : ∀ j, j < ts.length → ∃ (t : Nat) (off : Int), ts[j]? = some t ∧ offs[j]? = some off ∧ (pc : Int) + off = ((P t : Nat) : Int) := by
  intro j hj
  have h1 := List.all_eq_true.mp h j (List.mem_range.mpr hj)
  cases ht : ts[j]? with
  | none => rw [ht] at h1; cases h1
  | some t =>
    cases ho : offs[j]? with
    | none => rw [ht, ho] at h1; cases h1
    | some off =>
      rw [ht, ho] at h1
      exact ⟨t, off, rfl, rfl, by simpa using h1⟩
theorem q_room {d x m : Nat} (h : 260 + 60 * d ≤ x) (hm : m ≤ 41) : 8 + (m + 11) + (200 + 60 * d) ≤ x := by omega
def pAt (ps : List Nat) (i : Nat) : Nat := ps.getD i 0
theorem no_tab {c : Code} (h : c.exceptionTable.toList = tableOf []) : ∀ x ∈ c.exceptionTable.toList, False := by
  intro x hx
  rw [h] at hx
  cases hx
theorem s_ifgt {G : Gm} {nL : Nat} {Q : Rs → State → Prop} {nx : Kt} {jp : Nat → Kt} {cal : Cal} {cc : ByteArray} {own : String} {pc : Nat} {off : Int} {t tgt : Nat} (w : Wk G cc nL own) (hd : decode cc pc = .ok (.ifCond .gt off, 3)) (ht : (pc : Int) + off = (tgt : Int)) (kt : Snd G nL Q (jp t) tgt) (k : Snd G nL Q nx (pc + 3)) : Snd G nL Q (o_if t p_gt0 nx jp cal) pc := s_if (P := fun x => 0 < x) (fun _ _ _ _ _ _ _ _ => lv_if_gt w.1 w.2.1 hd ht) (fun a ha => by
  have h : (0 < nI a) ↔ ¬ nI a ≤ 0 := Int32.not_le.symm
  rw [h, q_le0 ha]
  show _ ↔ Bool.rec (motive := fun _ => Bool) (Nat.ble a 2147483647) false (Nat.beq a 0) = true
  cases hb : Nat.beq a 0 with
  | true => exact ⟨fun q => (q (Or.inl (Nat.eq_of_beq_eq_true hb))).elim, fun q => by cases q⟩
  | false =>
    refine ⟨fun q => Nat.ble_eq_true_of_le (Nat.le_of_not_lt (fun q2 => q (Or.inr (Nat.not_le.mpr q2)))), fun q q2 => ?_⟩
    rcases q2 with e | e
    · rw [(q_beq a 0).mp e] at hb; cases hb
    · exact e (Nat.le_of_ble_eq_true q)) kt k
