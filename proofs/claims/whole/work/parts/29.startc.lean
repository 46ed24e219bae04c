/-- THE GOAL of the abstract machine: on every script of at most N ints the law answers 1, within the room -/
def wg (N : Nat) : Prop := ∀ (nl : Bool) (L : Nat) (xs : Nat → Int32), L ≤ N → ∃ (f : Nat) (σ1 : am_S), am_x (TT nl L xs) f 2048 84000 dd_law 0 (am_lo 4 [.ref 999]) [] am_s0 = some (some (.int 1), σ1) ∧ am_nx σ1 ≤ 61000 ∧ am_sl σ1 ≤ 8922250
theorem sv_XT {b L : Nat} {xs : Nat → Int32} {s : State} {A : Nat → Prop} (h : va_X b L xs s s.heap) (hb : ¬ A b) : va_T .int b L (fun j => .int (xs j)) A s s.heap := by
  obtain ⟨scr, h1, h2, h3, h4, h5⟩ := h
  exact ⟨scr, h1, h2, h3, Nat.le_of_eq h4.symm, by rw [h4], h5, hb⟩
/-- where the texts lie -/
theorem sv_texts {s : State} {args : Array Value} {A : Nat → Prop} (hs : ∀ w ∈ sv_fl, w.before args s = true) (hA : ∀ a : Nat, a < s.heap.size → ¬ A a) : ∃ q : Nat → Nat × Nat, ∀ i, i < 38 → (sv_t i).eval args s none [] s = some (.ref (q i).1) ∧ va_O "java/lang/String" (q i).1 A s s.heap ∧ va_OF "java/lang/String" "coder" "B" (.int 0) (q i).1 A s s.heap ∧ va_OF "java/lang/String" "value" "[B" (.ref (q i).2) (q i).1 A s s.heap ∧ va_T .byte (q i).2 (dd_tx.getD i []).length (fun j => .int ((dd_tx.getD i []).getD j 0)) A s s.heap := by
  have h0 : ∀ i : Nat, ∃ q : Nat × Nat, i < 38 → (sv_t i).eval args s none [] s = some (.ref q.1) ∧ va_O "java/lang/String" q.1 A s s.heap ∧ va_OF "java/lang/String" "coder" "B" (.int 0) q.1 A s s.heap ∧ va_OF "java/lang/String" "value" "[B" (.ref q.2) q.1 A s s.heap ∧ va_T .byte q.2 (dd_tx.getD i []).length (fun j => .int ((dd_tx.getD i []).getD j 0)) A s s.heap := by
    intro i
    by_cases hi : i < 38
    · have hm : ∀ w ∈ sv_ex i, w.before args s = true := fun w hw => hs w (sv_mem (sv_tx i hi) hw)
      have hle : (dd_tx.getD i []).length < 2 ^ 31 := by
        have h : ((List.range 38).all fun i => decide ((dd_tx.getD i []).length < 1000)) = true := by decide +kernel
        have := of_decide_eq_true (List.all_eq_true.mp h i (List.mem_range.mpr hi))
        omega
      unfold sv_ex at hm
      obtain ⟨adK, adV, h1, h2⟩ := vk_Sof (args := args) (s := s) (N := 1) (tm := fun _ => sv_t i) (len := [(dd_tx.getD i []).length]) (byt := [dd_tx.getD i []]) (A := A)
        (fun j hj => by obtain rfl : j = 0 := by omega
                        exact hle)
        (fun j hj => hm _ List.mem_cons_self) (fun j hj => hm _ (List.mem_cons_of_mem _ List.mem_cons_self)) (fun j hj => hm _ (List.mem_cons_of_mem _ (List.mem_cons_of_mem _ List.mem_cons_self)))
        (fun j hj => by obtain rfl : j = 0 := by omega
                        exact hm _ (List.mem_cons_of_mem _ (List.mem_cons_of_mem _ (List.mem_cons_of_mem _ List.mem_cons_self))))
        (fun j hj k hk => by
          obtain rfl : j = 0 := by omega
          exact hm _ (List.mem_cons_of_mem _ (List.mem_cons_of_mem _ (List.mem_cons_of_mem _ (List.mem_cons_of_mem _ (List.mem_map.mpr ⟨k, List.mem_range.mpr hk, rfl⟩))))))
        (fun j k hj hk hne => absurd (by omega : j = k) hne) hA
      have h3 := h1.1 0 (by omega)
      exact ⟨(adK 0, adV 0), fun _ => ⟨h2 0 (by omega), h3.1, h3.2.1, h3.2.2.1, h3.2.2.2⟩⟩
    · exact ⟨(0, 0), fun h => absurd h hi⟩
  exact ⟨fun i => Classical.choose (h0 i), fun i hi => Classical.choose_spec (h0 i) hi⟩
/-- where the rows of statics lie -/
theorem sv_rows {s : State} {args : Array Value} {A : Nat → Prop} (hs : ∀ w ∈ sv_fl, w.before args s = true) (hA : ∀ a : Nat, a < s.heap.size → ¬ A a) : ∃ q : Nat → Nat, ∀ i, i < 8 → (sv_s i).eval args s none [] s = some (.ref (q i)) ∧ va_T .int (q i) (dd_sr.getD i []).length (fun j => .int ((dd_sr.getD i []).getD j 0)) A s s.heap := by
  have h0 : ∀ i : Nat, ∃ q : Nat, i < 8 → (sv_s i).eval args s none [] s = some (.ref q) ∧ va_T .int q (dd_sr.getD i []).length (fun j => .int ((dd_sr.getD i []).getD j 0)) A s s.heap := by
    intro i
    by_cases hi : i < 8
    · have hm : ∀ w ∈ sv_se i, w.before args s = true := fun w hw => hs w (sv_mem (sv_sx i hi) hw)
      have hle : (dd_sr.getD i []).length < 2 ^ 31 := by
        have h : ((List.range 8).all fun i => decide ((dd_sr.getD i []).length < 1000)) = true := by decide +kernel
        have := of_decide_eq_true (List.all_eq_true.mp h i (List.mem_range.mpr hi))
        omega
      unfold sv_se at hm
      obtain ⟨t, h1, h2⟩ := va_Tof (args := args) (s := s) (tm := sv_s i) (ty := .int) (f := fun j => .int ((dd_sr.getD i []).getD j 0)) (A := A) hle (hm _ List.mem_cons_self) (va_eqt (hm _ (List.mem_cons_of_mem _ List.mem_cons_self)))
        (fun j hj => va_eqt (hm _ (List.mem_cons_of_mem _ (List.mem_cons_of_mem _ (List.mem_map.mpr ⟨j, List.mem_range.mpr hj, rfl⟩))))) hA
      exact ⟨t, fun _ => ⟨h1, h2⟩⟩
    · exact ⟨0, fun h => absurd h hi⟩
  exact ⟨fun i => Classical.choose (h0 i), fun i hi => Classical.choose_spec (h0 i) hi⟩
theorem sv_eqr {args : Array Value} {s : State} {t u : Term} {a : Nat} (h : (Cond.eq t u).before args s = true) (ht : t.eval args s none [] s = some (.ref a)) : u.eval args s none [] s = some (.ref a) := by
  cases hv : u.eval args s none [] s with
  | none => simp [Cond.before, Cond.holds, Cond.value, ht, hv] at h
  | some w =>
    simp only [Cond.before, Cond.holds, Cond.value, ht, hv] at h
    cases w <;> simp_all
theorem dk_acu : ∀ q ∈ dd_ac, ∀ q' ∈ dd_ac, q.1 = q'.1 → q.2 = q'.2 := by decide +kernel
theorem dk_zo0 : "ClaimsOffice$Policy" ∈ dd_zo := by decide +kernel
theorem dk_zo1 : "ClaimsOffice$Loss" ∈ dd_zo := by decide +kernel
theorem dk_zo2 : "ClaimsOffice$Case" ∈ dd_zo := by decide +kernel
theorem dk_zo3 : "java/lang/String" ∈ dd_zo := by decide +kernel
def sv_ro (tx : Nat → Nat × Nat) (sr : Nat → Nat) (b t8 n : Nat) : Nat := if n < 200 then (tx n).1 else if n < 500 then (tx (n - 200)).2 else if n < 900 then sr (n - 500) else if n = 999 then b else t8
theorem sv_ro0 {tx : Nat → Nat × Nat} {sr : Nat → Nat} {b t8 n : Nat} (h : n < 200) : sv_ro tx sr b t8 n = (tx n).1 := if_pos h
theorem sv_ro2 {tx : Nat → Nat × Nat} {sr : Nat → Nat} {b t8 n : Nat} (h : n < 38) : sv_ro tx sr b t8 (n + 200) = (tx n).2 := by
  unfold sv_ro
  rw [if_neg (by omega), if_pos (by omega), Nat.add_sub_cancel]
theorem sv_ro5 {tx : Nat → Nat × Nat} {sr : Nat → Nat} {b t8 i : Nat} (h : i < 8) : sv_ro tx sr b t8 (500 + i) = sr i := by
  unfold sv_ro
  rw [if_neg (by omega), if_neg (by omega), if_pos (by omega), Nat.add_sub_cancel_left]
set_option maxHeartbeats 4000000 in
theorem sv_start {N : Nat} (G : wg N) {p : Program} {e : Env} {s : State} {m : MethodId} {below : List Frame} {meth : Method} {c : Code} (l : Launch) {b L : Nat} {xs : Nat → Int32} (hL : L ≤ N) (C0 : lw_At p s m meth c b L xs) : W p l e room_1 s m #[Value.ref b] below meth c s.heap [] 0 0 (lw_Z below #[Value.ref b] s) (entryFrame m ([Value.ref b] : List Value).toArray 4) := by
  obtain ⟨hx, hb, hret, hml, hown, hts, hX, hbl, hlocks, hgv⟩ := C0
  have hs : ∀ w ∈ sv_fl, w.before #[Value.ref b] s = true := flat_of_before _ hgv
  have hA : ∀ a : Nat, a < s.heap.size → ¬ (fun q : Nat => s.heap.size ≤ q) a := fun a h1 h2 => absurd h1 (Nat.not_lt.mpr h2)
  obtain ⟨tx, htx⟩ := sv_texts hs hA
  obtain ⟨sr, hsr⟩ := sv_rows hs hA
  obtain ⟨z0, z1, z2, z3, z4, z5, z6, z7, z8, z9, z10, z11, z12⟩ := sv_ls
  obtain ⟨i8, i9, i10, i11⟩ := sv_si
  have hop := va_Zqof (hts _ z12.1) (hts _ z12.2) (hs _ sv_op) hA
  obtain ⟨nl, t8, hop⟩ : ∃ (nl : Bool) (t8 : Nat), va_Z "jdk/internal/util/Preconditions" "SIOOBE_FORMATTER" "Ljava/util/function/BiFunction;" (if nl then .null else .ref t8) (fun q : Nat => s.heap.size ≤ q) s s.heap := by
    rcases hop with h | ⟨t, h⟩
    · exact ⟨true, 0, h⟩
    · exact ⟨false, t, h⟩
  obtain ⟨f, σ1, hrun, hc1, hs1⟩ := G nl L xs hL
  have hts' : ∀ w ∈ am_dts (dd_T nl L xs), w.before #[Value.ref b] s = true := fun w hw => hts w (dd_all w hw).2
  obtain ⟨dC, dI, hK⟩ := am_uK (dk_kC nl L xs) hts'
  obtain ⟨aC, hAC⟩ := am_uA (D := dd_T nl L xs) hts' (fun C hC => va_AO.of (hts _ (sv_zo C hC))) dk_acu (by
    show ∀ q ∈ dd_ac, _
    unfold dd_ac
    exact List.forall_mem_cons.mpr ⟨Or.inl ⟨Or.inl rfl, am_wd_mem (C := dd_tc) dk_b0⟩, List.forall_mem_cons.mpr ⟨Or.inl ⟨Or.inr (Or.inl rfl), am_wd_mem (C := dd_tc) dk_b1⟩, List.forall_mem_cons.mpr ⟨Or.inl ⟨Or.inr (Or.inr (Or.inl rfl)), am_wd_mem (C := dd_tc) dk_b2⟩, List.forall_mem_cons.mpr ⟨Or.inl ⟨Or.inr (Or.inr (Or.inr rfl)), am_wd_mem (C := dd_tc) dk_b3⟩,
      List.forall_mem_cons.mpr ⟨Or.inr ⟨_, rfl, dk_zo0⟩, List.forall_mem_cons.mpr ⟨Or.inr ⟨_, rfl, dk_zo1⟩, List.forall_mem_cons.mpr ⟨Or.inr ⟨_, rfl, dk_zo2⟩, List.forall_mem_cons.mpr ⟨Or.inr ⟨_, rfl, dk_zo3⟩, fun _ h => absurd h List.not_mem_nil⟩⟩⟩⟩⟩⟩⟩⟩)
  let E : am_E := ((dC, dI), am_dvc (dd_T nl L xs), am_tf (am_tbl (dd_T nl L xs)), aC, s.heap.size, sv_ro tx sr b t8)
  have hOKs := dk_OK nl L xs (E := E) rfl rfl
  have r0 : ∀ n, n < 200 → am_ro E n = (tx n).1 := fun n h => sv_ro0 h
  have r2 : ∀ n, n < 38 → am_ro E (n + 200) = (tx n).2 := fun n h => sv_ro2 h
  have r5 : ∀ i, i < 8 → am_ro E (500 + i) = sr i := fun i h => sv_ro5 h
  have r9 : am_ro E 999 = b := rfl
  have r8 : am_ro E 998 = t8 := rfl
  have zst : ∀ i, i < 8 → ∀ C n, (Cond.laysStatic C n "[I" ∈ lw_tbl ∧ Cond.initialized C ∈ lw_tbl) → (sv_sn.getD i ("", "")) = (C, n) → va_Z C n "[I" (am_tr (am_ad E) (.ref (500 + i))) (am_A E) s s.heap := by
    intro i hi C n hz he
    have h1 := (hsr i hi).1
    unfold sv_s at h1
    rw [he] at h1
    have e2 : am_tr (am_ad E) (.ref (500 + i)) = .ref (sr i) := by
      show Value.ref (am_ad E (500 + i)) = _
      rw [am_ad_lo E (by omega), r5 i hi]
    rw [e2]
    exact va_Zof (hts _ hz.1) (hts _ hz.2) h1 hA
  have hO : am_O E (am_dz (dd_T nl L xs)) s s.heap := by
    refine ⟨?_, ?_, ?_, ?_, ?_, ?_, ?_⟩
    · intro n h1 h2
      have h2 : dd_rk n = 1000 := h2
      unfold dd_rk at h2
      by_cases h9 : n = 999
      · subst h9
        exact sv_XT hX (hA b hbl)
      · have h5 : 500 ≤ n ∧ n < 508 := by
          split at h2
          · cases h2
          · split at h2
            · cases h2
            · split at h2
              · rename_i h; exact h
              · cases h2
        obtain ⟨i, rfl⟩ : ∃ i, n = 500 + i := ⟨n - 500, by omega⟩
        have hi : i < 8 := by omega
        have h3 := (hsr i hi).2
        have el : am_rl (am_dz (dd_T nl L xs)) (500 + i) = (dd_sr.getD i []).length := by
          show dd_rl L (500 + i) = _
          unfold dd_rl
          rw [if_neg (by omega), if_neg h9, Nat.add_sub_cancel_left]
        have ev : ∀ j, am_rv (am_dz (dd_T nl L xs)) (500 + i) j = (dd_sr.getD i []).getD j 0 := fun j => by
          show dd_rv xs (500 + i) j = _
          unfold dd_rv
          rw [if_neg (by omega), if_neg h9, Nat.add_sub_cancel_left]
        rw [r5 i hi, el]
        simp only [ev]
        exact h3
    · intro n h1 h2
      have h2 : dd_rk n = 1002 := h2
      unfold dd_rk at h2
      have h5 : 200 ≤ n ∧ n < 238 := by
        split at h2
        · cases h2
        · split at h2
          · rename_i h; exact h
          · split at h2
            · cases h2
            · split at h2
              · cases h2
              · cases h2
      obtain ⟨i, rfl⟩ : ∃ i, n = i + 200 := ⟨n - 200, by omega⟩
      have hi : i < 38 := by omega
      have h3 := (htx i hi).2.2.2.2
      have el : am_rl (am_dz (dd_T nl L xs)) (i + 200) = (dd_tx.getD i []).length := by
        show dd_rl L (i + 200) = _
        unfold dd_rl
        rw [if_pos (by omega), Nat.add_sub_cancel]
      have ev : ∀ j, am_rv (am_dz (dd_T nl L xs)) (i + 200) j = (dd_tx.getD i []).getD j 0 := fun j => by
        show dd_rv xs (i + 200) j = _
        unfold dd_rv
        rw [if_pos (by omega), Nat.add_sub_cancel]
      rw [r2 i hi, el]
      simp only [ev]
      exact h3
    · intro n h1 h2
      have h2 : dd_rk n = 1 := h2
      unfold dd_rk at h2
      have h5 : n < 38 := by
        split at h2
        · rename_i h; exact h
        · split at h2
          · cases h2
          · split at h2
            · cases h2
            · split at h2
              · cases h2
              · cases h2
      have h3 := htx n h5
      rw [r0 n h1, r2 n h5]
      exact ⟨h3.2.1, h3.2.2.1, h3.2.2.2.1⟩
    · show ∀ q ∈ dd_zs nl, _
      unfold dd_zs
      refine List.forall_mem_cons.mpr ⟨zst 0 (by decide) _ _ z0 rfl, List.forall_mem_cons.mpr ⟨zst 1 (by decide) _ _ z1 rfl, List.forall_mem_cons.mpr ⟨zst 2 (by decide) _ _ z2 rfl, List.forall_mem_cons.mpr ⟨zst 3 (by decide) _ _ z3 rfl, List.forall_mem_cons.mpr ⟨zst 4 (by decide) _ _ z4 rfl, List.forall_mem_cons.mpr ⟨zst 5 (by decide) _ _ z5 rfl, List.forall_mem_cons.mpr ⟨zst 6 (by decide) _ _ z6 rfl, List.forall_mem_cons.mpr ⟨zst 7 (by decide) _ _ z7 rfl, ?_⟩⟩⟩⟩⟩⟩⟩⟩
      refine List.forall_mem_cons.mpr ⟨va_Zof (hts _ z8.1) (hts _ z8.2) (va_eqt (hs _ i8)) hA, List.forall_mem_cons.mpr ⟨va_Zof (hts _ z9.1) (hts _ z9.2) (va_eqt (hs _ i9)) hA, List.forall_mem_cons.mpr ⟨va_Zof (hts _ z10.1) (hts _ z10.2) (va_eqt (hs _ i10)) hA, List.forall_mem_cons.mpr ⟨va_Zof (hts _ z11.1) (hts _ z11.2) (va_eqt (hs _ i11)) hA, List.forall_mem_cons.mpr ⟨?_, fun _ h => absurd h List.not_mem_nil⟩⟩⟩⟩⟩
      cases nl with
      | true => exact hop
      | false => exact hop
    · intro q hq
      obtain ⟨e1, e2⟩ := sv_te q hq
      refine ⟨by omega, ?_⟩
      rw [r0 _ (by omega)]
      refine vk_R.of (hts _ (sv_tr q hq)) ?_
      rcases e2 with e2 | e2
      · rw [e2]; exact (htx _ e1).1
      · exact sv_eqr (hs _ e2) (htx _ e1).1
    · intro w hw
      exact ⟨(sv_znw w hw).1, va_Nw.of (sv_znw w hw).2 (hts w (sv_zn w hw))⟩
    · exact fun C hC => va_AO.of (hts _ (sv_zo C hC))
  have hW : am_W E (am_dty E (dd_T nl L xs)) s am_s0 s.heap [] 0 := am_uW (dC := dC) (dI := dI) (aC := aC) (E := E) rfl rfl hK hAC
  refine am_top (T := TT nl L xs) (M := am_mch (dd_T nl L xs)) (E := E) (x := dd_law) hOKs.1 hOKs.2 dk_good hx hb hml hts' hown (show "law" ≠ "<init>" by decide) hO hW rfl (show 1 ≤ 4 by decide) hrun hc1 hs1 ?_
  intro pc' ls' H1 locs1 k n hk hn hd hS
  refine va_forget (fun q hq => hS.2.2 q hq) ?_
  exact W.widen hk hn (lw_ret hx hb hret hlocks hd)
