/-! THE CLASS: how many entries a book holds; the end of a batch -/
def ActT (T : List mTell) : Prop := ∀ t ∈ T, t.1 = 2 ∨ t.1 = 4 ∨ t.1 = 5 ∨ t.1 = 6 ∨ t.1 = 7
theorem sumN_le {f : Nat → Nat} {k : Nat} : ∀ {n : Nat}, (∀ i, i < n → f i ≤ k) → sumN f n ≤ k * n
  | 0, _ => by simp [sumN]
  | n + 1, h => by
    have h1 := sumN_le (n := n) (fun i hi => h i (by omega))
    have h2 := h n (by omega)
    rw [sumN, Nat.mul_succ]
    omega
theorem sumN_one {f g : Nat → Nat} {p : Nat} : ∀ {n : Nat}, (∀ i, i < n → i ≠ p → g i = f i) → g p ≤ f p + 1 → sumN g n ≤ sumN f n + 1
  | 0, _, _ => by simp [sumN]
  | n + 1, h, hp => by
    rw [sumN, sumN]
    by_cases e : n = p
    · have e1 : sumN g n = sumN f n := sumN_congr (fun i hi => h i (by omega) (by omega))
      rw [e1, e]
      omega
    · have h1 := sumN_one (n := n) (fun i hi hn => h i (by omega) hn) hp
      have h2 := h n (by omega) e
      omega
theorem tlP_sum (n : Nat) : ∀ T : List mTell, sumN (fun i => (tlP T i).length) n ≤ (T.filter (fun t => decide (t.1 ≠ 2))).length
  | [] => by
    have : sumN (fun i => (tlP [] i).length) n ≤ 0 * n := sumN_le (fun i _ => Nat.le_refl _)
    simpa using this
  | t :: T => by
    have ih := tlP_sum n T
    by_cases h : t.1 = 2
    · have e : ∀ i, tlP (t :: T) i = tlP T i := fun i => by
        unfold tlP
        rw [List.filter_cons_of_neg (by simp [h])]
      rw [List.filter_cons_of_neg (by simp [h])]
      rw [sumN_congr (g := fun i => (tlP T i).length) (fun i _ => by rw [e])]
      exact ih
    · rw [List.filter_cons_of_pos (by simp [h]), List.length_cons]
      refine Nat.le_trans (sumN_one (f := fun i => (tlP T i).length) (p := t.2.1) (fun i _ hi => ?_) ?_) (Nat.add_le_add_right ih 1)
      · unfold tlP
        rw [List.filter_cons_of_neg (by simp; exact fun z => absurd z.symm hi)]
      · show (tlP (t :: T) t.2.1).length ≤ (tlP T t.2.1).length + 1
        unfold tlP
        rw [List.filter_cons_of_pos (by simp [h]), List.length_cons]
        omega
theorem act_sum : ∀ T : List mTell, ActT T → (T.filter (fun t => decide (t.1 ≠ 2))).length ≤ (tlA T 4).length + (tlA T 5).length + (tlA T 6).length + (tlA T 7).length
  | [], _ => by simp
  | t :: T, h => by
    have ih := act_sum T (fun x hx => h x (List.mem_cons_of_mem _ hx))
    have ht := h t List.mem_cons_self
    have step : ∀ k : Int32, (tlA T k).length ≤ (tlA (t :: T) k).length := fun k => by
      unfold tlA
      rw [List.filter_cons]
      split
      · rw [List.length_cons]; omega
      · omega
    have s4 := step 4
    have s5 := step 5
    have s6 := step 6
    have s7 := step 7
    have more : ∀ k : Int32, t.1 = k → (tlA (t :: T) k).length = (tlA T k).length + 1 := fun k hk => by
      unfold tlA
      rw [List.filter_cons_of_pos (by simp [hk]), List.length_cons]
    rw [List.filter_cons]
    split
    · rename_i hn
      have hn : t.1 ≠ 2 := by simpa using hn
      rw [List.length_cons]
      rcases ht with e | e | e | e | e
      · exact absurd e hn
      · have := more 4 e; omega
      · have := more 5 e; omega
      · have := more 6 e; omega
      · have := more 7 e; omega
    · omega
theorem ne_le {M : mOff} (hw : WfO M) (hA : ActT (o_tel M)) : ne M ≤ 4860 := by
  unfold ne
  have h1 := tlP_sum (o_pol M).length (o_tel M)
  have h2 := act_sum (o_tel M) hA
  have h3 := hw.1.2.1.2.2.2
  have hc := hw.1.c100
  have h4 : sumN (fun i => ((o_cas M).getD i mCase0).2.2.2.2.2.length) (o_cas M).length ≤ 40 * (o_cas M).length := sumN_le (fun i hi => by
    obtain ⟨x, hx⟩ := get_ex hi
    rw [getD_of mCase0 hx]
    exact (hw.1.c hx).2.2.2.2.1.1)
  obtain ⟨t2, t4, t5, t6, t7, -⟩ := h3
  omega
/-- an office in which only the moment and the cases are other -/
def upM (M : mOff) (now : Int32) (Cs : List mCase) : mOff := ((o_per M, now, o_bat M, o_tri M, o_und M), o_pol M, o_tel M, o_los M, Cs, o_hel M, o_log M)
theorem grown_rf {M : mOff} (hw : WfO M) : Grown (o_now M) (o_cas M) (o_cas M) := by
  refine ⟨rfl, fun i x hx => ⟨x, [], hx, ?_, fun f hf => absurd hf (by simp), fun f hf => ?_, ?_⟩⟩
  · rw [List.append_nil]
    rfl
  · have := (hw.2.2.2.1 x (List.mem_of_getElem? hx)).2.2 f hf
    rw [i32lt]
    omega
  · rw [List.append_nil]
    exact (hw.1.c hx).2.2.2.2.1.1
theorem grown_keep {before now : Int32} {C0 Cs : List mCase} {n k : Nat} {a : mArg} {it : Int64} (h : Grown before C0 Cs) (hb : before < now + 1) (hl : ∀ x ∈ Cs.modify k (fcM n a (now + 1) it), x.2.2.2.2.2.length ≤ 40) : Grown before C0 (Cs.modify k (fcM n a (now + 1) it)) := by
  obtain ⟨h1, h2⟩ := h
  refine ⟨by rw [List.length_modify]; exact h1, fun i x hx => ?_⟩
  have hlx := hl x (List.mem_of_getElem? hx)
  rcases get_mod hx with ⟨rfl, y, hy, rfl⟩ | ⟨hne, hy⟩
  · obtain ⟨x0, ex, g1, g2, g3, g4, g5⟩ := h2 i y hy
    refine ⟨x0, ex ++ [m_factOf n a (now + 1) it], g1, ?_, fun f hf => ?_, g4, ?_⟩
    · rw [g2]
      show putF x0 ((x0.2.2.2.2.2 ++ ex) ++ [_]) = _
      rw [List.append_assoc]
    · rcases List.mem_append.mp hf with hf | hf
      · exact g3 f hf
      · rw [List.mem_singleton.mp hf]
        exact hb
    · rw [g2] at hlx
      rw [← List.append_assoc]
      exact hlx
  · exact h2 i x hy
section
variable {nl : Bool} {Ln : Nat} {xs : Nat → Int32} {d : Nat} {σ : am_S} {w : ow_T} {b v gl nu : Nat} {X : Stx} {M : mOff} {V : Nat × Nat × Nat × Nat × Nat} {Cc : Nat × Nat} {fnd : Int32}
/-- a batch is ended: its facts one after the other -/
theorem bk_end {x1 x2 : Option Nat} {F : Int32 → am_S → Prop} (hb : 1189 ≤ b ∨ b = 1039) (hV : Vok V) (hw : WfX M) (hA : ActT (o_tel M)) (hT : ClsOk (o_tel M)) (hl : (o_log M).length < 190000) (hnow : (o_now M).toInt ≤ 2000000000) (A : Bks σ w v X b M gl nu V Cc) (hf : am_fI σ 2001 1008 = fnd)
    (K : ∀ r, r = m_end M fnd → ∀ σ' w' X' gl', Bks σ' w' v X' b r.2.1 gl' nu V Cc → Eff (bkK b v) σ w σ' w' → am_fI σ' 2001 1008 = r.2.2 → F r.1 σ') : c_Bk_perform_143 nl Ln xs (d + 416) b x1 x2 21 (o_now M) (-1) 0 σ F := by
  obtain ⟨hwo, hper, hh, hq⟩ := hw
  have m1 : ∀ h, h < 100 → ¬ Int32.ofNat h = -1 := fun h hh z => ne_m1 (n := h) (by omega) z
  obtain ⟨r, hr⟩ : ∃ r, r = m_end M fnd := ⟨_, rfl⟩
  have K' := K r hr
  unfold m_end at hr
  have fin : ∀ {Mh : mOff} {s : am_S} {ws : ow_T} {Xs : Stx} {ans : Int32} {x4 x6 : Int32}, o_hel Mh = o_hel M → o_log Mh = o_log M → Bks s ws v Xs b Mh gl nu V Cc → Eff (bkK b v) σ w s ws → r = (ans, m_over Mh (o_now Mh) (o_cas Mh) 21, am_fI s 2001 1008) → (∀ x5, ans = (if x5 = -1 then am_fI s 6018 b else -20 - x5) → c_Bk_perform_191 nl Ln xs (d + 416) b x1 x2 21 x4 x5 x6 s F) := by
    intro Mh s ws Xs ans x4 x6 eh el A1 E1 er x5 ea
    have kb := A1.2.1.1.1.2.1
    refine w_Bk_perform_191 ⟨fun _ => is_mk kb, ?_⟩
    rintro w4 rfl
    refine ⟨is_mk kb, ?_⟩
    rw [← ea]
    refine bk_finish (d := d + 409) (n2 := 21) hb (by omega) (by rw [eh]; exact hh) (by rw [eh]; exact hq) (by rw [el]; exact hl) A1 (fun s' w' gl' A2 E2 f2 _ => ?_)
    rw [er] at K'
    exact K' s' w' Xs gl' A2 (E1.trans E2) f2
  have loop : ∀ (l : List mDeed) (h : Nat) (now : Int32) (Cs : List mCase) (s : am_S) (ws : ow_T) (Xs : Stx), (o_hel M).drop h = l → h ≤ (o_hel M).length → WfO (upM M now Cs) → Grown (o_now M) (o_cas M) Cs → ((o_now M).toInt ≤ now.toInt ∧ now.toInt ≤ (o_now M).toInt + h) → Bks s ws v Xs b (upM M now Cs) gl nu V Cc → Eff (bkK b v) σ w s ws → m_endL 0 M fnd (o_hel M) = m_endL h (upM M now Cs) (am_fI s 2001 1008) l → c_Bk_perform_143 nl Ln xs (d + 416) b x1 x2 21 (o_now M) (-1) (Int32.ofNat h) s F := by
    intro l
    induction l with
    | nil =>
      intro h now Cs s ws Xs hd hlen hwf hG hn A1 E1 er
      have hle : (o_hel M).length ≤ h := List.drop_eq_nil_iff.mp hd
      have h18 : am_fI s 6018 b = Int32.ofNat (o_hel M).length := A1.2.1.2.1.2.2.2.2.2.2.2.1
      refine w_Bk_perform_143 ⟨is_mk A1.2.1.1.1.2.1, ?_⟩
      rw [h18, n32lt (by omega) (by omega)]
      refine ⟨fun z => absurd z (by omega), fun _ => fin (Mh := upM M now Cs) (ans := Int32.ofNat (o_hel M).length) rfl rfl A1 E1 ?_ (-1) ?_⟩
      · rw [hr, er]
        rfl
      · rw [if_pos rfl, h18]
    | cons q l ih =>
      intro h now Cs s ws Xs hd hlen hwf hG hn A1 E1 er
      have hlt : h < (o_hel M).length := by
        apply Classical.byContradiction
        intro z
        rw [List.drop_eq_nil_of_le (by omega)] at hd
        cases hd
      obtain ⟨q', hq'⟩ := get_ex hlt
      have hdd := drop_get hq'
      rw [hd] at hdd
      have eq : q' = q := (List.cons.inj hdd).1.symm
      subst eq
      have hl' : (o_hel M).drop (h + 1) = l := (List.cons.inj hdd).2.symm
      have hqq := hq q' (List.mem_of_getElem? hq')
      have h18 : am_fI s 6018 b = Int32.ofNat (o_hel M).length := A1.2.1.2.1.2.2.2.2.2.2.2.1
      have hK := A1.2.1.1.1
      have a8 := hK.2.2.2.2.2.2.2.2.1
      obtain ⟨q1, q2⟩ := A1.2.1.2.2.1 h q' hq'
      have Dm : DdR s (bA s b 6008) (7 * h) 420 q'.1 q'.2 := ⟨a8.2.2, by omega, by omega, q1, q2⟩
      refine w_Bk_perform_143 ⟨is_mk hK.2.1, ?_⟩
      rw [h18, n32lt (by omega) (by omega), mul7 h (by omega), a8.1]
      refine ⟨fun _ => ⟨fun _ => ?_, fun z => absurd rfl z⟩, fun z => absurd hlt z⟩
      refine bk_doFact (d := d) (M := upM M now Cs) hb hV (ne_le hwf hA) hwf hT hqq.1 hqq.2 Dm (Or.inr rfl) rfl A1 (fun rf hrf s2 w2 X2 A2 E2 f2 _ => ?_)
      have hx := fact_wf (a := q'.2) (fnd := am_fI s 2001 1008) hwf hqq.1 hqq.2 (by show now.toInt < _; omega)
      rw [← hrf] at hx
      have er2 : m_endL h (upM M now Cs) (am_fI s 2001 1008) (q' :: l) = (if rf.1 < 0 then (some h, rf.2.1, rf.2.2) else m_endL (h + 1) rf.2.1 rf.2.2 l) := by
        rw [hrf]
        rfl
      rw [er2] at er
      rw [n32s]
      have z32 : (0 : Int32).toInt = 0 := by decide
      rcases hx with ⟨u1, u2⟩ | ⟨it, u1, u2, u3, u4⟩
      · rw [if_pos (by rw [i32lt, z32]; exact u2)] at er
        rw [u1] at A2 er
        refine ⟨fun z => absurd z (fun z => by rw [z] at u2; exact absurd u2 (by decide)), fun _ => ?_⟩
        refine bk_forget (d := d + 413) (M := upM M now Cs) hb hwf.1.p100 hwf.1.l200 hwf.1.c100 hG A2 (fun s3 w3 X3 A3 E3 f3 _ => ?_)
        have K3 : ∀ x4 x6, c_Bk_perform_191 nl Ln xs (d + 416) b x1 x2 21 x4 (Int32.ofNat h) x6 s3 F := fun x4 x6 => by
          refine fin (Mh := m_setCas (upM M now Cs) (o_cas M)) (ans := -20 - Int32.ofNat h) rfl rfl A3 ((E1.trans E2).trans E3) ?_ (Int32.ofNat h) ?_
          · rw [hr, er, f3, f2]
            rfl
          · rw [if_neg (m1 h (by omega))]
        refine w_Bk_perform_143 ⟨is_mk A3.2.1.1.1.2.1, fun _ => ⟨fun z => absurd z (m1 h (by omega)), fun _ => K3 _ _⟩, fun _ => K3 _ _⟩
      · rw [u1] at A2 er
        rw [u2, if_neg (by decide)] at er
        refine ⟨fun _ => ?_, fun z => absurd u2 z⟩
        have hr32 := r32 now
        have en1 : (now + 1).toInt = now.toInt + 1 := by
          rw [i32add (by rw [show (1 : Int32).toInt = 1 by decide]; omega) (by rw [show (1 : Int32).toInt = 1 by decide]; omega), show (1 : Int32).toInt = 1 by decide]
        refine ih (h + 1) (now + 1) (Cs.modify (m_ix (q'.2 0)) (fcM q'.1 q'.2 (now + 1) it)) s2 w2 X2 hl' (by omega) u3 ?_ (by rw [en1]; omega) A2 (E1.trans E2) (by rw [f2]; exact er)
        exact grown_keep hG (by rw [i32lt, en1]; omega) (fun x hx => by
          obtain ⟨i, hi⟩ := List.mem_iff_getElem?.mp hx
          exact (u3.1.c hi).2.2.2.2.1.1)
  exact loop (o_hel M) 0 (o_now M) (o_cas M) σ w X rfl (by omega) hwo (grown_rf hwo) ⟨Int.le_refl _, by omega⟩ A (Eff.rf A.1.1.1) (by rw [hf]; rfl)
end
