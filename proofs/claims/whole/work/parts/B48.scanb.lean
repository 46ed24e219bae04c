/-! THE CLASS: a text is cut into its tokens -/
section
variable {nl : Bool} {Ln : Nat} {xs : Nat → Int32} {d : Nat} {σ : am_S} {w : ow_T} {kt : Nat × Nat} {n g : Nat} {t : List Int32}
theorem RdK.sc {σ1 : am_S} (h : RdK σ w) (r : ScC σ σ1) : RdK σ1 w := by
  obtain ⟨h1, h2, ⟨h3, h4, h5⟩, h6⟩ := h
  exact ⟨h1, by rw [r.1.1]; exact h2, ⟨(r.2.1 _ _).2.2.trans h3, (r.2.1 _ _).2.2.trans h4, (r.2.1 _ _).2.2.trans h5⟩, by rw [r.1.1]; exact h6⟩
/-- a token is put behind those there are -/
theorem TkA.put {tk0 : List mTok} {y : mTok} {σ1 σ5 σ9 σ13 : am_S} (h : TkA σ1 tk0) (q5 : σ5 = am_saI σ1 1035 tk0.length (Int32.ofNat y.1)) (q9 : σ9 = am_saI σ5 1036 tk0.length y.2.1) (q13 : σ13 = am_saI σ9 1037 tk0.length (Int32.ofNat y.2.2)) : TkA σ13 (tk0 ++ [y]) := by
  intro i z hz
  rw [saI_ne q13 (by decide), saI_ne q9 (by decide), saI_all q5, saI_ne q13 (by decide), saI_all q9, saI_ne q5 (by decide), saI_all q13, saI_ne q9 (by decide), saI_ne q5 (by decide)]
  by_cases hi : i < tk0.length
  · rw [List.getElem?_append_left hi] at hz
    rw [if_neg (by omega), if_neg (by omega), if_neg (by omega)]
    exact h i z hz
  · rw [List.getElem?_append_right (by omega)] at hz
    have hi2 : i - tk0.length = 0 := by
      have := lt_of_get hz
      simp at this
      omega
    rw [hi2] at hz
    have hz : y = z := Option.some.inj hz
    subst hz
    have hi3 : i = tk0.length := by omega
    rw [if_pos hi3, if_pos hi3, if_pos hi3]
    exact ⟨rfl, rfl, rfl⟩
theorem rd_scan {F : am_S → Prop} (hl : t.length ≤ 400) (R : RdK σ w) (h : ByR σ w kt n g t) (hk : KtO w kt) (K : ∀ σ', ScC σ σ' → TkA σ' (m_tk t 0) → F σ') : k_Rd_scan nl Ln xs (d + 6) 1034 (some n) σ F := by
  have loop : ∀ (m s st : Nat) (tk0 : List mTok) (σ1 : am_S) (x5 x6 x7 x8 x9 : Option Value), s + m = t.length → tk0.length ≤ s → st ≤ s → m_tk t 0 = tk0 ++ m_tk t s → ScC σ σ1 → TkA σ1 tk0 → c_Rd_scan_7 nl Ln xs (d + 6) 1034 (some n) (Int32.ofNat tk0.length) (Int32.ofNat s) (Int32.ofNat st) x5 x6 x7 x8 x9 σ1 F := by
    intro m
    induction m using Nat.strongRecOn with
    | _ m ih =>
      intro s st tk0 σ1 x5 x6 x7 x8 x9 hs hj hst he r hT
      have h1 := h.sc r hk
      have hkd := h1.2.1
      have esz := h1.2.2.2.2.1
      have R1 := R.sc r
      obtain ⟨-, kk, ⟨f0, f1, f2⟩, k0, k1, k2⟩ := R1
      have ba : 0 ≤ (Int32.ofNat tk0.length).toInt ∧ (Int32.ofNat tk0.length).toInt < 401 := by rw [n32 (by omega)]; omega
      have bc : (Int32.ofNat tk0.length).toNatClampNeg = tk0.length := n32c (by omega)
      by_cases h0 : m = 0
      · subst h0
        have fin : ∀ x5 x6 x7 x8 x9, c_Rd_scan_231 nl Ln xs (d + 6) 1034 (some n) (Int32.ofNat tk0.length) (Int32.ofNat s) (Int32.ofNat st) x5 x6 x7 x8 x9 σ1 F := by
          intro x5 x6 x7 x8 x9
          refine w_Rd_scan_231 ⟨is_mk kk, ?_⟩
          rw [f0, Option.getD_some, bc]
          refine ⟨ar_mk k0 ba.1 ba.2, ?_⟩
          intro s3 q3
          have r3 : ScC σ1 s3 := by rw [q3]; exact ScC.saI (by decide)
          rw [(r3.2.1 4001 1034).2.2, f1, Option.getD_some]
          refine ⟨ar_mk (by rw [r3.1.1]; exact k1) ba.1 ba.2, ?_⟩
          intro s7 q7
          have r7 : ScC σ1 s7 := r3.trans (by rw [q7]; exact ScC.saI (by decide))
          rw [(r7.2.1 4002 1034).2.2, f2, Option.getD_some, Option.getD_some, (r7.2.1 1001 n).1, esz]
          refine ⟨is_mk (by rw [r7.1.1]; exact hkd), ar_mk (by rw [r7.1.1]; exact k2) ba.1 ba.2, ?_⟩
          intro s12 q12
          have r12 : ScC σ1 s12 := r7.trans (by rw [q12]; exact ScC.saI (by decide))
          refine K s12 (r.trans r12) ?_
          rw [he, tk_end (by omega), show s = t.length by omega]
          exact hT.put (y := (30, 0, t.length)) q3 q7 q12
        refine w_Rd_scan_7 ⟨fun _ => ⟨is_mk hkd, ?_⟩, fun _ => fin _ _ _ _ _⟩
        rw [Option.getD_some, esz, n32lt (by omega) (by omega)]
        exact ⟨fun z => absurd z (by omega), fun _ => fin _ _ _ _ _⟩
      · obtain ⟨b, hb⟩ := get_ex (show s < t.length by omega)
        have hdr : t.drop s = b :: t.drop (s + 1) := drop_get hb
        have hdl : (t.drop s).length = m := by rw [List.length_drop]; omega
        -- a token is put
        have put : ∀ (y : mTok) (m' : Nat) (x9 : Option Value), y.2.2 = s → m_tk t s = y :: m_tk t (s + m') → 1 ≤ m' → m' ≤ m → ¬ m_blank b → c_Rd_scan_182 nl Ln xs (d + 6) 1034 (some n) (Int32.ofNat tk0.length) (Int32.ofNat s) (Int32.ofNat st) b (Int32.ofNat (s + m')) y.2.1 (Int32.ofNat y.1) x9 σ1 F := by
          intro y m' x9 ys ey m1 m2 hbl
          refine w_Rd_scan_182 ⟨fun z => absurd (Or.inl z) hbl, fun _ => ⟨fun z => absurd (Or.inr z) hbl, fun _ => ⟨is_mk kk, ?_⟩⟩⟩
          rw [f0, Option.getD_some, bc]
          refine ⟨ar_mk k0 ba.1 ba.2, ?_⟩
          intro s5 q5
          have r5 : ScC σ1 s5 := by rw [q5]; exact ScC.saI (by decide)
          rw [(r5.2.1 4001 1034).2.2, f1, Option.getD_some]
          refine ⟨ar_mk (by rw [r5.1.1]; exact k1) ba.1 ba.2, ?_⟩
          intro s9 q9
          have r9 : ScC σ1 s9 := r5.trans (by rw [q9]; exact ScC.saI (by decide))
          rw [(r9.2.1 4002 1034).2.2, f2, Option.getD_some]
          refine ⟨ar_mk (by rw [r9.1.1]; exact k2) ba.1 ba.2, ?_⟩
          intro s13 q13
          have r13 : ScC σ1 s13 := r9.trans (by rw [q13]; exact ScC.saI (by decide))
          rw [n32s, n32s]
          have hlen : (tk0 ++ [y]).length = tk0.length + 1 := by simp
          rw [← hlen]
          refine ih (m - m') (by omega) (s + m') (st + 1) (tk0 ++ [y]) s13 _ _ _ _ _ (by omega) (by omega) (by omega) ?_ (r.trans r13) (hT.put q5 q9 (by rw [ys]; exact q13))
          rw [he, ey, List.append_assoc]
          rfl
        have sgn : (if b = 40 then (27 : Int32) else (if b = 41 then 28 else (if b = 59 then 29 else 31))) = Int32.ofNat (m_sgn b) := by
          unfold m_sgn
          split
          · rfl
          · split
            · rfl
            · split <;> rfl
        have t97 : (97 : Int32).toInt = 97 := by decide
        have t122 : (122 : Int32).toInt = 122 := by decide
        have t48 : (48 : Int32).toInt = 48 := by decide
        have t57 : (57 : Int32).toInt = 57 := by decide
        refine w_Rd_scan_7 ⟨fun _ => ⟨is_mk hkd, ?_⟩, fun z => absurd (show Int32.ofNat st < Int32.ofNat 400 from (n32lt (by omega) (by omega)).mpr (by omega)) z⟩
        rw [Option.getD_some, esz, n32lt (by omega) (by omega)]
        refine ⟨fun _ => by_at h1 (by omega) (fun _ => ?_), fun z => absurd (by omega) z⟩
        rw [at_get hb]
        rintro v6 rfl w12 rfl
        rw [sgn, n32s]
        -- no letter
        have c118 : ¬ m_let b = true → c_Rd_scan_118 nl Ln xs (d + 6) 1034 (some n) (Int32.ofNat tk0.length) (Int32.ofNat s) (Int32.ofNat st) b (Int32.ofNat (s + 1)) 0 (Int32.ofNat (m_sgn b)) x9 σ1 F := by
          intro hnl
          have c182 : ¬ m_dig b = true → c_Rd_scan_182 nl Ln xs (d + 6) 1034 (some n) (Int32.ofNat tk0.length) (Int32.ofNat s) (Int32.ofNat st) b (Int32.ofNat (s + 1)) 0 (Int32.ofNat (m_sgn b)) x9 σ1 F := by
            intro hnd
            by_cases hbl : m_blank b
            · have go : ∀ x5 x6 x7 x8 x9, c_Rd_scan_7 nl Ln xs (d + 6) 1034 (some n) (Int32.ofNat tk0.length) (Int32.ofNat (s + 1)) (Int32.ofNat st + 1) x5 x6 x7 x8 x9 σ1 F := fun x5 x6 x7 x8 x9 => by
                rw [n32s]
                exact ih (m - 1) (by omega) (s + 1) (st + 1) tk0 σ1 x5 x6 x7 x8 x9 (by omega) (by omega) (by omega) (by rw [he, tk_blank hb hbl]) r hT
              refine w_Rd_scan_182 ⟨fun _ => go _ _ _ _ _, fun h32 => ⟨fun _ => go _ _ _ _ _, fun h10 => ?_⟩⟩
              rcases hbl with z | z
              · exact absurd z h32
              · exact absurd z h10
            · exact put (m_sgn b, 0, s) 1 x9 rfl (tk_sgn hb hbl hnl hnd) (by omega) (by omega) hbl
          refine w_Rd_scan_118 ⟨fun hlt => c182 (fun z => ?_), fun hge => ⟨fun hgt => c182 (fun z => ?_), fun hle => ?_⟩⟩
          · have := dig_rng z
            rw [i32lt, t48] at hlt
            omega
          · have := dig_rng z
            rw [i32lt, t57] at hgt
            omega
          · rw [i32lt, t48] at hge
            rw [i32lt, t57] at hle
            have hdg : m_dig b = true := decide_eq_true ⟨by omega, by omega⟩
            have hbl : ¬ m_blank b := fun z => by
              rcases z with z | z <;> rw [z] at hdg <;> exact absurd hdg (by decide)
            have h1' : 1 ≤ (m_dg t s).length := by unfold m_dg; rw [hdr]; exact tw_len_pos hdg
            have h2' : (m_dg t s).length ≤ m := by unfold m_dg; rw [← hdl]; exact tw_le _
            have ht : ((m_dg t s).take 9).length = min 9 (m_dg t s).length := List.length_take
            refine rd_endOfRun (d := d + 3) (q := m_dig) (most := 9) (fun b => by rw [t48, t57]; exact decide_eq_true_iff) (by decide) (by decide) (by omega) h1 (fun _ => ?_) (by omega)
            -- its number
            have num : ∀ (j i : Nat), i + j = ((m_dg t s).take 9).length → c_Rd_scan_152 nl Ln xs (d + 6) 1034 (some n) (Int32.ofNat tk0.length) (Int32.ofNat s) (Int32.ofNat st) b (Int32.ofNat (s + ((m_dg t s).take 9).length)) (m_num 0 (((m_dg t s).take 9).take i)) 26 (Int32.ofNat (s + i)) σ1 F := by
              intro j
              induction j with
              | zero =>
                intro i hi
                refine w_Rd_scan_152 ⟨fun z => absurd ((n32lt (by omega) (by omega)).mp z) (by omega), fun _ => ?_⟩
                rw [List.take_of_length_le (show ((m_dg t s).take 9).length ≤ i by omega)]
                exact put (26, m_num 0 ((m_dg t s).take 9), s) _ _ rfl (tk_num hb hbl hnl hdg) (by omega) (by omega) hbl
              | succ j ihj =>
                intro i hi
                obtain ⟨c, hc⟩ := get_ex (show i < ((m_dg t s).take 9).length by omega)
                have hc2 : t[s + i]? = some c := by
                  have e1 : ((m_dg t s).take 9)[i]? = (m_dg t s)[i]? := List.getElem?_take_of_lt (by omega)
                  obtain ⟨c', c1, -, c3⟩ := tw_get (q := m_dig) (t.drop s) i (by show i < (m_dg t s).length; omega)
                  rw [List.getElem?_drop] at c1
                  have : c = c' := by
                    have hh : (m_dg t s)[i]? = some c' := c3
                    rw [e1, hh] at hc
                    exact (Option.some.inj hc).symm
                  rw [this]
                  exact c1
                refine w_Rd_scan_152 ⟨fun _ => ⟨is_mk hkd, ?_⟩, fun z => absurd ((n32lt (by omega) (by omega)).mpr (by omega)) z⟩
                rw [Option.getD_some]
                refine by_at h1 (by omega) (fun _ => ?_)
                rw [at_get hc2]
                rintro v5 rfl
                rw [n32s]
                have := ihj (i + 1) (by omega)
                have hts : ∀ l : List Int32, l[i]? = some c → l.take (i + 1) = l.take i ++ [c] := fun l h => by rw [List.take_succ, h]; rfl
                rw [hts _ hc, num_snoc] at this
                exact this
            exact num ((m_dg t s).take 9).length 0 (by omega)
        refine w_Rd_scan_76 ⟨fun hlt => c118 (fun z => ?_), fun hge => ⟨fun hgt => c118 (fun z => ?_), fun hle => ?_⟩⟩
        · have := of_decide_eq_true z
          rw [i32lt, t97] at hlt
          omega
        · have := of_decide_eq_true z
          rw [i32lt, t122] at hgt
          omega
        · rw [i32lt, t97] at hge
          rw [i32lt, t122] at hle
          have hlt : m_let b = true := decide_eq_true ⟨by omega, by omega⟩
          have hbl : ¬ m_blank b := fun z => by
            rcases z with z | z <;> rw [z] at hlt <;> exact absurd hlt (by decide)
          have h1' : 1 ≤ (m_wl t s).length := by unfold m_wl; rw [hdr]; exact tw_len_pos hlt
          have h2' : (m_wl t s).length ≤ m := by unfold m_wl; rw [← hdl]; exact tw_le _
          refine rd_endOfRun (d := d + 3) (q := m_let) (most := 400) (fun b => by rw [t97, t122]; exact decide_eq_true_iff) (by decide) (by decide) (by omega) h1 (fun _ => ?_) (by omega)
          rw [List.take_of_length_le (show ((t.drop s).takeWhile m_let).length ≤ 400 by have : (m_wl t s).length ≤ m := h2'; unfold m_wl at this; omega)]
          exact rd_wordIn (d := d) (by omega) h1 rfl (by omega) (fun _ => put (m_word (m_wl t s), 0, s) _ _ rfl (tk_word hb hbl hlt) h1' h2' hbl)
  exact w_Rd_scan (loop t.length 0 0 [] σ none none none none none (by omega) (by simp) (by omega) rfl ScC.rf (fun i y hy => absurd hy (by simp)))
end
