/-! THE PARSER of the reference: NOT, brackets, leaves, all together -/
section
variable {nl : Bool} {Ln : Nat} {xs : Nat → Int32} {t : List Int32} {o f : Nat}
theorem NotOK_step (hN : NotOK nl Ln xs t o f) (hC : CondOK nl Ln xs t o f) : NotOK nl Ln xs t o (f + 1) := by
  intro d σ s op nn acc F hop hf P hw hb K
  have hl1 := tk_len P
  have hpl := P.pl
  have hle := P.le
  have hl4 := P.l4
  have hk := P.2.2.2.1
  have hat := hd_at hk.1 hk.2.1
  have hsg := hd_sign hk.1 hk.2.1
  have hR : m_cond (f + 1) 0 op acc (m_tk t s) = (if (m_hd (m_tk t s)).1 = 14 then (if 20 ≤ op then .inl (m_hd (m_tk t s)).2.2 else (match m_cond f 0 (op + 1) acc (m_tk t s).tail with
          | .inl e => .inl e
          | .inr (u, r) => .inr (.tag 2 u, r)))
      else if (m_hd (m_tk t s)).1 = 27 then (if 20 ≤ op then .inl (m_hd (m_tk t s)).2.2 else (match m_cond f 3 (op + 1) acc (m_tk t s).tail with
          | .inl e => .inl e
          | .inr (u, r) => if (m_hd r).1 = 28 then .inr (u, r.tail) else .inl (m_hd r).2.2))
      else if 15 ≤ (m_hd (m_tk t s)).1 ∧ (m_hd (m_tk t s)).1 ≤ 18 then (if (m_hd (m_tk t s).tail).1 = 26 then .inr (.nest (Int.ofNat ((m_hd (m_tk t s)).1 - 12)) (.nest (m_hd (m_tk t s).tail).2.1.toInt .nil), (m_tk t s).tail.tail) else .inl (m_hd (m_tk t s).tail).2.2)
      else if (m_hd (m_tk t s)).1 = 19 then (if 20 ≤ (m_hd (m_tk t s).tail).1 ∧ (m_hd (m_tk t s).tail).1 ≤ 25 then .inr (.nest 7 (.nest (Int.ofNat ((m_hd (m_tk t s).tail).1 - 20)) .nil), (m_tk t s).tail.tail) else .inl (m_hd (m_tk t s).tail).2.2)
      else .inl (m_hd (m_tk t s)).2.2) := rfl
  rw [hR, hpl] at K
  have hw14 := hd_word hk.1 hk.2.1 (i := 14) (by decide)
  obtain ⟨w1, w2, w3, w4⟩ := ws_txt (23, 14) (by decide)
  have w4 : 2 ≤ (txt 23).length := w4
  have w3 : m_wd[14]? = some (txt 23) := w3
  have h14 : (m_hd (m_tk t s)).1 = 14 ↔ (m_knd t s = 1 ∧ m_wl t s = txt 23) := by
    rw [hw14, w3]
    simp only [Option.some.injEq]
    exact ⟨fun q => ⟨q.1, q.2.symm⟩, fun q => ⟨q.1, q.2.symm⟩⟩
  refine w_Ro_not ⟨is_mk P.1.2.1, fun _ => (r_isWord (d := d + 3 * (20 - op) + 4) w1 (by omega) P.1 P.2.2.1 hk (fun _ => ⟨fun hq => ?_, fun hq => ?_⟩)), fun q => absurd P.2.2.2.2.1 q⟩
  · -- NOT
    have hh := of_decide_eq_true hq
    rw [if_pos (h14.mpr hh)] at K
    refine (r_opens (d := d + 3 * (20 - op) + 6) P hop (by rw [hh.1]; decide) (by rw [hh.1]; decide) (fun hne σ1 s1 g1 g2 P1 f1 _ => ⟨fun _ => ?_, fun q => absurd rfl q⟩) (fun he σ1 P1 f1 _ => ⟨fun q => absurd q (by decide), fun _ => ?_⟩))
    · rw [if_neg (by omega)] at K
      have e3 := (hat.2.2.1 hh.1).2.2.1
      rw [hh.2] at e3
      have hs1 := P1.le
      have hD : d + 3 * (20 - op) + 9 = (d + 2) + 3 * (20 - (op + 1)) + 10 := by omega
      rw [hD]
      refine hN (d + 2) σ1 s1 (op + 1) nn acc _ (by omega) (by rw [g2]; omega) P1 (hw.pf f1) (by omega) ⟨?_, ?_, ?_⟩
      · intro e he σ2 nn2 x P2 h1 h2 f2 _ σ3 q3
        rw [g2] at he
        rw [he] at K
        obtain ⟨P3, f3⟩ := P2.dec q3
        exact r_nodeE P3 (by omega) (fun σ4 P4 f4 _ => K.1 e rfl σ4 _ _ P4 (by omega) (by omega) (((f1.trans f2 (Nat.le_refl _)).trans f3 h1).trans f4 h1))
      · intro u r he h26 σ2 nn2 x P2 h1 h2 f2 _ σ3 q3
        rw [g2] at he
        rw [he] at K
        obtain ⟨P3, f3⟩ := P2.dec q3
        exact r_nodeE P3 (by omega) (fun σ4 P4 f4 _ => K.2.1 _ r rfl h26 σ4 _ _ P4 (by omega) (by omega) (((f1.trans f2 (Nat.le_refl _)).trans f3 h1).trans f4 h1))
      · intro u r he σ2 s2 nn2 x P2 g3 g4 g5 h1 h2 hx hc f2 _ σ3 q3
        rw [g2] at he g5
        rw [he] at K
        have hs2 := P2.le
        obtain ⟨P3, f3⟩ := P2.dec q3
        refine r_nodeP P3 (by omega) (fun σ4 P4 fa fb fc f4 _ => K.2.2 _ r rfl σ4 s2 _ nn2 P4 g3 (by omega) (by omega) (by omega) (by omega) (by omega) (fun q => ?_) (((f1.trans f2 (Nat.le_refl _)).trans f3 h1).trans f4 h1))
        exact ⟨fa, x, hx, fb, cnd_pf (hc 0) (f3.trans f4 (Nat.le_refl _)) hx⟩
    · rw [if_pos (by omega)] at K
      exact K.1 s rfl σ1 nn _ P1 (Nat.le_refl _) (by omega) f1
  · have hn14 : ¬ (m_hd (m_tk t s)).1 = 14 := fun q => hq (decide_eq_true (h14.mp q))
    rw [if_neg hn14] at K
    rw [hk.2.2.2.1]
    refine ⟨fun h40 => ?_, fun h40 => ?_⟩
    · -- brackets
      have h27 := hsg.1.mpr h40
      rw [if_pos h27] at K
      obtain ⟨e1, e2, -, -⟩ := hat.2.2.2.2 (by rw [h40]; decide) (by rw [h40]; decide) (by rw [h40]; decide)
      refine (r_opens (d := d + 3 * (20 - op) + 6) P hop (by rw [h40]; decide) (by rw [h40]; decide) (fun hne σ1 s1 g1 g2 P1 f1 _ => ⟨fun _ => ?_, fun q => absurd rfl q⟩) (fun he σ1 P1 f1 _ => ⟨fun q => absurd q (by decide), fun _ => ?_⟩))
      · rw [if_neg (by omega)] at K
        have hs1 := P1.le
        have hD : d + 3 * (20 - op) + 9 = d + 3 * (20 - (op + 1)) + 12 := by omega
        rw [hD]
        refine hC d σ1 s1 (op + 1) nn acc _ (by omega) (by rw [g2]; omega) P1 (hw.pf f1) (by omega) ⟨?_, ?_, ?_⟩
        · intro e he σ2 nn2 x P2 h1 h2 f2 _
          rw [g2] at he
          rw [he] at K
          refine (r_needsE (d := d + 3 * (20 - (op + 1)) + 10) P2 (fun σ3 P3 f3 _ σ4 q4 => ?_))
          obtain ⟨P4, f4⟩ := P3.dec q4
          exact K.1 e rfl σ4 _ _ P4 (by omega) (by omega) (((f1.trans f2 (Nat.le_refl _)).trans f3 h1).trans f4 h1)
        · intro u r he h26 σ2 nn2 x P2 h1 h2 f2 _
          rw [g2] at he
          rw [he] at K
          refine (r_needsE (d := d + 3 * (20 - (op + 1)) + 10) P2 (fun σ3 P3 f3 _ σ4 q4 => ?_))
          obtain ⟨P4, f4⟩ := P3.dec q4
          exact K.1 _ (if_neg (by omega)) σ4 _ _ P4 (by omega) (by omega) (((f1.trans f2 (Nat.le_refl _)).trans f3 h1).trans f4 h1)
        · intro u r he σ2 s2 nn2 x P2 g3 g4 g5 h1 h2 hx hc f2 _
          rw [g2] at he g5
          rw [he] at K
          have hs2 := P2.le
          have hk2 := P2.2.2.2.1
          have hl2 := tk_len P2
          have hp2 := P2.pl
          refine (r_needs (d := d + 3 * (20 - (op + 1)) + 9) (ty := 28) P2 (hd_sign hk2.1 hk2.2.1).2.1 (by decide) (by decide) (by decide) (fun h28 σ3 s3 g6 g7 P3 f3 _ σ4 q4 => ?_) (fun h28 σ3 P3 f3 _ σ4 q4 => ?_))
          · obtain ⟨P4, f4⟩ := P3.dec q4
            rw [g3] at h28 g7 hl2
            exact K.2.2 u r.tail (if_pos h28) σ4 s3 nn2 x P4 g7 (by omega) (by omega) (by omega) (by omega) hx ((hc.pf f3 hx).pf f4 hx) (((f1.trans f2 (Nat.le_refl _)).trans f3 h1).trans f4 h1)
          · obtain ⟨P4, f4⟩ := P3.dec q4
            rw [g3] at h28 hp2
            exact K.1 s2 ((if_neg h28).trans (by rw [hp2])) σ4 nn2 _ P4 (by omega) (by omega) (((f1.trans f2 (Nat.le_refl _)).trans f3 h1).trans f4 h1)
      · rw [if_pos (by omega)] at K
        exact K.1 s rfl σ1 nn _ P1 (Nat.le_refl _) (by omega) f1
    · have hn27 : ¬ (m_hd (m_tk t s)).1 = 27 := fun q => h40 (hsg.1.mp q)
      rw [if_neg hn27] at K
      have leafgo : ∀ (C : Nat) (σ1 : am_S) (s1 : Nat), 3 ≤ C → C ≤ 6 → (m_hd (m_tk t s)).1 = C + 12 → s + 2 ≤ s1 → m_tk t s1 = (m_tk t s).tail → PS σ1 o t s1 op nn → Pf σ σ1 o nn → k_Ro_needsNumber nl Ln xs (d + 3 * (20 - op) + 9) o σ1 (fun a s2 => am_ext σ1 s2 → k_Ro_node nl Ln xs (d + 3 * (20 - op) + 9) o (Int32.ofNat C) a (-1) s2 (fun a8 s7 => am_ext s2 s7 → F a8 s7)) := by
        intro C σ1 s1 c1 c2 hh g1 g2 P1 f1
        have hs1 := P1.le
        have hp1 := P1.pl
        have hl2 := tk_len P1
        rw [if_pos (by omega), hh, Nat.add_sub_cancel] at K
        refine (r_leaf (d := d + 3 * (20 - op) + 6) (c := C) (F := F) P1 ⟨c1, c2⟩ (by omega) (by omega) ?_ ?_ ?_)
        · intro h26 σ' nn' x P' e' f'
          rw [g2] at h26 hp1
          exact K.1 s1 ((if_neg h26).trans (by rw [hp1])) σ' nn' x P' (by omega) (by omega) (f1.trans f' (Nat.le_refl _))
        · intro h26 h26' σ' nn' x P' e' f'
          rw [g2] at h26 h26' P'
          exact K.2.1 _ _ (if_pos h26) h26' σ' nn' x P' (by omega) (by omega) (f1.trans f' (Nat.le_refl _))
        · intro h26 σ' s' P' g3 g4 hc f'
          rw [g2] at h26 g3 hc hl2
          exact K.2.2 _ _ (if_pos h26) σ' s' _ nn P' g3 (by omega) (by omega) (by omega) (by omega) (by omega) hc (f1.trans f' (Nat.le_refl _))
      obtain ⟨a1, a2, a3, a4⟩ := ws_txt (24, 15) (by decide)
      have a4 : 2 ≤ (txt 24).length := a4
      refine (r_takes (d := d + 3 * (20 - op) + 3) (i := 15) P a1 a2 a3 (by omega) (fun hh σ1 s1 g1 g2 P1 f1 _ => ⟨fun _ => leafgo 3 σ1 s1 (by decide) (by decide) hh (by omega) g2 P1 f1, fun q => absurd rfl q⟩) (fun n15 _ => ⟨fun q => absurd q (by decide), fun _ => ?_⟩))
      clear a1 a2 a3 a4
      obtain ⟨a1, a2, a3, a4⟩ := ws_txt (25, 16) (by decide)
      have a4 : 2 ≤ (txt 25).length := a4
      refine (r_takes (d := d + 3 * (20 - op) + 3) (i := 16) P a1 a2 a3 (by omega) (fun hh σ1 s1 g1 g2 P1 f1 _ => ⟨fun _ => leafgo 4 σ1 s1 (by decide) (by decide) hh (by omega) g2 P1 f1, fun q => absurd rfl q⟩) (fun n16 _ => ⟨fun q => absurd q (by decide), fun _ => ?_⟩))
      clear a1 a2 a3 a4
      obtain ⟨a1, a2, a3, a4⟩ := ws_txt (26, 17) (by decide)
      have a4 : 2 ≤ (txt 26).length := a4
      refine (r_takes (d := d + 3 * (20 - op) + 3) (i := 17) P a1 a2 a3 (by omega) (fun hh σ1 s1 g1 g2 P1 f1 _ => ⟨fun _ => leafgo 5 σ1 s1 (by decide) (by decide) hh (by omega) g2 P1 f1, fun q => absurd rfl q⟩) (fun n17 _ => ⟨fun q => absurd q (by decide), fun _ => ?_⟩))
      clear a1 a2 a3 a4
      obtain ⟨a1, a2, a3, a4⟩ := ws_txt (27, 18) (by decide)
      have a4 : 2 ≤ (txt 27).length := a4
      refine (r_takes (d := d + 3 * (20 - op) + 3) (i := 18) P a1 a2 a3 (by omega) (fun hh σ1 s1 g1 g2 P1 f1 _ => ⟨fun _ => leafgo 6 σ1 s1 (by decide) (by decide) hh (by omega) g2 P1 f1, fun q => absurd rfl q⟩) (fun n18 _ => ⟨fun q => absurd q (by decide), fun _ => ?_⟩))
      clear a1 a2 a3 a4
      rw [if_neg (by omega)] at K
      obtain ⟨a1, a2, a3, a4⟩ := ws_txt (28, 19) (by decide)
      have a4 : 2 ≤ (txt 28).length := a4
      refine (r_takes (d := d + 3 * (20 - op) + 3) (i := 19) P a1 a2 a3 (by omega) (fun hh σ1 s1 g1 g2 P1 f1 _ => ⟨fun _ => ?_, fun q => absurd rfl q⟩) (fun n19 _ => ⟨fun q => absurd q (by decide), fun _ => ?_⟩))
      · rw [if_pos hh] at K
        have hs1 := P1.le
        have hp1 := P1.pl
        have hl2 := tk_len P1
        refine (r_needsKind (d := d + 3 * (20 - op) + 2) P1 (hw.pf f1) (fun hr σ2 s2 g3 g4 P2 f2 _ => ?_) (fun hr σ2 P2 f2 _ => ?_))
        · refine r_nodeP P2 (by omega) (fun σ3 P3 fa fb fc f3 _ => ?_)
          rw [g2] at hr g4 hl2 fb
          refine K.2.2 _ _ (if_pos hr) σ3 s2 _ nn P3 g4 (by omega) (by omega) (by omega) (by omega) (by omega) (fun q => ?_) ((f1.trans f2 (Nat.le_refl _)).trans f3 (Nat.le_refl _))
          refine ⟨by rw [fa]; rfl, ?_, by decide, by decide, by show (0 : Int) ≤ (((m_hd (m_tk t s).tail).1 - 20 : Nat) : Int); omega, by show (((m_hd (m_tk t s).tail).1 - 20 : Nat) : Int) < _; omega, fun _ => by show (((m_hd (m_tk t s).tail).1 - 20 : Nat) : Int) ≤ 5; omega⟩
          rw [fb]
          apply Int32.toInt_inj.mp
          rw [n32 (by omega), ofInt_to (by show (0 : Int) ≤ (((m_hd (m_tk t s).tail).1 - 20 : Nat) : Int); omega) (by show (((m_hd (m_tk t s).tail).1 - 20 : Nat) : Int) < _; omega)]
          rfl
        · refine r_nodeE P2 (by omega) (fun σ3 P3 f3 _ => ?_)
          rw [g2] at hr hp1
          exact K.1 s1 ((if_neg hr).trans (by rw [hp1])) σ3 _ _ P3 (by omega) (by omega) ((f1.trans f2 (Nat.le_refl _)).trans f3 (Nat.le_refl _))
      · rw [if_neg n19] at K
        rw [hk.2.2.1]
        exact r_wrongP P (by omega) (fun σ1 P1 f1 _ => K.1 s rfl σ1 nn _ P1 (Nat.le_refl _) (by omega) f1)
end
