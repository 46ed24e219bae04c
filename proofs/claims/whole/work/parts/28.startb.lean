/-! from what the Statement gives to a run of the abstract machine -/
theorem am_kC_z (t : List (List Cond)) (c : List am_dC) (m : List am_dM) (o : List String) (k k2 : List (List am_dL)) (i : List (List (Nat × Int32))) (l : List (List (Nat × Int64))) (z z2 : am_Z) (a : List (Nat × FieldType)) (q : am_dC) : am_kC (t, c, m, o, k, i, l, z, a) q = am_kC (t, c, m, o, k2, i, l, z2, a) q := rfl
theorem am_kM_z (t : List (List Cond)) (c : List am_dC) (m : List am_dM) (o : List String) (k k2 : List (List am_dL)) (i : List (List (Nat × Int32))) (l : List (List (Nat × Int64))) (z z2 : am_Z) (a : List (Nat × FieldType)) (q : am_dM) : am_kM (t, c, m, o, k, i, l, z, a) q = am_kM (t, c, m, o, k2, i, l, z2, a) q := rfl
theorem am_kA_z (t : List (List Cond)) (c : List am_dC) (m : List am_dM) (o : List String) (k k2 : List (List am_dL)) (i : List (List (Nat × Int32))) (l : List (List (Nat × Int64))) (z z2 : am_Z) (a : List (Nat × FieldType)) : am_kA (t, c, m, o, k, i, l, z, a) = am_kA (t, c, m, o, k2, i, l, z2, a) := rfl
theorem am_kL_z (t : List (List Cond)) (c : List am_dC) (m : List am_dM) (o : List String) (k : List (List am_dL)) (i : List (List (Nat × Int32))) (l : List (List (Nat × Int64))) (rk : Nat → Nat) (rl rl2 : Nat → Nat) (rv rv2 : Nat → Nat → Int32) (zs : List (String × String × String × Value)) (zt : List (String × Nat × String × Nat)) (zn : List Cond) (zo : List String) (a : List (Nat × FieldType)) (p : Nat) (q : am_dL) : am_kL (t, c, m, o, k, i, l, (rk, rl, rv, zs, zt, zn, zo), a) p q = am_kL (t, c, m, o, k, i, l, (rk, rl2, rv2, zs, zt, zn, zo), a) p q := rfl
theorem dk_kC (nl : Bool) (L : Nat) (xs : Nat → Int32) : ∀ q ∈ am_dcl (dd_T nl L xs), am_kC (dd_T nl L xs) q = true := by
  intro q hq
  have h := dd_kC q hq
  unfold dd_0 dd_T at h
  unfold dd_T
  rw [am_kC_z _ _ _ _ _ (dd_lk true) _ _ _ (dd_Z true 0 fun _ => 0)]
  exact h
theorem dk_kA (nl : Bool) (L : Nat) (xs : Nat → Int32) : am_kA (dd_T nl L xs) = true := by
  have h := dd_kA
  unfold dd_0 dd_T at h
  unfold dd_T
  rw [am_kA_z _ _ _ _ _ (dd_lk true) _ _ _ (dd_Z true 0 fun _ => 0)]
  exact h
theorem dk_kL {nl : Bool} {c : Nat} {l : List am_dL} (L : Nat) (xs : Nat → Int32) (h : (l.all fun q => am_kL (dd_0 nl) c q) = true) : ∀ q ∈ l, am_kL (dd_T nl L xs) c q = true := by
  intro q hq
  have h1 := List.all_eq_true.mp h q hq
  unfold dd_0 dd_T dd_Z at h1
  unfold dd_T dd_Z
  rw [am_kL_z _ _ _ _ _ _ _ _ _ (dd_rl 0) _ (dd_rv fun _ => 0)]
  exact h1
theorem dk_L (nl : Bool) (L : Nat) (xs : Nat → Int32) : ∀ c, ∀ q ∈ (am_dlk (dd_T nl L xs)).getD c [], am_kL (dd_T nl L xs) c q = true := by
  intro c
  cases nl with
  | true => match c with
    | 0 => exact dk_kL L xs dd_kl0_true
    | 1 => exact dk_kL L xs dd_kl1_true
    | 2 => exact dk_kL L xs dd_kl2_true
    | 3 => exact dk_kL L xs dd_kl3_true
    | 4 => exact dk_kL L xs dd_kl4_true
    | 5 => exact dk_kL L xs dd_kl5_true
    | 6 => exact dk_kL L xs dd_kl6_true
    | 7 => exact dk_kL L xs dd_kl7_true
    | 8 => exact dk_kL L xs dd_kl8_true
    | 9 => exact dk_kL L xs dd_kl9_true
    | 10 => exact dk_kL L xs dd_kl10_true
    | 11 => exact dk_kL L xs dd_kl11_true
    | 12 => exact dk_kL L xs dd_kl12_true
    | 13 => exact dk_kL L xs dd_kl13_true
    | 14 => exact dk_kL L xs dd_kl14_true
    | 15 => exact dk_kL L xs dd_kl15_true
    | 16 => exact dk_kL L xs dd_kl16_true
    | 17 => exact dk_kL L xs dd_kl17_true
    | 18 => exact dk_kL L xs dd_kl18_true
    | 19 => exact dk_kL L xs dd_kl19_true
    | 20 => exact dk_kL L xs dd_kl20_true
    | n + 21 => exact fun q hq => absurd hq List.not_mem_nil
  | false => match c with
    | 0 => exact dk_kL L xs dd_kl0_false
    | 1 => exact dk_kL L xs dd_kl1_false
    | 2 => exact dk_kL L xs dd_kl2_false
    | 3 => exact dk_kL L xs dd_kl3_false
    | 4 => exact dk_kL L xs dd_kl4_false
    | 5 => exact dk_kL L xs dd_kl5_false
    | 6 => exact dk_kL L xs dd_kl6_false
    | 7 => exact dk_kL L xs dd_kl7_false
    | 8 => exact dk_kL L xs dd_kl8_false
    | 9 => exact dk_kL L xs dd_kl9_false
    | 10 => exact dk_kL L xs dd_kl10_false
    | 11 => exact dk_kL L xs dd_kl11_false
    | 12 => exact dk_kL L xs dd_kl12_false
    | 13 => exact dk_kL L xs dd_kl13_false
    | 14 => exact dk_kL L xs dd_kl14_false
    | 15 => exact dk_kL L xs dd_kl15_false
    | 16 => exact dk_kL L xs dd_kl16_false
    | 17 => exact dk_kL L xs dd_kl17_false
    | 18 => exact dk_kL L xs dd_kl18_false
    | 19 => exact dk_kL L xs dd_kl19_false
    | 20 => exact dk_kL L xs dd_kl20_false
    | n + 21 => exact fun q hq => absurd hq List.not_mem_nil
theorem dk_I_dd_ms0 : ∀ q ∈ dd_ms0, am_kI q = true := by
  unfold dd_ms0
  exact List.forall_mem_cons.mpr ⟨dd_ki0, List.forall_mem_cons.mpr ⟨dd_ki1, List.forall_mem_cons.mpr ⟨dd_ki2, List.forall_mem_cons.mpr ⟨dd_ki3, List.forall_mem_cons.mpr ⟨dd_ki4, List.forall_mem_cons.mpr ⟨dd_ki5, List.forall_mem_cons.mpr ⟨dd_ki6, List.forall_mem_cons.mpr ⟨dd_ki7, List.forall_mem_cons.mpr ⟨dd_ki8, List.forall_mem_cons.mpr ⟨dd_ki9, List.forall_mem_cons.mpr ⟨dd_ki10, List.forall_mem_cons.mpr ⟨dd_ki11, List.forall_mem_cons.mpr ⟨dd_ki12, List.forall_mem_cons.mpr ⟨dd_ki13, List.forall_mem_cons.mpr ⟨dd_ki14, List.forall_mem_cons.mpr ⟨dd_ki15, List.forall_mem_cons.mpr ⟨dd_ki16, List.forall_mem_cons.mpr ⟨dd_ki17, List.forall_mem_cons.mpr ⟨dd_ki18, List.forall_mem_cons.mpr ⟨dd_ki19, List.forall_mem_cons.mpr ⟨dd_ki20, List.forall_mem_cons.mpr ⟨dd_ki21, List.forall_mem_cons.mpr ⟨dd_ki22, List.forall_mem_cons.mpr ⟨dd_ki23, List.forall_mem_cons.mpr ⟨dd_ki24, List.forall_mem_cons.mpr ⟨dd_ki25, List.forall_mem_cons.mpr ⟨dd_ki26, List.forall_mem_cons.mpr ⟨dd_ki27, List.forall_mem_cons.mpr ⟨dd_ki28, List.forall_mem_cons.mpr ⟨dd_ki29, List.forall_mem_cons.mpr ⟨dd_ki30, List.forall_mem_cons.mpr ⟨dd_ki31, List.forall_mem_cons.mpr ⟨dd_ki32, List.forall_mem_cons.mpr ⟨dd_ki33, List.forall_mem_cons.mpr ⟨dd_ki34, List.forall_mem_cons.mpr ⟨dd_ki35, List.forall_mem_cons.mpr ⟨dd_ki36, List.forall_mem_cons.mpr ⟨dd_ki37, List.forall_mem_cons.mpr ⟨dd_ki38, List.forall_mem_cons.mpr ⟨dd_ki39, List.forall_mem_cons.mpr ⟨dd_ki40, List.forall_mem_cons.mpr ⟨dd_ki41, List.forall_mem_cons.mpr ⟨dd_ki42, List.forall_mem_cons.mpr ⟨dd_ki43, List.forall_mem_cons.mpr ⟨dd_ki44, List.forall_mem_cons.mpr ⟨dd_ki45, List.forall_mem_cons.mpr ⟨dd_ki46, List.forall_mem_cons.mpr ⟨dd_ki47, List.forall_mem_cons.mpr ⟨dd_ki48, List.forall_mem_cons.mpr ⟨dd_ki49, fun _ h => absurd h List.not_mem_nil⟩⟩⟩⟩⟩⟩⟩⟩⟩⟩⟩⟩⟩⟩⟩⟩⟩⟩⟩⟩⟩⟩⟩⟩⟩⟩⟩⟩⟩⟩⟩⟩⟩⟩⟩⟩⟩⟩⟩⟩⟩⟩⟩⟩⟩⟩⟩⟩⟩⟩
theorem dk_I_dd_ms1 : ∀ q ∈ dd_ms1, am_kI q = true := by
  unfold dd_ms1
  exact List.forall_mem_cons.mpr ⟨dd_ki50, List.forall_mem_cons.mpr ⟨dd_ki51, List.forall_mem_cons.mpr ⟨dd_ki52, List.forall_mem_cons.mpr ⟨dd_ki53, List.forall_mem_cons.mpr ⟨dd_ki54, List.forall_mem_cons.mpr ⟨dd_ki55, List.forall_mem_cons.mpr ⟨dd_ki56, List.forall_mem_cons.mpr ⟨dd_ki57, List.forall_mem_cons.mpr ⟨dd_ki58, List.forall_mem_cons.mpr ⟨dd_ki59, List.forall_mem_cons.mpr ⟨dd_ki60, List.forall_mem_cons.mpr ⟨dd_ki61, List.forall_mem_cons.mpr ⟨dd_ki62, List.forall_mem_cons.mpr ⟨dd_ki63, List.forall_mem_cons.mpr ⟨dd_ki64, List.forall_mem_cons.mpr ⟨dd_ki65, List.forall_mem_cons.mpr ⟨dd_ki66, List.forall_mem_cons.mpr ⟨dd_ki67, List.forall_mem_cons.mpr ⟨dd_ki68, List.forall_mem_cons.mpr ⟨dd_ki69, List.forall_mem_cons.mpr ⟨dd_ki70, List.forall_mem_cons.mpr ⟨dd_ki71, List.forall_mem_cons.mpr ⟨dd_ki72, List.forall_mem_cons.mpr ⟨dd_ki73, List.forall_mem_cons.mpr ⟨dd_ki74, List.forall_mem_cons.mpr ⟨dd_ki75, List.forall_mem_cons.mpr ⟨dd_ki76, List.forall_mem_cons.mpr ⟨dd_ki77, List.forall_mem_cons.mpr ⟨dd_ki78, List.forall_mem_cons.mpr ⟨dd_ki79, List.forall_mem_cons.mpr ⟨dd_ki80, List.forall_mem_cons.mpr ⟨dd_ki81, List.forall_mem_cons.mpr ⟨dd_ki82, List.forall_mem_cons.mpr ⟨dd_ki83, List.forall_mem_cons.mpr ⟨dd_ki84, List.forall_mem_cons.mpr ⟨dd_ki85, List.forall_mem_cons.mpr ⟨dd_ki86, List.forall_mem_cons.mpr ⟨dd_ki87, List.forall_mem_cons.mpr ⟨dd_ki88, List.forall_mem_cons.mpr ⟨dd_ki89, List.forall_mem_cons.mpr ⟨dd_ki90, List.forall_mem_cons.mpr ⟨dd_ki91, List.forall_mem_cons.mpr ⟨dd_ki92, List.forall_mem_cons.mpr ⟨dd_ki93, List.forall_mem_cons.mpr ⟨dd_ki94, List.forall_mem_cons.mpr ⟨dd_ki95, List.forall_mem_cons.mpr ⟨dd_ki96, List.forall_mem_cons.mpr ⟨dd_ki97, List.forall_mem_cons.mpr ⟨dd_ki98, List.forall_mem_cons.mpr ⟨dd_ki99, fun _ h => absurd h List.not_mem_nil⟩⟩⟩⟩⟩⟩⟩⟩⟩⟩⟩⟩⟩⟩⟩⟩⟩⟩⟩⟩⟩⟩⟩⟩⟩⟩⟩⟩⟩⟩⟩⟩⟩⟩⟩⟩⟩⟩⟩⟩⟩⟩⟩⟩⟩⟩⟩⟩⟩⟩
theorem dk_I_dd_ms2 : ∀ q ∈ dd_ms2, am_kI q = true := by
  unfold dd_ms2
  exact List.forall_mem_cons.mpr ⟨dd_ki100, List.forall_mem_cons.mpr ⟨dd_ki101, List.forall_mem_cons.mpr ⟨dd_ki102, List.forall_mem_cons.mpr ⟨dd_ki103, List.forall_mem_cons.mpr ⟨dd_ki104, List.forall_mem_cons.mpr ⟨dd_ki105, List.forall_mem_cons.mpr ⟨dd_ki106, List.forall_mem_cons.mpr ⟨dd_ki107, List.forall_mem_cons.mpr ⟨dd_ki108, List.forall_mem_cons.mpr ⟨dd_ki109, List.forall_mem_cons.mpr ⟨dd_ki110, List.forall_mem_cons.mpr ⟨dd_ki111, List.forall_mem_cons.mpr ⟨dd_ki112, List.forall_mem_cons.mpr ⟨dd_ki113, List.forall_mem_cons.mpr ⟨dd_ki114, List.forall_mem_cons.mpr ⟨dd_ki115, List.forall_mem_cons.mpr ⟨dd_ki116, List.forall_mem_cons.mpr ⟨dd_ki117, List.forall_mem_cons.mpr ⟨dd_ki118, List.forall_mem_cons.mpr ⟨dd_ki119, List.forall_mem_cons.mpr ⟨dd_ki120, List.forall_mem_cons.mpr ⟨dd_ki121, List.forall_mem_cons.mpr ⟨dd_ki122, List.forall_mem_cons.mpr ⟨dd_ki123, List.forall_mem_cons.mpr ⟨dd_ki124, List.forall_mem_cons.mpr ⟨dd_ki125, List.forall_mem_cons.mpr ⟨dd_ki126, List.forall_mem_cons.mpr ⟨dd_ki127, List.forall_mem_cons.mpr ⟨dd_ki128, List.forall_mem_cons.mpr ⟨dd_ki129, List.forall_mem_cons.mpr ⟨dd_ki130, List.forall_mem_cons.mpr ⟨dd_ki131, List.forall_mem_cons.mpr ⟨dd_ki132, List.forall_mem_cons.mpr ⟨dd_ki133, List.forall_mem_cons.mpr ⟨dd_ki134, List.forall_mem_cons.mpr ⟨dd_ki135, List.forall_mem_cons.mpr ⟨dd_ki136, List.forall_mem_cons.mpr ⟨dd_ki137, List.forall_mem_cons.mpr ⟨dd_ki138, List.forall_mem_cons.mpr ⟨dd_ki139, List.forall_mem_cons.mpr ⟨dd_ki140, List.forall_mem_cons.mpr ⟨dd_ki141, List.forall_mem_cons.mpr ⟨dd_ki142, List.forall_mem_cons.mpr ⟨dd_ki143, List.forall_mem_cons.mpr ⟨dd_ki144, List.forall_mem_cons.mpr ⟨dd_ki145, List.forall_mem_cons.mpr ⟨dd_ki146, List.forall_mem_cons.mpr ⟨dd_ki147, List.forall_mem_cons.mpr ⟨dd_ki148, List.forall_mem_cons.mpr ⟨dd_ki149, fun _ h => absurd h List.not_mem_nil⟩⟩⟩⟩⟩⟩⟩⟩⟩⟩⟩⟩⟩⟩⟩⟩⟩⟩⟩⟩⟩⟩⟩⟩⟩⟩⟩⟩⟩⟩⟩⟩⟩⟩⟩⟩⟩⟩⟩⟩⟩⟩⟩⟩⟩⟩⟩⟩⟩⟩
theorem dk_I_dd_ms3 : ∀ q ∈ dd_ms3, am_kI q = true := by
  unfold dd_ms3
  exact List.forall_mem_cons.mpr ⟨dd_ki150, List.forall_mem_cons.mpr ⟨dd_ki151, List.forall_mem_cons.mpr ⟨dd_ki152, List.forall_mem_cons.mpr ⟨dd_ki153, List.forall_mem_cons.mpr ⟨dd_ki154, List.forall_mem_cons.mpr ⟨dd_ki155, List.forall_mem_cons.mpr ⟨dd_ki156, List.forall_mem_cons.mpr ⟨dd_ki157, List.forall_mem_cons.mpr ⟨dd_ki158, List.forall_mem_cons.mpr ⟨dd_ki159, List.forall_mem_cons.mpr ⟨dd_ki160, List.forall_mem_cons.mpr ⟨dd_ki161, List.forall_mem_cons.mpr ⟨dd_ki162, List.forall_mem_cons.mpr ⟨dd_ki163, List.forall_mem_cons.mpr ⟨dd_ki164, List.forall_mem_cons.mpr ⟨dd_ki165, List.forall_mem_cons.mpr ⟨dd_ki166, List.forall_mem_cons.mpr ⟨dd_ki167, List.forall_mem_cons.mpr ⟨dd_ki168, List.forall_mem_cons.mpr ⟨dd_ki169, List.forall_mem_cons.mpr ⟨dd_ki170, List.forall_mem_cons.mpr ⟨dd_ki171, List.forall_mem_cons.mpr ⟨dd_ki172, List.forall_mem_cons.mpr ⟨dd_ki173, List.forall_mem_cons.mpr ⟨dd_ki174, List.forall_mem_cons.mpr ⟨dd_ki175, List.forall_mem_cons.mpr ⟨dd_ki176, List.forall_mem_cons.mpr ⟨dd_ki177, List.forall_mem_cons.mpr ⟨dd_ki178, List.forall_mem_cons.mpr ⟨dd_ki179, List.forall_mem_cons.mpr ⟨dd_ki180, List.forall_mem_cons.mpr ⟨dd_ki181, List.forall_mem_cons.mpr ⟨dd_ki182, List.forall_mem_cons.mpr ⟨dd_ki183, List.forall_mem_cons.mpr ⟨dd_ki184, List.forall_mem_cons.mpr ⟨dd_ki185, List.forall_mem_cons.mpr ⟨dd_ki186, List.forall_mem_cons.mpr ⟨dd_ki187, List.forall_mem_cons.mpr ⟨dd_ki188, List.forall_mem_cons.mpr ⟨dd_ki189, List.forall_mem_cons.mpr ⟨dd_ki190, List.forall_mem_cons.mpr ⟨dd_ki191, List.forall_mem_cons.mpr ⟨dd_ki192, List.forall_mem_cons.mpr ⟨dd_ki193, List.forall_mem_cons.mpr ⟨dd_ki194, List.forall_mem_cons.mpr ⟨dd_ki195, List.forall_mem_cons.mpr ⟨dd_ki196, List.forall_mem_cons.mpr ⟨dd_ki197, List.forall_mem_cons.mpr ⟨dd_ki198, List.forall_mem_cons.mpr ⟨dd_ki199, fun _ h => absurd h List.not_mem_nil⟩⟩⟩⟩⟩⟩⟩⟩⟩⟩⟩⟩⟩⟩⟩⟩⟩⟩⟩⟩⟩⟩⟩⟩⟩⟩⟩⟩⟩⟩⟩⟩⟩⟩⟩⟩⟩⟩⟩⟩⟩⟩⟩⟩⟩⟩⟩⟩⟩⟩
theorem dk_I_dd_ms4 : ∀ q ∈ dd_ms4, am_kI q = true := by
  unfold dd_ms4
  exact List.forall_mem_cons.mpr ⟨dd_ki200, List.forall_mem_cons.mpr ⟨dd_ki201, List.forall_mem_cons.mpr ⟨dd_ki202, List.forall_mem_cons.mpr ⟨dd_ki203, List.forall_mem_cons.mpr ⟨dd_ki204, List.forall_mem_cons.mpr ⟨dd_ki205, List.forall_mem_cons.mpr ⟨dd_ki206, List.forall_mem_cons.mpr ⟨dd_ki207, List.forall_mem_cons.mpr ⟨dd_ki208, List.forall_mem_cons.mpr ⟨dd_ki209, List.forall_mem_cons.mpr ⟨dd_ki210, List.forall_mem_cons.mpr ⟨dd_ki211, List.forall_mem_cons.mpr ⟨dd_ki212, List.forall_mem_cons.mpr ⟨dd_ki213, List.forall_mem_cons.mpr ⟨dd_ki214, List.forall_mem_cons.mpr ⟨dd_ki215, List.forall_mem_cons.mpr ⟨dd_ki216, List.forall_mem_cons.mpr ⟨dd_ki217, List.forall_mem_cons.mpr ⟨dd_ki218, List.forall_mem_cons.mpr ⟨dd_ki219, List.forall_mem_cons.mpr ⟨dd_ki220, List.forall_mem_cons.mpr ⟨dd_ki221, List.forall_mem_cons.mpr ⟨dd_ki222, List.forall_mem_cons.mpr ⟨dd_ki223, List.forall_mem_cons.mpr ⟨dd_ki224, List.forall_mem_cons.mpr ⟨dd_ki225, List.forall_mem_cons.mpr ⟨dd_ki226, List.forall_mem_cons.mpr ⟨dd_ki227, List.forall_mem_cons.mpr ⟨dd_ki228, List.forall_mem_cons.mpr ⟨dd_ki229, List.forall_mem_cons.mpr ⟨dd_ki230, List.forall_mem_cons.mpr ⟨dd_ki231, List.forall_mem_cons.mpr ⟨dd_ki232, List.forall_mem_cons.mpr ⟨dd_ki233, List.forall_mem_cons.mpr ⟨dd_ki234, List.forall_mem_cons.mpr ⟨dd_ki235, List.forall_mem_cons.mpr ⟨dd_ki236, List.forall_mem_cons.mpr ⟨dd_ki237, List.forall_mem_cons.mpr ⟨dd_ki238, List.forall_mem_cons.mpr ⟨dd_ki239, List.forall_mem_cons.mpr ⟨dd_ki240, List.forall_mem_cons.mpr ⟨dd_ki241, List.forall_mem_cons.mpr ⟨dd_ki242, List.forall_mem_cons.mpr ⟨dd_ki243, List.forall_mem_cons.mpr ⟨dd_ki244, List.forall_mem_cons.mpr ⟨dd_ki245, List.forall_mem_cons.mpr ⟨dd_ki246, List.forall_mem_cons.mpr ⟨dd_ki247, List.forall_mem_cons.mpr ⟨dd_ki248, List.forall_mem_cons.mpr ⟨dd_ki249, fun _ h => absurd h List.not_mem_nil⟩⟩⟩⟩⟩⟩⟩⟩⟩⟩⟩⟩⟩⟩⟩⟩⟩⟩⟩⟩⟩⟩⟩⟩⟩⟩⟩⟩⟩⟩⟩⟩⟩⟩⟩⟩⟩⟩⟩⟩⟩⟩⟩⟩⟩⟩⟩⟩⟩⟩
theorem dk_I_dd_ms5 : ∀ q ∈ dd_ms5, am_kI q = true := by
  unfold dd_ms5
  exact List.forall_mem_cons.mpr ⟨dd_ki250, List.forall_mem_cons.mpr ⟨dd_ki251, List.forall_mem_cons.mpr ⟨dd_ki252, List.forall_mem_cons.mpr ⟨dd_ki253, List.forall_mem_cons.mpr ⟨dd_ki254, List.forall_mem_cons.mpr ⟨dd_ki255, List.forall_mem_cons.mpr ⟨dd_ki256, List.forall_mem_cons.mpr ⟨dd_ki257, List.forall_mem_cons.mpr ⟨dd_ki258, List.forall_mem_cons.mpr ⟨dd_ki259, List.forall_mem_cons.mpr ⟨dd_ki260, List.forall_mem_cons.mpr ⟨dd_ki261, List.forall_mem_cons.mpr ⟨dd_ki262, List.forall_mem_cons.mpr ⟨dd_ki263, List.forall_mem_cons.mpr ⟨dd_ki264, List.forall_mem_cons.mpr ⟨dd_ki265, List.forall_mem_cons.mpr ⟨dd_ki266, List.forall_mem_cons.mpr ⟨dd_ki267, List.forall_mem_cons.mpr ⟨dd_ki268, List.forall_mem_cons.mpr ⟨dd_ki269, List.forall_mem_cons.mpr ⟨dd_ki270, List.forall_mem_cons.mpr ⟨dd_ki271, List.forall_mem_cons.mpr ⟨dd_ki272, List.forall_mem_cons.mpr ⟨dd_ki273, List.forall_mem_cons.mpr ⟨dd_ki274, List.forall_mem_cons.mpr ⟨dd_ki275, List.forall_mem_cons.mpr ⟨dd_ki276, List.forall_mem_cons.mpr ⟨dd_ki277, List.forall_mem_cons.mpr ⟨dd_ki278, List.forall_mem_cons.mpr ⟨dd_ki279, List.forall_mem_cons.mpr ⟨dd_ki280, List.forall_mem_cons.mpr ⟨dd_ki281, List.forall_mem_cons.mpr ⟨dd_ki282, List.forall_mem_cons.mpr ⟨dd_ki283, List.forall_mem_cons.mpr ⟨dd_ki284, List.forall_mem_cons.mpr ⟨dd_ki285, List.forall_mem_cons.mpr ⟨dd_ki286, List.forall_mem_cons.mpr ⟨dd_ki287, List.forall_mem_cons.mpr ⟨dd_ki288, List.forall_mem_cons.mpr ⟨dd_ki289, List.forall_mem_cons.mpr ⟨dd_ki290, List.forall_mem_cons.mpr ⟨dd_ki291, List.forall_mem_cons.mpr ⟨dd_ki292, List.forall_mem_cons.mpr ⟨dd_ki293, List.forall_mem_cons.mpr ⟨dd_ki294, List.forall_mem_cons.mpr ⟨dd_ki295, List.forall_mem_cons.mpr ⟨dd_ki296, List.forall_mem_cons.mpr ⟨dd_ki297, List.forall_mem_cons.mpr ⟨dd_ki298, List.forall_mem_cons.mpr ⟨dd_ki299, fun _ h => absurd h List.not_mem_nil⟩⟩⟩⟩⟩⟩⟩⟩⟩⟩⟩⟩⟩⟩⟩⟩⟩⟩⟩⟩⟩⟩⟩⟩⟩⟩⟩⟩⟩⟩⟩⟩⟩⟩⟩⟩⟩⟩⟩⟩⟩⟩⟩⟩⟩⟩⟩⟩⟩⟩
theorem dk_I_dd_ms6 : ∀ q ∈ dd_ms6, am_kI q = true := by
  unfold dd_ms6
  exact List.forall_mem_cons.mpr ⟨dd_ki300, List.forall_mem_cons.mpr ⟨dd_ki301, List.forall_mem_cons.mpr ⟨dd_ki302, List.forall_mem_cons.mpr ⟨dd_ki303, List.forall_mem_cons.mpr ⟨dd_ki304, List.forall_mem_cons.mpr ⟨dd_ki305, List.forall_mem_cons.mpr ⟨dd_ki306, List.forall_mem_cons.mpr ⟨dd_ki307, List.forall_mem_cons.mpr ⟨dd_ki308, List.forall_mem_cons.mpr ⟨dd_ki309, List.forall_mem_cons.mpr ⟨dd_ki310, List.forall_mem_cons.mpr ⟨dd_ki311, List.forall_mem_cons.mpr ⟨dd_ki312, List.forall_mem_cons.mpr ⟨dd_ki313, List.forall_mem_cons.mpr ⟨dd_ki314, List.forall_mem_cons.mpr ⟨dd_ki315, List.forall_mem_cons.mpr ⟨dd_ki316, List.forall_mem_cons.mpr ⟨dd_ki317, List.forall_mem_cons.mpr ⟨dd_ki318, List.forall_mem_cons.mpr ⟨dd_ki319, List.forall_mem_cons.mpr ⟨dd_ki320, List.forall_mem_cons.mpr ⟨dd_ki321, List.forall_mem_cons.mpr ⟨dd_ki322, List.forall_mem_cons.mpr ⟨dd_ki323, List.forall_mem_cons.mpr ⟨dd_ki324, List.forall_mem_cons.mpr ⟨dd_ki325, List.forall_mem_cons.mpr ⟨dd_ki326, List.forall_mem_cons.mpr ⟨dd_ki327, List.forall_mem_cons.mpr ⟨dd_ki328, List.forall_mem_cons.mpr ⟨dd_ki329, List.forall_mem_cons.mpr ⟨dd_ki330, List.forall_mem_cons.mpr ⟨dd_ki331, List.forall_mem_cons.mpr ⟨dd_ki332, List.forall_mem_cons.mpr ⟨dd_ki333, List.forall_mem_cons.mpr ⟨dd_ki334, List.forall_mem_cons.mpr ⟨dd_ki335, List.forall_mem_cons.mpr ⟨dd_ki336, List.forall_mem_cons.mpr ⟨dd_ki337, List.forall_mem_cons.mpr ⟨dd_ki338, List.forall_mem_cons.mpr ⟨dd_ki339, List.forall_mem_cons.mpr ⟨dd_ki340, List.forall_mem_cons.mpr ⟨dd_ki341, List.forall_mem_cons.mpr ⟨dd_ki342, List.forall_mem_cons.mpr ⟨dd_ki343, List.forall_mem_cons.mpr ⟨dd_ki344, List.forall_mem_cons.mpr ⟨dd_ki345, List.forall_mem_cons.mpr ⟨dd_ki346, List.forall_mem_cons.mpr ⟨dd_ki347, List.forall_mem_cons.mpr ⟨dd_ki348, List.forall_mem_cons.mpr ⟨dd_ki349, fun _ h => absurd h List.not_mem_nil⟩⟩⟩⟩⟩⟩⟩⟩⟩⟩⟩⟩⟩⟩⟩⟩⟩⟩⟩⟩⟩⟩⟩⟩⟩⟩⟩⟩⟩⟩⟩⟩⟩⟩⟩⟩⟩⟩⟩⟩⟩⟩⟩⟩⟩⟩⟩⟩⟩⟩
theorem dk_I_dd_ms7 : ∀ q ∈ dd_ms7, am_kI q = true := by
  unfold dd_ms7
  exact List.forall_mem_cons.mpr ⟨dd_ki350, List.forall_mem_cons.mpr ⟨dd_ki351, fun _ h => absurd h List.not_mem_nil⟩⟩
def dk_fr : List am_dM := dd_ms0 ++ (dd_ms1 ++ (dd_ms2 ++ (dd_ms3 ++ (dd_ms4 ++ (dd_ms5 ++ (dd_ms6 ++ (dd_ms7)))))))
theorem dk_mt : dd_mt = dk_fr ++ [dd_m352] := by simp only [dd_mt, dk_fr, List.append_assoc]
theorem dk_I : ∀ q ∈ dd_mt, am_kI q = true := by
  intro q hq
  rw [dk_mt] at hq
  rcases List.mem_append.mp hq with hq | hq
  · unfold dk_fr at hq
    rcases List.mem_append.mp hq with hq | hq
    · exact dk_I_dd_ms0 q hq
    rcases List.mem_append.mp hq with hq | hq
    · exact dk_I_dd_ms1 q hq
    rcases List.mem_append.mp hq with hq | hq
    · exact dk_I_dd_ms2 q hq
    rcases List.mem_append.mp hq with hq | hq
    · exact dk_I_dd_ms3 q hq
    rcases List.mem_append.mp hq with hq | hq
    · exact dk_I_dd_ms4 q hq
    rcases List.mem_append.mp hq with hq | hq
    · exact dk_I_dd_ms5 q hq
    rcases List.mem_append.mp hq with hq | hq
    · exact dk_I_dd_ms6 q hq
    exact dk_I_dd_ms7 q hq
  · rw [List.mem_singleton.mp hq]
    exact dd_ki352
theorem dk_M (nl : Bool) (L : Nat) (xs : Nat → Int32) : ∀ q ∈ dk_fr, am_kM (dd_T nl L xs) q = true ∧ q.2.2.1 = am_cw (am_dtc (dd_T nl L xs)) q.2.2.2.2.2.2.2.1 := by
  intro q hq
  have key : am_kM (dd_0 true) q = true ∧ q.2.2.1 = am_cw dd_tc q.2.2.2.2.2.2.2.1 := by
    unfold dk_fr at hq
    rcases List.mem_append.mp hq with hq | hq
    · exact ⟨List.all_eq_true.mp dd_km0 q hq, dd_kw0 q hq⟩
    rcases List.mem_append.mp hq with hq | hq
    · exact ⟨List.all_eq_true.mp dd_km1 q hq, dd_kw1 q hq⟩
    rcases List.mem_append.mp hq with hq | hq
    · exact ⟨List.all_eq_true.mp dd_km2 q hq, dd_kw2 q hq⟩
    rcases List.mem_append.mp hq with hq | hq
    · exact ⟨List.all_eq_true.mp dd_km3 q hq, dd_kw3 q hq⟩
    rcases List.mem_append.mp hq with hq | hq
    · exact ⟨List.all_eq_true.mp dd_km4 q hq, dd_kw4 q hq⟩
    rcases List.mem_append.mp hq with hq | hq
    · exact ⟨List.all_eq_true.mp dd_km5 q hq, dd_kw5 q hq⟩
    rcases List.mem_append.mp hq with hq | hq
    · exact ⟨List.all_eq_true.mp dd_km6 q hq, dd_kw6 q hq⟩
    exact ⟨List.all_eq_true.mp dd_km7 q hq, dd_kw7 q hq⟩
  refine ⟨?_, key.2⟩
  have h := key.1
  unfold dd_0 dd_T at h
  unfold dd_T
  rw [am_kM_z _ _ _ _ _ (dd_lk true) _ _ _ (dd_Z true 0 fun _ => 0)]
  exact h
theorem dk_gM (nl : Bool) (L : Nat) (xs : Nat → Int32) (y : Nat) (h : y + 1 < (am_dmt (dd_T nl L xs)).length) : am_gM (dd_T nl L xs) y ∈ dk_fr := by
  have e : am_dmt (dd_T nl L xs) = dk_fr ++ [dd_m352] := dk_mt
  unfold am_gM
  rw [e] at h ⊢
  rw [List.length_append, List.length_singleton] at h
  rw [List.getD_eq_getElem?_getD, List.getElem?_append_left (by omega), List.getElem?_eq_getElem (by omega)]
  exact List.getElem_mem _
theorem dk_b0 : am_wd dd_tc 11089 = some (.arrayClass .int) := by decide +kernel
theorem dk_b1 : am_wd dd_tc 11088 = some (.arrayClass .long) := by decide +kernel
theorem dk_b2 : am_wd dd_tc 11048 = some (.arrayClass .byte) := by decide +kernel
theorem dk_b3 : am_wd dd_tc 18046 = some (.arrayClass .boolean) := by decide +kernel
theorem dk_b4 : am_wd dd_tc 11015 = some (.initialized "java/lang/String") := by decide +kernel
theorem dk_good : am_good dd_ts := fun w hw => dd_gw (dd_all w hw).1
theorem dk_OK (nl : Bool) (L : Nat) (xs : Nat → Int32) {E : am_E} (hE : am_cl E = am_dvc (dd_T nl L xs)) (hft : am_ft E = am_tf (am_tbl (dd_T nl L xs))) : am_OK (am_tbl (dd_T nl L xs)) (am_mch (dd_T nl L xs)) E (am_dty E (dd_T nl L xs)) (am_dts (dd_T nl L xs)) ∧ am_ok8 (am_tbl (dd_T nl L xs)) (am_mch (dd_T nl L xs)) E (am_dts (dd_T nl L xs)) := by
  refine ⟨am_dOK (dk_kC nl L xs) dk_I (dk_L nl L xs) (dk_kA nl L xs) ?_ ?_ ?_ ?_ ?_ hE hft, am_dOK8 (fun y hy => (dk_M nl L xs _ (dk_gM nl L xs y hy)).1) (fun y hy => (dk_M nl L xs _ (dk_gM nl L xs y hy)).2) (dk_kC nl L xs) (dk_L nl L xs) (dk_kA nl L xs) hE hft⟩
  · exact am_wd_mem (C := dd_tc) dk_b0
  · exact am_wd_mem (C := dd_tc) dk_b1
  · exact am_wd_mem (C := dd_tc) dk_b2
  · exact am_wd_mem (C := dd_tc) dk_b3
  · exact am_wd_mem (C := dd_tc) dk_b4
