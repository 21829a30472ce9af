/-! digest: the answer, and the model's side. -/
def mx (h v : Int64) : Int64 := 31 * h + v
def hT (s : Sg) : Nat → Int64
  | 0 => 2557
  | n + 1 => mx (hT s n) (told s n).toInt64
noncomputable def hO (D : Dr) (a : Nat) (h : Int64) : Nat → Int64
  | 0 => h
  | w + 1 => mx (hO D a h w) (nI (ofN D a w)).toInt64
noncomputable def hS (D : Dr) (h : Int64) : Nat → Int64
  | 0 => h
  | a + 1 => mx (hO D a (hS D h a) 6) (nI (whn D a)).toInt64
def hP (D : Dr) (h : Int64) : Nat → Int64
  | 0 => h
  | k + 1 => mx (hP D h k) (nI (D (23 + k))).toInt64
noncomputable def hA (D : Dr) (b : Nat) (h : Int64) : Nat → Int64
  | 0 => h
  | a + 1 => mx (hA D b h a) (lN (cm D a 5 b))
noncomputable def hC (D : Dr) (h : Int64) : Nat → Int64
  | 0 => h
  | b + 1 => hA D b (hC D h b) (D 0)
noncomputable def hX1 (s : Sg) : Int64 := hS (gD s) (hT s 8) (gD s 0)
noncomputable def hX2 (s : Sg) : Int64 := hP (gD s) (hX1 s) (4 * gD s 1)
noncomputable def hX3 (s : Sg) : Int64 := hC (gD s) (hX2 s) (gD s 0)
noncomputable def aDigest (s : Sg) : Int64 × Sg := (mx (mx (mx (hX3 s) (nxv (gD s) 0).toInt64) (nxv (gD s) 1).toInt64) (snv (gD s) 0).toInt64, s)
section
variable {E : ET} {l : Launch} {I : MI} {L : ML} {p : Nat → Nat} {D : Dr} {s : Sg}
theorem m_mix {h : Int64} (hh : L 96 14 = h) (v : Int64) : Ct E l yX6_mix wsX6_mix rmX6_mix [.ref 96, .long v] (HE E I L p) none (HE E I (upL L 96 14 (mx h v)) p) := by
  refine Ct.mk (by decide) rfl (Nat.le_of_ble_eq_true rfl) ?_
  rintro X rfl rfl hX - hRt
  refine RX6_mix_0 hX _ ?_
  rw [hh]
  exact hRt
theorem m_digest (hV : VM I s) (hW : GW s) : MPL E l yX6_digest wsX6_digest rmX6_digest [.ref 96] I L p (aDigest s) := by
  have hS' := hW.1.S
  have hP' := hW.1.P
  have hR := hV.1
  have r0 := hR 0 (by decide)
  have r1 := hR 1 (by decide)
  let DG : Nat → List (Nat × Value) → ML → Prop := fun pc ls M => ∃ I' L', VM I' s ∧ (∀ r, r < 96 → I' r = I r) ∧ (∀ r, r < 96 → L' r = L r) ∧ ∀ X, xE X = E → xl X = l → Cx X cX6_digest 4 RX6 wsX6_digest rmX6_digest → Rt X (some .long) rmX6_digest (some (.long (aDigest s).1)) (HM X I' L' p) → G X 0 0 pc ls [] (HM X I M p)
  let Fr : ML → Prop := fun M => ∀ r, r < 96 → M r = L r
  have frU : ∀ M v, Fr M → Fr (upL M 96 14 v) := fun M v h r hr => by rw [upL_R (by omega)]; exact h r hr
  have frY : ∀ M Y, Fr M → Fr (wy 101 10 M Y) := fun M Y h r hr => by rw [wy_r (by omega)]; exact h r hr
  have frZ : ∀ M F k, Fr M → Fr (wz 101 M F k) := fun M F k h r hr => by rw [wz_r (by omega)]; exact h r hr
  have yH : ∀ (M : ML) (Y : Nat → Nat), wy 101 10 M Y 96 14 = M 96 14 := fun M Y => by rw [wy_r (by decide)]
  have zH : ∀ (M : ML) (F : Nat → Nat → Nat) (k : Nat), wz 101 M F k 96 14 = M 96 14 := fun M F k => by rw [wz_r (by decide)]
  -- the end
  have last : ∀ M, Fr M → M 96 14 = hX3 s → DG 123 [(0, .ref 96), (1, .int (nI (gD s 0))), (2, .int (nI (gD s 0)))] M := by
    intro M hF hh
    have n1 := m_nextOf (E := E) (l := l) (L := M) (p := p) hR hW.1 (w := 0) (by decide)
    have c1 := m_mix (E := E) (l := l) (I := I) (L := wz 101 M (fun a => cm (gD s) a 30) (gD s 0)) (p := p) ((zH _ _ _).trans hh) (nxv (gD s) 0).toInt64
    generalize hM1 : upL (wz 101 M (fun a => cm (gD s) a 30) (gD s 0)) 96 14 (mx (hX3 s) (nxv (gD s) 0).toInt64) = M1 at c1
    have f1 : Fr M1 := by rw [← hM1]; exact frU _ _ (frZ _ _ _ hF)
    have h1 : M1 96 14 = mx (hX3 s) (nxv (gD s) 0).toInt64 := by rw [← hM1]; exact upL_s _ _ _ _
    have n2 := m_nextOf (E := E) (l := l) (L := M1) (p := p) hR hW.1 (w := 1) (by decide)
    have c2 := m_mix (E := E) (l := l) (I := I) (L := wz 101 M1 (fun a => cm (gD s) a 30) (gD s 0)) (p := p) ((zH _ _ _).trans h1) (nxv (gD s) 1).toInt64
    generalize hM2 : upL (wz 101 M1 (fun a => cm (gD s) a 30) (gD s 0)) 96 14 (mx (mx (hX3 s) (nxv (gD s) 0).toInt64) (nxv (gD s) 1).toInt64) = M2 at c2
    have f2 : Fr M2 := by rw [← hM2]; exact frU _ _ (frZ _ _ _ f1)
    have h2 : M2 96 14 = mx (mx (hX3 s) (nxv (gD s) 0).toInt64) (nxv (gD s) 1).toInt64 := by rw [← hM2]; exact upL_s _ _ _ _
    have n3 := m_sensorsOf (E := E) (l := l) (L := M2) (p := p) hR hW.1 (w := 0) (by decide)
    have c3 := m_mix (E := E) (l := l) (I := wi 102 (gD s 0) I (bl (gD s))) (L := M2) (p := p) h2 (snv (gD s) 0).toInt64
    refine ⟨wi 102 (gD s 0) I (bl (gD s)), upL M2 96 14 (mx (mx (mx (hX3 s) (nxv (gD s) 0).toInt64) (nxv (gD s) 1).toInt64) (snv (gD s) 0).toInt64), VM_wi hV, fun r hr => wi_r (by omega), frU _ _ f2, ?_⟩
    rintro X rfl rfl hX hRt
    refine RX6_digest_123 hX _ _ ⟨fun _ => ⟨_, _, n1, _, c1, _, _, n2, _, c2, _, _, n3, _, c3, ?_⟩, fun z => absurd (nI_le (Nat.le_refl _) (by omega)) z⟩
    rw [upL_s]
    exact hRt
  -- what comes by
  have comesL : ∀ b, b ≤ gD s 0 → ∀ M, Fr M → M 96 14 = hC (gD s) (hX2 s) b → DG 123 [(0, .ref 96), (1, .int (nI (gD s 0))), (2, .int (nI b))] M := by
    intro b hb
    refine loop_up (N := gD s 0) (Q := fun b => ∀ M, Fr M → M 96 14 = hC (gD s) (hX2 s) b → DG 123 [(0, .ref 96), (1, .int (nI (gD s 0))), (2, .int (nI b))] M) (fun b hb k M hF hh => ?_) b hb last
    have inner : ∀ M, Fr M → M 96 14 = hA (gD s) b (hC (gD s) (hX2 s) b) 0 → DG 130 [(0, .ref 96), (1, .int (nI (gD s 0))), (2, .int (nI b)), (3, .int (nI 0))] M := by
      refine loop_up (N := gD s 0) (Q := fun a => ∀ M, Fr M → M 96 14 = hA (gD s) b (hC (gD s) (hX2 s) b) a → DG 130 [(0, .ref 96), (1, .int (nI (gD s 0))), (2, .int (nI b)), (3, .int (nI a))] M) (fun a ha k2 M hF hh => ?_) 0 (Nat.zero_le _) (fun M hF hh => ?_)
      · have n1 := m_comesOf (E := E) (l := l) (L := M) (p := p) hR hW.1 (a := a) (m := 5) (b := b) ha (by decide) hb
        obtain ⟨I', L', z1, z2, z3, z4⟩ := k2 (upL (wy 101 10 M (cm (gD s) a 5)) 96 14 (mx (hA (gD s) b (hC (gD s) (hX2 s) b) a) (lN (cm (gD s) a 5 b)))) (frU _ _ (frY _ _ hF)) (upL_s _ _ _ _)
        refine ⟨I', L', z1, z2, z3, ?_⟩
        rintro X rfl rfl hX hRt
        refine RX6_digest_130 hX _ _ _ ⟨fun z => absurd z (nI_ge ha (by omega)), fun _ => ⟨_, _, n1, _, m_mix ((yH _ _).trans hh) _, ?_⟩⟩
        rw [nI_1]
        exact z4 X rfl rfl hX hRt
      · obtain ⟨I', L', z1, z2, z3, z4⟩ := k M hF hh
        refine ⟨I', L', z1, z2, z3, ?_⟩
        rintro X rfl rfl hX hRt
        refine RX6_digest_130 hX _ _ _ ⟨fun _ => ?_, fun z => absurd (nI_le (Nat.le_refl _) (by omega)) z⟩
        rw [nI_1]
        exact z4 X rfl rfl hX hRt
    obtain ⟨I', L', z1, z2, z3, z4⟩ := inner M hF hh
    refine ⟨I', L', z1, z2, z3, ?_⟩
    rintro X rfl rfl hX hRt
    exact RX6_digest_123 hX _ _ ⟨fun z => absurd z (nI_ge hb (by omega)), fun _ => z4 X rfl rfl hX hRt⟩
  -- the pipes
  have i4 : (4 : Int32) * I 97 1 = nI (4 * gD s 1) := by rw [r1, show (4 : Int32) = nI 4 from rfl, pk_mul]
  have pipesL : ∀ M, Fr M → M 96 14 = hP (gD s) (hX1 s) 0 → DG 88 [(0, .ref 96), (1, .int (nI (gD s 0))), (2, .int (nI 0))] M := by
    refine loop_up (N := 4 * gD s 1) (Q := fun k => ∀ M, Fr M → M 96 14 = hP (gD s) (hX1 s) k → DG 88 [(0, .ref 96), (1, .int (nI (gD s 0))), (2, .int (nI k))] M) (fun k hk k2 M hF hh => ?_) 0 (Nat.zero_le _) (fun M hF hh => ?_)
    · have n1 := m_pipeOf (E := E) (l := l) (L := M) (p := p) hR (i := k / 4) (w := k % 4) (by omega) (Nat.mod_lt _ (by decide))
      rw [show 23 + 4 * (k / 4) + k % 4 = 23 + k by omega] at n1
      obtain ⟨I', L', z1, z2, z3, z4⟩ := k2 (upL M 96 14 (mx (hP (gD s) (hX1 s) k) (nI (gD s (23 + k))).toInt64)) (frU _ _ hF) (upL_s _ _ _ _)
      refine ⟨I', L', z1, z2, z3, ?_⟩
      rintro X rfl rfl hX hRt
      have d4 : nI k / 4 = nI (k / 4) := pk_div (d := 4) (by omega) (by decide) (by decide)
      have m4 : jrem (nI k) 4 = nI (k % 4) := pk_rem (d := 4) (by omega) (by decide) (by decide)
      refine RX6_digest_88 hX _ _ ⟨fun z => absurd z (by rw [i4]; exact nI_ge hk (by omega)), fun _ => ⟨by decide, by decide, _, by rw [d4, m4]; exact n1, _, m_mix hh _, ?_⟩⟩
      rw [nI_1]
      exact z4 X rfl rfl hX hRt
    · obtain ⟨I', L', z1, z2, z3, z4⟩ := comesL 0 (Nat.zero_le _) M hF hh
      refine ⟨I', L', z1, z2, z3, ?_⟩
      rintro X rfl rfl hX hRt
      exact RX6_digest_88 hX _ _ ⟨fun _ => z4 X rfl rfl hX hRt, fun z => absurd (by rw [i4]; exact nI_le (Nat.le_refl _) (by omega)) z⟩
  -- the shafts
  have shaftsL : ∀ M, Fr M → M 96 14 = hS (gD s) (hT s 8) 0 → DG 40 [(0, .ref 96), (1, .int (nI (gD s 0))), (2, .int (nI 0))] M := by
    refine loop_up (N := gD s 0) (Q := fun a => ∀ M, Fr M → M 96 14 = hS (gD s) (hT s 8) a → DG 40 [(0, .ref 96), (1, .int (nI (gD s 0))), (2, .int (nI a))] M) (fun a ha k M hF hh => ?_) 0 (Nat.zero_le _) (fun M hF hh => ?_)
    · have inner : ∀ M, Fr M → M 96 14 = hO (gD s) a (hS (gD s) (hT s 8) a) 0 → DG 47 [(0, .ref 96), (1, .int (nI (gD s 0))), (2, .int (nI a)), (3, .int (nI 0))] M := by
        refine loop_up (N := 6) (Q := fun w => ∀ M, Fr M → M 96 14 = hO (gD s) a (hS (gD s) (hT s 8) a) w → DG 47 [(0, .ref 96), (1, .int (nI (gD s 0))), (2, .int (nI a)), (3, .int (nI w))] M) (fun w hw k2 M hF hh => ?_) 0 (Nat.zero_le _) (fun M hF hh => ?_)
        · have n1 := m_ofShaft (E := E) (l := l) (L := M) (p := p) hR hW.1 ha (show w ≤ 5 by omega)
          obtain ⟨I', L', z1, z2, z3, z4⟩ := k2 (upL M 96 14 (mx (hO (gD s) a (hS (gD s) (hT s 8) a) w) (nI (ofN (gD s) a w)).toInt64)) (frU _ _ hF) (upL_s _ _ _ _)
          refine ⟨I', L', z1, z2, z3, ?_⟩
          rintro X rfl rfl hX hRt
          refine RX6_digest_47 hX _ _ _ ⟨fun z => absurd z (nI_ge (b := 6) hw (by decide)), fun _ => ⟨_, n1, _, m_mix hh _, ?_⟩⟩
          rw [nI_1]
          exact z4 X rfl rfl hX hRt
        · have n1 := m_whenOf (E := E) (l := l) (L := M) (p := p) hR hW.1 ha
          obtain ⟨I', L', z1, z2, z3, z4⟩ := k (upL (wy 101 10 M (cm (gD s) a 30)) 96 14 (mx (hO (gD s) a (hS (gD s) (hT s 8) a) 6) (nI (whn (gD s) a)).toInt64)) (frU _ _ (frY _ _ hF)) (upL_s _ _ _ _)
          refine ⟨I', L', z1, z2, z3, ?_⟩
          rintro X rfl rfl hX hRt
          refine RX6_digest_47 hX _ _ _ ⟨fun _ => ⟨_, _, n1, _, m_mix ((yH _ _).trans hh) _, ?_⟩, fun z => absurd (by decide) z⟩
          rw [nI_1]
          exact z4 X rfl rfl hX hRt
      obtain ⟨I', L', z1, z2, z3, z4⟩ := inner M hF hh
      refine ⟨I', L', z1, z2, z3, ?_⟩
      rintro X rfl rfl hX hRt
      exact RX6_digest_40 hX _ _ ⟨fun z => absurd z (nI_ge ha (by omega)), fun _ => z4 X rfl rfl hX hRt⟩
    · obtain ⟨I', L', z1, z2, z3, z4⟩ := pipesL M hF hh
      refine ⟨I', L', z1, z2, z3, ?_⟩
      rintro X rfl rfl hX hRt
      exact RX6_digest_40 hX _ _ ⟨fun _ => z4 X rfl rfl hX hRt, fun z => absurd (nI_le (Nat.le_refl _) (by omega)) z⟩
  -- told
  have toldL : ∀ M, Fr M → M 96 14 = hT s 0 → DG 9 [(0, .ref 96), (1, .int (nI 0))] M := by
    refine loop_up (N := 8) (Q := fun w => ∀ M, Fr M → M 96 14 = hT s w → DG 9 [(0, .ref 96), (1, .int (nI w))] M) (fun w hw k M hF hh => ?_) 0 (Nat.zero_le _) (fun M hF hh => ?_)
    · have n1 := m_toldOf (E := E) (l := l) (L := M) (p := p) hV (w := w) (by omega)
      obtain ⟨I', L', z1, z2, z3, z4⟩ := k (upL M 96 14 (mx (hT s w) (told s w).toInt64)) (frU _ _ hF) (upL_s _ _ _ _)
      refine ⟨I', L', z1, z2, z3, ?_⟩
      rintro X rfl rfl hX hRt
      refine RX6_digest_9 hX _ ⟨fun z => absurd z (nI_ge (b := 8) hw (by decide)), fun _ => ⟨_, n1, _, m_mix hh _, ?_⟩⟩
      rw [nI_1]
      exact z4 X rfl rfl hX hRt
    · obtain ⟨I', L', z1, z2, z3, z4⟩ := shaftsL M hF hh
      refine ⟨I', L', z1, z2, z3, ?_⟩
      rintro X rfl rfl hX hRt
      refine RX6_digest_9 hX _ ⟨fun _ => ?_, fun z => absurd (by decide) z⟩
      rw [r0]
      exact z4 X rfl rfl hX hRt
  obtain ⟨I', L', z1, z2, z3, z4⟩ := toldL (upL L 96 14 2557) (frU _ _ (fun _ _ => rfl)) (upL_s _ _ _ _)
  refine ⟨I', L', Ct.mk (by decide) rfl (Nat.le_of_ble_eq_true rfl) ?_, z1, z2, z3⟩
  intro X hE hl hX _ hRt
  subst hE hl
  exact RX6_digest_0 hX (z4 X rfl rfl hX hRt)
end
