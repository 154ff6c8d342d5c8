/-! ===== what the tables say of method k ===== -/
theorem jx_mok_at {b n k : Nat} {q : jx_YT} {t : Nat × Nat × Nat × jm_Cd} (h : (List.range n).all (fun i => match jx_y[b + i]?, jm_mt[b + i]? with | some q, some t => jx_mok q t | _, _ => false) = true) (hb : b ≤ k) (hk : k < b + n) (hq : jx_y[k]? = some q) (ht : jm_mt[k]? = some t) : jx_mok q t = true := by
  have h1 := List.all_eq_true.mp h (k - b) (List.mem_range.mpr (by omega))
  rw [show b + (k - b) = k by omega, hq, ht] at h1
  exact h1
theorem jx_y_len : jx_y.length = 353 := by decide +kernel
theorem jx_mok_all {k : Nat} {q : jx_YT} {t : Nat × Nat × Nat × jm_Cd} (hq : jx_y[k]? = some q) (ht : jm_mt[k]? = some t) : jx_mok q t = true := by
  have hk : k < 353 := by
    have := (List.getElem?_eq_some_iff.mp hq).1
    rwa [jx_y_len] at this
  by_cases h1 : k < 175
  · skip
    by_cases h2 : k < 85
    · skip
      by_cases h3 : k < 40
      · skip
        by_cases h4 : k < 20
        · skip
          by_cases h5 : k < 10
          · skip
            by_cases h6 : k < 5
            · skip
              exact jx_mok_at jx_mok_0 (by omega) (by omega) hq ht
            · skip
              exact jx_mok_at jx_mok_5 (by omega) (by omega) hq ht
          · skip
            by_cases h6 : k < 15
            · skip
              exact jx_mok_at jx_mok_10 (by omega) (by omega) hq ht
            · skip
              exact jx_mok_at jx_mok_15 (by omega) (by omega) hq ht
        · skip
          by_cases h5 : k < 30
          · skip
            by_cases h6 : k < 25
            · skip
              exact jx_mok_at jx_mok_20 (by omega) (by omega) hq ht
            · skip
              exact jx_mok_at jx_mok_25 (by omega) (by omega) hq ht
          · skip
            by_cases h6 : k < 35
            · skip
              exact jx_mok_at jx_mok_30 (by omega) (by omega) hq ht
            · skip
              exact jx_mok_at jx_mok_35 (by omega) (by omega) hq ht
      · skip
        by_cases h4 : k < 60
        · skip
          by_cases h5 : k < 50
          · skip
            by_cases h6 : k < 45
            · skip
              exact jx_mok_at jx_mok_40 (by omega) (by omega) hq ht
            · skip
              exact jx_mok_at jx_mok_45 (by omega) (by omega) hq ht
          · skip
            by_cases h6 : k < 55
            · skip
              exact jx_mok_at jx_mok_50 (by omega) (by omega) hq ht
            · skip
              exact jx_mok_at jx_mok_55 (by omega) (by omega) hq ht
        · skip
          by_cases h5 : k < 70
          · skip
            by_cases h6 : k < 65
            · skip
              exact jx_mok_at jx_mok_60 (by omega) (by omega) hq ht
            · skip
              exact jx_mok_at jx_mok_65 (by omega) (by omega) hq ht
          · skip
            by_cases h6 : k < 75
            · skip
              exact jx_mok_at jx_mok_70 (by omega) (by omega) hq ht
            · skip
              by_cases h7 : k < 80
              · skip
                exact jx_mok_at jx_mok_75 (by omega) (by omega) hq ht
              · skip
                exact jx_mok_at jx_mok_80 (by omega) (by omega) hq ht
    · skip
      by_cases h3 : k < 130
      · skip
        by_cases h4 : k < 105
        · skip
          by_cases h5 : k < 95
          · skip
            by_cases h6 : k < 90
            · skip
              exact jx_mok_at jx_mok_85 (by omega) (by omega) hq ht
            · skip
              exact jx_mok_at jx_mok_90 (by omega) (by omega) hq ht
          · skip
            by_cases h6 : k < 100
            · skip
              exact jx_mok_at jx_mok_95 (by omega) (by omega) hq ht
            · skip
              exact jx_mok_at jx_mok_100 (by omega) (by omega) hq ht
        · skip
          by_cases h5 : k < 115
          · skip
            by_cases h6 : k < 110
            · skip
              exact jx_mok_at jx_mok_105 (by omega) (by omega) hq ht
            · skip
              exact jx_mok_at jx_mok_110 (by omega) (by omega) hq ht
          · skip
            by_cases h6 : k < 120
            · skip
              exact jx_mok_at jx_mok_115 (by omega) (by omega) hq ht
            · skip
              by_cases h7 : k < 125
              · skip
                exact jx_mok_at jx_mok_120 (by omega) (by omega) hq ht
              · skip
                exact jx_mok_at jx_mok_125 (by omega) (by omega) hq ht
      · skip
        by_cases h4 : k < 150
        · skip
          by_cases h5 : k < 140
          · skip
            by_cases h6 : k < 135
            · skip
              exact jx_mok_at jx_mok_130 (by omega) (by omega) hq ht
            · skip
              exact jx_mok_at jx_mok_135 (by omega) (by omega) hq ht
          · skip
            by_cases h6 : k < 145
            · skip
              exact jx_mok_at jx_mok_140 (by omega) (by omega) hq ht
            · skip
              exact jx_mok_at jx_mok_145 (by omega) (by omega) hq ht
        · skip
          by_cases h5 : k < 160
          · skip
            by_cases h6 : k < 155
            · skip
              exact jx_mok_at jx_mok_150 (by omega) (by omega) hq ht
            · skip
              exact jx_mok_at jx_mok_155 (by omega) (by omega) hq ht
          · skip
            by_cases h6 : k < 165
            · skip
              exact jx_mok_at jx_mok_160 (by omega) (by omega) hq ht
            · skip
              by_cases h7 : k < 170
              · skip
                exact jx_mok_at jx_mok_165 (by omega) (by omega) hq ht
              · skip
                exact jx_mok_at jx_mok_170 (by omega) (by omega) hq ht
  · skip
    by_cases h2 : k < 265
    · skip
      by_cases h3 : k < 220
      · skip
        by_cases h4 : k < 195
        · skip
          by_cases h5 : k < 185
          · skip
            by_cases h6 : k < 180
            · skip
              exact jx_mok_at jx_mok_175 (by omega) (by omega) hq ht
            · skip
              exact jx_mok_at jx_mok_180 (by omega) (by omega) hq ht
          · skip
            by_cases h6 : k < 190
            · skip
              exact jx_mok_at jx_mok_185 (by omega) (by omega) hq ht
            · skip
              exact jx_mok_at jx_mok_190 (by omega) (by omega) hq ht
        · skip
          by_cases h5 : k < 205
          · skip
            by_cases h6 : k < 200
            · skip
              exact jx_mok_at jx_mok_195 (by omega) (by omega) hq ht
            · skip
              exact jx_mok_at jx_mok_200 (by omega) (by omega) hq ht
          · skip
            by_cases h6 : k < 210
            · skip
              exact jx_mok_at jx_mok_205 (by omega) (by omega) hq ht
            · skip
              by_cases h7 : k < 215
              · skip
                exact jx_mok_at jx_mok_210 (by omega) (by omega) hq ht
              · skip
                exact jx_mok_at jx_mok_215 (by omega) (by omega) hq ht
      · skip
        by_cases h4 : k < 240
        · skip
          by_cases h5 : k < 230
          · skip
            by_cases h6 : k < 225
            · skip
              exact jx_mok_at jx_mok_220 (by omega) (by omega) hq ht
            · skip
              exact jx_mok_at jx_mok_225 (by omega) (by omega) hq ht
          · skip
            by_cases h6 : k < 235
            · skip
              exact jx_mok_at jx_mok_230 (by omega) (by omega) hq ht
            · skip
              exact jx_mok_at jx_mok_235 (by omega) (by omega) hq ht
        · skip
          by_cases h5 : k < 250
          · skip
            by_cases h6 : k < 245
            · skip
              exact jx_mok_at jx_mok_240 (by omega) (by omega) hq ht
            · skip
              exact jx_mok_at jx_mok_245 (by omega) (by omega) hq ht
          · skip
            by_cases h6 : k < 255
            · skip
              exact jx_mok_at jx_mok_250 (by omega) (by omega) hq ht
            · skip
              by_cases h7 : k < 260
              · skip
                exact jx_mok_at jx_mok_255 (by omega) (by omega) hq ht
              · skip
                exact jx_mok_at jx_mok_260 (by omega) (by omega) hq ht
    · skip
      by_cases h3 : k < 310
      · skip
        by_cases h4 : k < 285
        · skip
          by_cases h5 : k < 275
          · skip
            by_cases h6 : k < 270
            · skip
              exact jx_mok_at jx_mok_265 (by omega) (by omega) hq ht
            · skip
              exact jx_mok_at jx_mok_270 (by omega) (by omega) hq ht
          · skip
            by_cases h6 : k < 280
            · skip
              exact jx_mok_at jx_mok_275 (by omega) (by omega) hq ht
            · skip
              exact jx_mok_at jx_mok_280 (by omega) (by omega) hq ht
        · skip
          by_cases h5 : k < 295
          · skip
            by_cases h6 : k < 290
            · skip
              exact jx_mok_at jx_mok_285 (by omega) (by omega) hq ht
            · skip
              exact jx_mok_at jx_mok_290 (by omega) (by omega) hq ht
          · skip
            by_cases h6 : k < 300
            · skip
              exact jx_mok_at jx_mok_295 (by omega) (by omega) hq ht
            · skip
              by_cases h7 : k < 305
              · skip
                exact jx_mok_at jx_mok_300 (by omega) (by omega) hq ht
              · skip
                exact jx_mok_at jx_mok_305 (by omega) (by omega) hq ht
      · skip
        by_cases h4 : k < 330
        · skip
          by_cases h5 : k < 320
          · skip
            by_cases h6 : k < 315
            · skip
              exact jx_mok_at jx_mok_310 (by omega) (by omega) hq ht
            · skip
              exact jx_mok_at jx_mok_315 (by omega) (by omega) hq ht
          · skip
            by_cases h6 : k < 325
            · skip
              exact jx_mok_at jx_mok_320 (by omega) (by omega) hq ht
            · skip
              exact jx_mok_at jx_mok_325 (by omega) (by omega) hq ht
        · skip
          by_cases h5 : k < 340
          · skip
            by_cases h6 : k < 335
            · skip
              exact jx_mok_at jx_mok_330 (by omega) (by omega) hq ht
            · skip
              exact jx_mok_at jx_mok_335 (by omega) (by omega) hq ht
          · skip
            by_cases h6 : k < 345
            · skip
              exact jx_mok_at jx_mok_340 (by omega) (by omega) hq ht
            · skip
              by_cases h7 : k < 350
              · skip
                exact jx_mok_at jx_mok_345 (by omega) (by omega) hq ht
              · skip
                exact jx_mok_at jx_mok_350 (by omega) (by omega) hq ht
def jx_kck (cls : Nat) (cd : jm_Cd) : Bool := cd.all (fun q => match q.2 with
  | .invokestatic idx => (match jm_find (jm_ml.getD cls []) idx with
    | some (k, _, _) => Nat.beq k 1000 || Nat.beq k 1002 || Nat.beq k 1003 || (match jx_y[k]? with | some y => Nat.beq y.2.1 0 | none => false)
    | none => true)
  | .invokevirtual idx => (match jm_find (jm_ml.getD cls []) idx with
    | some (k, _, _) => (match jx_y[k]? with | some y => Nat.beq y.2.1 1 | none => false)
    | none => true)
  | .invokespecial idx => (match jm_find (jm_ml.getD cls []) idx with
    | some (k, _, _) => Nat.beq k 1001 || (match jx_y[k]? with | some y => Nat.beq y.2.1 2 | none => false)
    | none => true)
  | _ => true)
theorem jx_kck_all : jm_mt.all (fun t => jx_kck t.1 t.2.2.2) = true := by decide +kernel
theorem jx_kck_law : jx_kck 13 jc_L_law = true := by decide +kernel
/-- what is to be known of method k -/
theorem jx_meth {k : Nat} {q : jx_YT} {t : Nat × Nat × Nat × jm_Cd} (hq : jx_y[k]? = some q) (ht : jm_mt[k]? = some t) :
    (∃ b, Cond.code q.1 b t.2.2.1 (jx_rt t.2.1) ∈ jx_gw ∧ jx_ck b t.2.2.2 = true) ∧ Cond.initialized q.1.cls ∈ jx_gw ∧ (q.2.1 = 0 → Cond.static q.1 ∈ jx_gw) ∧ (q.2.1 = 1 → Cond.instanceMethod q.1 ∈ jx_gw ∧ Cond.selects q.1.cls q.1 q.1 ∈ jx_gw) ∧ (q.2.1 = 2 → Cond.instanceMethod q.1 ∈ jx_gw ∧ q.1.name = "<init>" ∧ t.2.1 = 0) ∧
    (q.1.cls ≠ "java/lang/invoke/MethodHandle" ∧ q.1.cls ≠ "java/lang/invoke/VarHandle") ∧ plainName q.1.cls = true ∧ jm_cn[t.1]? = some q.1.cls ∧ (parseMethodDescriptor q.1.desc).map (fun d => d.parameters.length) = some q.2.2.1 ∧ t.2.2.1 ≤ 60 ∧ t.2.1 ≤ 5 ∧ (q.1.name = "<init>" ∨ jx_nop t.1 t.2.2.2 = true) ∧ jx_kck t.1 t.2.2.2 = true := by
  have h := jx_mok_all hq ht
  unfold jx_mok at h
  simp only [Bool.and_eq_true, decide_eq_true_eq, Bool.or_eq_true] at h
  obtain ⟨⟨⟨⟨⟨⟨⟨⟨⟨⟨h1, h2⟩, h3⟩, h4⟩, h5⟩, h6⟩, h7⟩, h8⟩, h9⟩, h10⟩, h11⟩ := h
  refine ⟨?_, jx_at_in h2, fun hk => ?_, fun hk => ?_, fun hk => ?_, ⟨h4, h5⟩, h6, h7, h8, Nat.le_of_ble_eq_true h9, Nat.le_of_ble_eq_true h10, h11, List.all_eq_true.mp jx_kck_all _ (List.mem_of_getElem? ht)⟩
  · unfold jx_cok at h1
    cases hc : lw_tbl[q.2.2.2.1]? with
    | none => rw [hc] at h1; cases h1
    | some w =>
      rw [hc] at h1
      cases w with
      | code y' b m r =>
        simp only [Bool.and_eq_true, decide_eq_true_eq] at h1
        obtain ⟨⟨⟨⟨e1, e2⟩, e3⟩, e4⟩, e5⟩ := h1
        have e2 := Nat.eq_of_beq_eq_true e2
        subst e1; subst e2; subst e3
        exact ⟨b, jx_gwi (List.mem_of_getElem? hc) e4, e5⟩
      | _ => cases h1
  · rw [hk] at h3
    exact jx_at_in h3
  · rw [hk] at h3
    simp only [Bool.and_eq_true] at h3
    exact ⟨jx_at_in h3.1, jx_at_in h3.2⟩
  · rw [hk] at h3
    simp only [Bool.and_eq_true, decide_eq_true_eq] at h3
    exact ⟨jx_at_in h3.1.1, h3.1.2, Nat.eq_of_beq_eq_true h3.2⟩
