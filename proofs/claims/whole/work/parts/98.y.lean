/-! the start -/
theorem m7z {k : Nat} (h1 : k ≠ 2) (h2 : k ≠ 3) (h3 : k ≠ 24) (h4 : k ≠ 25) (h5 : k ≠ 26) : muX7 k = fun _ => 0 := by
  unfold muX7
  rw [if_neg h1, if_neg h2, if_neg h3, if_neg h4, if_neg h5]
theorem sh0 : ∀ n, sh (fun _ => 0) n = 0
  | 0 => rfl
  | n + 1 => by rw [sh, sh0 n]; rfl
theorem iv0 : Iv muX7 muX8 := by
  constructor
  · refine ⟨⟨?_, by decide, by decide, by decide, ⟨by decide, by decide⟩, ⟨by decide, by decide⟩⟩, ⟨⟨by decide, by decide⟩, fun i hi => ?_⟩, fun p hp => ?_, ⟨by decide, by decide, by decide, ⟨by decide, by decide⟩, fun i hi => ?_, fun i hi => ?_⟩, ⟨by decide, fun i hi => ?_⟩, ?_, ⟨⟨by decide, by decide⟩, fun i hi => ?_, fun i hi hi2 => ?_⟩, ⟨by decide, by decide⟩, fun s hs => ?_⟩
    · have : ∀ i : Fin 12, ((1 ≤ (muX7 24 i.val).toInt ∧ (muX7 24 i.val).toInt ≤ 40) ∧ (1 ≤ (muX7 2 i.val).toInt ∧ (muX7 2 i.val).toInt ≤ 127) ∧ (0 ≤ (muX7 3 i.val).toInt ∧ (muX7 3 i.val).toInt ≤ 127) ∧ (0 ≤ (muX7 25 i.val).toInt ∧ (muX7 25 i.val).toInt ≤ 20)) := by decide
      exact fun i hi => this ⟨i, hi⟩
    · rw [show (muX7 4 5).toInt = 0 from rfl] at hi; omega
    · refine ⟨⟨?_, ?_⟩, fun i hi => ?_⟩
      · rw [m7z (by decide) (by decide) (by decide) (by decide) (by decide)]; exact (show 0 ≤ (0 : Int32).toInt by decide)
      · rw [m7z (by decide) (by decide) (by decide) (by decide) (by decide)]; exact (show (0 : Int32).toInt ≤ 8 by decide)
      · rw [m7z (by decide) (by decide) (by decide) (by decide) (by decide), z0] at hi; omega
    · rw [show (muX7 10 3).toInt = 0 from rfl] at hi; omega
    · rw [show (muX7 10 4).toInt = 0 from rfl] at hi; omega
    · rw [show (muX7 14 3).toInt = 0 from rfl] at hi; omega
    · unfold CE
      rw [show muX7 9 = fun _ => 0 from rfl, sh0]
      decide
    · rw [show (muX7 18 2).toInt = 0 from rfl] at hi; omega
    · rfl
    · dsimp only
      rw [m7z (by omega) (by omega) (by omega) (by omega) (by omega)]
      exact ⟨Or.inl rfl, ⟨by decide, by decide⟩, ⟨by decide, by decide⟩⟩
  · refine ⟨⟨rfl, rfl, rfl, rfl, rfl, rfl, rfl, rfl, rfl, rfl, rfl, rfl, rfl, rfl, rfl, rfl, rfl⟩, ⟨rfl, rfl, rfl, rfl, rfl, rfl, rfl, rfl, rfl⟩, fun p i h1 h2 => ?_, fun p i h1 h2 => ?_, fun s hs => ?_, fun s hs => ?_, fun s i h1 h2 => ?_⟩
    · rw [m7z (by omega) (by omega) (by omega) (by omega) (by omega)]; rfl
    · rw [m7z (by omega) (by omega) (by omega) (by omega) (by omega)]; rfl
    · rw [m7z (by omega) (by omega) (by omega) (by omega) (by omega)]
      have : ∀ s : Fin 4, muX8 22 s.val = -1 := by decide
      exact this ⟨s, hs⟩
    · rw [m7z (by omega) (by omega) (by omega) (by omega) (by omega)]; rfl
    · rw [m7z (by omega) (by omega) (by omega) (by omega) (by omega)]; rfl
theorem all_S : ∀ n, lw_S Iv n := fun n => match n with
  | 0 => st_letter | 1 => st_place | 2 => st_rails | 3 => st_set | 4 => st_falls | 5 => st_astray | 6 => st_order | 7 => st_lost | 8 => st_mould | 9 => st_told
  | 10 => st_wear | 11 => st_home | 12 => st_channel | 13 => st_key | 14 => st_band | 15 => st_ticks | 16 => st_line | 17 => st_state | 18 => st_thick | 19 => st_cast
  | 20 => st_clear | 21 => st_slug | 22 => st_count | 23 => st_comes | 24 => st_turned | 25 => st_waits | 26 => st_gap | 27 => st_type | 28 => st_plays | 29 => st_risk
  | 30 => st_better | 31 => st_sheet | 32 => st_drop | 33 => st_item | 34 => st_copy
  | _ + 35 => trivial
