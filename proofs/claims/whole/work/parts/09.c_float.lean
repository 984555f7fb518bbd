/-! printed by wip/gen/build.py out of the decode rows: do not edit by hand -/
set_option maxHeartbeats 4000000 in
set_option maxRecDepth 100000 in
theorem c_Jxf58ca_isNaN_12338 (l : Launch) {G : va_G} {Λ : Lay} {μ : Mem} (hOK : LayOK Λ) {a0 : UInt32} {r : Int32} (hs : sJxf58ca_isNaN_12338 Λ μ a0 = some r) : CM l G Λ yJxf58ca_isNaN_12338 cJxf58ca_isNaN_12338 1 (some .boolean) 0 μ [.float a0] (QI G Λ r μ) := by
  sorry

set_option maxHeartbeats 4000000 in
set_option maxRecDepth 100000 in
theorem c_Jxf58ca_floatToIntBits_5c35a (l : Launch) {G : va_G} {Λ : Lay} {μ : Mem} (hOK : LayOK Λ) {a0 : UInt32} {r : Int32} (hs : sJxf58ca_floatToIntBits_5c35a Λ μ a0 = some r) : CM l G Λ yJxf58ca_floatToIntBits_5c35a cJxf58ca_floatToIntBits_5c35a 1 (some .int) 1 μ [.float a0] (QI G Λ r μ) := by
  sorry
