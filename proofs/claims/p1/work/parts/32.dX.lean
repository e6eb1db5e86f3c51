set_option maxRecDepth 1000000 in
theorem dig_X : vIs (eX oX1 79 mX6_digest.ml []) (.long (-5525622686465236783)) 58 = true := by decide +kernel
