set_option maxRecDepth 1000000 in
theorem dig_Y : vIs (eY oY1 199 mX7_digest.ml []) (.long (-5525622686465236783)) 35 = true := by decide +kernel
