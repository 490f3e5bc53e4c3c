theorem am_kl3 : (List.range 120).all (fun k => am_okA 299 (360 + k)) = true := by decide +kernel
