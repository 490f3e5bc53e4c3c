theorem am_kl4 : (List.range 120).all (fun k => am_okA 299 (480 + k)) = true := by decide +kernel
