theorem am_kl6 : (List.range 120).all (fun k => am_okA 299 (720 + k)) = true := by decide +kernel
