/** Counts the answers that are not due, and ends a test by them. */
final class Due {
    private final String test;
    private int asked;
    private int wrong;

    Due(String test) {
        this.test = test;
    }

    void is(String call, long got, long want) {
        asked++;
        if (got != want) {
            wrong++;
            System.out.println(test + ": " + call + " answered " + got + ", due is " + want);
        }
    }

    boolean anyWrong() {
        return wrong > 0;
    }

    void end() {
        System.out.println(test + ": " + asked + " answers, " + wrong + " not as due");
        if (wrong > 0 || asked == 0) {
            System.exit(1);
        }
    }

    /** Makes this the text of a door, in place of the one that it has. */
    static void tell(GreenDoor door, String text) {
        door.erase();
        append(door, text);
    }

    static void append(GreenDoor door, String text) {
        for (int at = 0; at < text.length(); at += 8) {
            String piece = text.substring(at, Math.min(text.length(), at + 8));
            door.write(bytes(piece), piece.length());
        }
    }

    static long bytes(String piece) {
        long bytes = 0;
        for (int i = 0; i < piece.length(); i++) {
            bytes |= (long) (piece.charAt(i) & 255) << 8 * i;
        }
        return bytes;
    }
}
