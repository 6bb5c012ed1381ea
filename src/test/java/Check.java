/** Counts and prints the answers that are not as due; end() ends with exit code 1 if there was one. */
final class Check {
    private final String name;
    private int asked;
    private int wrong;

    Check(String name) {
        this.name = name;
    }

    void due(String what, long got, long want) {
        asked++;
        if (got != want) {
            wrong++;
            if (wrong <= 50) {
                System.out.println(name + ": " + what + " answered " + got + ", due is " + want);
            }
        }
    }

    void due(String what, boolean holds) {
        due(what, holds ? 1 : 0, 1);
    }

    void end() {
        System.out.println(name + ": " + asked + " answers, " + wrong + " wrong");
        if (wrong != 0) {
            System.exit(1);
        }
    }

    /** Puts a text on the page, eight letters a call. */
    static void write(CutsOrFast x, String text) {
        for (int from = 0; from < text.length(); from += 8) {
            x.letters(packed(text.substring(from, Math.min(from + 8, text.length()))));
        }
    }

    static long packed(String upToEight) {
        long w = 0;
        for (int i = 0; i < upToEight.length(); i++) {
            w |= (long) (upToEight.charAt(i) & 255) << (8 * i);
        }
        return w;
    }

    /** A new object that has read the text as its net. */
    static CutsOrFast made(String text) {
        CutsOrFast x = new CutsOrFast();
        write(x, text);
        x.net();
        return x;
    }
}
