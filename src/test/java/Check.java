/** Counts wrong answers and prints them; feeds texts. */
final class Check {
    private static int wrong = 0;
    private static int asked = 0;

    private Check() {
    }

    static void due(String call, long got, long want) {
        asked++;
        if (got != want) {
            wrong++;
            if (wrong <= 100) {
                System.out.println(call + " answered " + got + ", due is " + want);
            }
        }
    }

    static int wrong() {
        return wrong;
    }

    static void finish(String name) {
        System.out.println(name + ": " + asked + " answers, " + wrong + " wrong");
        if (wrong > 0) {
            System.exit(1);
        }
    }

    /** The number that holds the four bytes of the text from that place on; blanks behind its end. */
    static int four(String text, int place) {
        int n = 0;
        for (int i = place; i < place + 4; i++) {
            n = n << 8 | (i < text.length() ? text.charAt(i) : ' ');
        }
        return n;
    }

    /** The tape holds that text alone then (if it has room for the last feed of it). */
    static void write(ThreeWheels x, String text) {
        x.end(0);
        for (int i = 0; i < text.length(); i += 20) {
            x.feed(four(text, i), four(text, i + 4), four(text, i + 8), four(text, i + 12), four(text, i + 16));
        }
        x.end(text.length());
    }

    static int law(ThreeWheels x, String text) {
        write(x, text);
        return x.law();
    }

    static int orders(ThreeWheels x, String text) {
        write(x, text);
        return x.orders();
    }

    static int row(ThreeWheels x, int... bytes) {
        StringBuilder text = new StringBuilder();
        for (int b : bytes) {
            text.append((char) b);
        }
        write(x, text.toString());
        return x.row();
    }
}
