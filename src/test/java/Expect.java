/** What the tests share: calls that are compared with what is due, and texts given four bytes at a time. */
final class Expect {
    interface Call {
        long answer();
    }

    interface Act {
        void run();
    }

    private static int wrong = 0;
    private static int asked = 0;

    private Expect() {
    }

    static void due(String call, long got, long want) {
        asked++;
        if (got != want) {
            wrong++;
            System.out.println(call + " answered " + got + ", due is " + want);
        }
    }

    static void due(String call, boolean got, boolean want) {
        due(call, got ? 1 : 0, want ? 1 : 0);
    }

    static void dueReal(String call, double got, double want) {
        asked++;
        if (got != want) {
            wrong++;
            System.out.println(call + " answered " + got + ", due is " + want);
        }
    }

    static void dueText(String call, String got, String want) {
        asked++;
        if (!got.equals(want)) {
            wrong++;
            System.out.println(call + " answered \"" + got + "\", due is \"" + want + "\"");
        }
    }

    static void throwsIndex(String call, Call made) {
        thrown(call, made, "IndexOutOfBoundsException");
    }

    static void throwsArgument(String call, Call made) {
        thrown(call, made, "IllegalArgumentException");
    }

    static void throwsState(String call, Call made) {
        thrown(call, made, "IllegalStateException");
    }

    static void throwsArgument(String call, Act made) {
        thrown(call, () -> { made.run(); return 0; }, "IllegalArgumentException");
    }

    static void throwsState(String call, Act made) {
        thrown(call, () -> { made.run(); return 0; }, "IllegalStateException");
    }

    private static void thrown(String call, Call made, String want) {
        String got;
        try {
            got = "the number " + made.answer();
        } catch (RuntimeException e) {
            got = e.getClass().getSimpleName();
        }
        dueText(call, got, want);
    }

    /** Puts a text into the buffer, which is emptied first. */
    static void type(NewsReel x, String text) {
        x.truncateText(0);
        for (int i = 0; i < text.length(); i += 4) {
            int four = 0;
            for (int j = i; j < i + 4; j++) {
                four = four << 8 | (j < text.length() ? text.charAt(j) & 255 : ' ');
            }
            x.appendText(four);
        }
        x.truncateText(text.length());
    }

    static int load(NewsReel x, String text) {
        type(x, text);
        return x.load();
    }

    static int edit(NewsReel x, String text) {
        type(x, text);
        return x.edit();
    }

    static int say(NewsReel x, String text) {
        type(x, text);
        return x.say();
    }

    static NewsReel made(String library, String reel, String voice) {
        NewsReel x = new NewsReel();
        due("load of " + library, load(x, library) >= 0, true);
        due("edit of " + reel, edit(x, reel) >= 0, true);
        due("say of " + voice, say(x, voice) >= 0, true);
        return x;
    }

    static String output(NewsReel x) {
        StringBuilder signs = new StringBuilder();
        for (int i = 0; x.output(i) != NewsReel.NONE; i++) {
            signs.append((char) x.output(i));
        }
        return signs.toString();
    }

    static String reelText(NewsReel x) {
        int length = x.writeReel();
        String text = output(x);
        due("writeReel()", length, text.length());
        return text;
    }

    static String voiceText(NewsReel x) {
        int length = x.writeVoice();
        String text = output(x);
        due("writeVoice()", length, text.length());
        return text;
    }

    static void end(String test) {
        System.out.println(test + ": " + asked + " answers, " + wrong + " not as due");
        if (wrong != 0) {
            System.exit(1);
        }
    }
}
