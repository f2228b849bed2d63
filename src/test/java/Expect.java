/** What the tests share: calls that are compared with what is due, and texts given four bytes at a time. */
final class Expect {
    interface Call {
        long answer();
    }

    interface Row {
        long answer(int number);
    }

    interface Act {
        void run();
    }

    /** The library of the texts that reel() reads. */
    static final String LIBRARY = "shot 0 30;shot 1 20;map rome;map oslo;";

    private static int wrong = 0;
    private static int asked = 0;
    private static String sentence = "";

    private Expect() {
    }

    /** The words of the document that the answers from here on are held to, and the promise or term where they stand. */
    static void sentence(String place, String... words) {
        sentence = place + ": " + String.join(" .. ", words);
    }

    private static void compare(boolean same, String call, Object got, Object want) {
        asked++;
        if (!same) {
            wrong++;
            System.out.println(call + " answered " + got + ", due is " + want);
            if (!sentence.isEmpty()) {
                System.out.println("    the document: " + sentence);
            }
        }
    }

    static void due(String call, long got, long want) {
        compare(got == want, call, got, want);
    }

    static void due(String call, boolean got, boolean want) {
        due(call, got ? 1 : 0, want ? 1 : 0);
    }

    static void dueReal(String call, double got, double want) {
        compare(got == want, call, got, want);
    }

    static void dueText(String call, String got, String want) {
        compare(got.equals(want), call, "\"" + got + "\"", "\"" + want + "\"");
    }

    /** What a question answers for each of the numbers 0, 1, 2 .. */
    static void dueRow(String call, Row row, long... want) {
        for (int what = 0; what < want.length; what++) {
            due(call + " " + what, row.answer(what), want[what]);
        }
    }

    static void throwsIndex(String call, Call made) {
        thrown(call, made, "IndexOutOfBoundsException");
    }

    static void throwsArgument(String call, Call made) {
        thrown(call, made, "IllegalArgumentException");
    }

    static void throwsState(String call, Call made) {
        thrown(call, made, "IllegalStateException");
    }

    static void throwsArgument(String call, Act made) {
        thrown(call, () -> { made.run(); return 0; }, "IllegalArgumentException");
    }

    static void throwsState(String call, Act made) {
        thrown(call, () -> { made.run(); return 0; }, "IllegalStateException");
    }

    /** A number that is asked for by its place: those that there are not answer with an exception. */
    static void throwsIndexAround(String call, Row row, int count) {
        for (int index : new int[] {Integer.MIN_VALUE, -2, -1, count, count + 1, Integer.MAX_VALUE}) {
            throwsIndex(call + " of " + index, () -> row.answer(index));
        }
    }

    static void throwsArgumentAround(String call, Row row, int lowest, int highest) {
        for (int value : new int[] {Integer.MIN_VALUE, lowest - 2, lowest - 1, highest + 1, highest + 2, Integer.MAX_VALUE}) {
            throwsArgument(call + " of " + value, () -> row.answer(value));
        }
    }

    private static void thrown(String call, Call made, String want) {
        String got;
        try {
            got = "the number " + made.answer();
        } catch (RuntimeException e) {
            got = e.getClass().getSimpleName();
        }
        dueText(call, got, want);
    }

    /** Puts a text into the buffer, which is emptied first. */
    static void type(NewsReel x, String text) {
        x.truncateText(0);
        for (int i = 0; i < text.length(); i += 4) {
            int four = 0;
            for (int j = i; j < i + 4; j++) {
                four = four << 8 | (j < text.length() ? text.charAt(j) & 255 : ' ');
            }
            x.appendText(four);
        }
        x.truncateText(text.length());
    }

    static int load(NewsReel x, String text) {
        type(x, text);
        return x.load();
    }

    static int edit(NewsReel x, String text) {
        type(x, text);
        return x.edit();
    }

    static int say(NewsReel x, String text) {
        type(x, text);
        return x.say();
    }

    /** A text that a new object reads as a library. */
    static NewsReel library(String text, int answer, int code, int position) {
        NewsReel x = new NewsReel();
        dueRead("load of " + text, load(x, text), answer, x, code, position);
        return x;
    }

    static NewsReel library(String text, int answer) {
        return library(text, answer, 0, NewsReel.NONE);
    }

    /** A text that an object with LIBRARY reads as a reel. */
    static NewsReel reel(String text, int answer, int code, int position) {
        NewsReel x = new NewsReel();
        load(x, LIBRARY);
        dueRead("edit of " + text, edit(x, text), answer, x, code, position);
        return x;
    }

    static NewsReel reel(String text, int answer) {
        return reel(text, answer, 0, NewsReel.NONE);
    }

    /** A text that a new object reads as a voice. */
    static NewsReel voice(String text, int answer, int code, int position) {
        NewsReel x = new NewsReel();
        dueRead("say of " + text, say(x, text), answer, x, code, position);
        return x;
    }

    static NewsReel voice(String text, int answer) {
        return voice(text, answer, 0, NewsReel.NONE);
    }

    private static void dueRead(String call, int got, int answer, NewsReel x, int code, int position) {
        due(call, got, answer);
        due("errorCode() after " + call, x.errorCode(), code);
        due("errorPosition() after " + call, x.errorPosition(), position);
    }

    static void dueTextLength(String told, NewsReel x, int length) {
        throwsArgument("a longer text than that of " + told, () -> x.truncateText(length + 1));
        due("the text's length of " + told, x.truncateText(length), length);
    }

    static NewsReel made(String library, String reel, String voice) {
        NewsReel x = new NewsReel();
        due("load of " + library, load(x, library) >= 0, true);
        due("edit of " + reel, edit(x, reel) >= 0, true);
        due("say of " + voice, say(x, voice) >= 0, true);
        return x;
    }

    static String output(NewsReel x) {
        return output(x, 0, 1000);
    }

    /** The bytes of the output from one index up to another one, as far as there are. */
    static String output(NewsReel x, int from, int to) {
        StringBuilder signs = new StringBuilder();
        for (int i = from; i < to; i++) {
            int sign = x.output(i);
            if (sign == NewsReel.NONE) {
                break;
            }
            signs.append((char) sign);
        }
        return signs.toString();
    }

    /** Everything that acts can change, as the questions tell it; of many pieces and words the first and last ones. */
    static String state(NewsReel x) {
        StringBuilder told = new StringBuilder();
        tell(told, "count", x::count, 13);
        for (int i = 0; i < x.count(0); i++) {
            int shot = i;
            tell(told, " shot", what -> x.shot(shot, what), 5);
        }
        for (int i = 0; i < x.count(1); i++) {
            int map = i;
            tell(told, " map", what -> x.map(map, what), 4);
        }
        for (int i = 0; i < x.count(2); i++) {
            int ban = i;
            tell(told, " ban", what -> x.ban(ban, what), 4);
        }
        for (int i = 0; i < x.count(10); i += i == 5 ? Math.max(x.count(10) - 7, 1) : 1) {
            int word = i;
            tell(told, " word", what -> x.word(word, what), 6);
        }
        for (int i = 0; i < x.reel(0); i += i == 5 ? Math.max(x.reel(0) - 7, 1) : 1) {
            int piece = i;
            tell(told, " piece", what -> x.piece(piece, what), 7);
        }
        tell(told, " reel", x::reel, 7);
        tell(told, " faults", x::faults, 6);
        return told.toString();
    }

    /** What acts, undo, save and restore leave as it is, or count. */
    static String rest(NewsReel x) {
        StringBuilder told = new StringBuilder();
        tell(told, "account", x::account, 7);
        told.append(" acts to undo ").append(x.count(13));
        told.append(" error ").append(x.errorCode()).append(" at ").append(x.errorPosition());
        told.append(" output ").append(output(x));
        return told.toString();
    }

    private static void tell(StringBuilder told, String name, Row row, int number) {
        told.append(name);
        for (int what = 0; what < number; what++) {
            told.append(' ').append(row.answer(what));
        }
    }

    static String reelText(NewsReel x) {
        int length = x.writeReel();
        String text = output(x);
        due("writeReel()", length, text.length());
        return text;
    }

    static String voiceText(NewsReel x) {
        int length = x.writeVoice();
        String text = output(x);
        due("writeVoice()", length, text.length());
        return text;
    }

    static void end(String test) {
        System.out.println(test + ": " + asked + " answers, " + wrong + " not as due");
        if (wrong != 0) {
            System.exit(1);
        }
    }
}
