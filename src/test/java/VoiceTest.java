/** Promises 11, 15, 21, 26, 33, 36: the voice, its words, syllables and frames. */
public final class VoiceTest {
    public static void main(String[] args) {
        words();
        syllables();
        spoken();
        pace();
        setVoice();
        writeVoice();
        said();
        Expect.end("VoiceTest");
    }

    private static void words() {
        NewsReel x = Expect.made("map rome;map oslo;speed 2;pause 6;", "", "we saw rome. oslo. in oslo.");
        int[][] due = {
            {2, 1, 0, 2, -1, 0}, {3, 1, 2, 4, -1, 0}, {4, 2, 4, 8, 0, 0},
            {4, 2, 14, 18, 1, 1}, {2, 1, 24, 26, -1, 2}, {4, 2, 26, 30, 1, 2}};
        for (int word = 0; word < due.length; word++) {
            for (int what = 0; what < 6; what++) {
                Expect.due("word " + word + " " + what, x.word(word, what), due[word][what]);
            }
        }
        Expect.due("the voice's end", x.reel(2), 30);
        Expect.throwsIndex("word(6, 0)", () -> x.word(6, 0));
        Expect.throwsIndex("word(-1, 7)", () -> x.word(-1, 7));
        Expect.throwsArgument("word(5, 6)", () -> x.word(5, 6));
        Expect.throwsArgument("word(5, -1)", () -> x.word(5, -1));
    }

    private static void syllables() {
        NewsReel x = new NewsReel();
        String[] words = {"a", "bcd", "aeiouy", "yes", "eye", "rhythm", "banana", "queue", "xaxexixoxuxyx", "why"};
        int[] due = {1, 1, 1, 1, 1, 1, 3, 1, 6, 1};
        for (int i = 0; i < words.length; i++) {
            Expect.due("say " + words[i], Expect.say(x, words[i] + "."), 1);
            Expect.due("syllables of " + words[i], x.word(0, 1), due[i]);
            Expect.due("letters of " + words[i], x.word(0, 0), words[i].length());
            Expect.due("all syllables of " + words[i], x.count(11), due[i]);
        }
    }

    private static void spoken() {
        NewsReel x = Expect.made("speed 2;pause 6;", "", "we saw. rome.");
        int[] frames = {Integer.MIN_VALUE, -1, 0, 1, 2, 3, 4, 9, 10, 13, 14, Integer.MAX_VALUE};
        int[] due = {-1, -1, 0, 0, 1, 1, -1, -1, 2, 2, -1, -1};
        for (int i = 0; i < frames.length; i++) {
            Expect.due("spoken " + frames[i], x.spoken(frames[i]), due[i]);
        }
    }

    private static void pace() {
        NewsReel x = new NewsReel();
        Expect.dueReal("pace without words", x.pace(), 0);
        Expect.say(x, "rome is old.");
        Expect.dueReal("pace", x.pace(), (float) 4 / (float) 3);
        Expect.say(x, "banana.");
        Expect.dueReal("pace of banana", x.pace(), 3);
    }

    private static void setVoice() {
        NewsReel x = Expect.made("", "", "rome is. old.");
        Expect.due("end at first", x.reel(2), 26);
        Expect.due("setVoice(1, 0)", x.setVoice(1, 0), 4);
        Expect.due("setVoice(20, 50)", x.setVoice(20, 50), 130);
        Expect.due("SPEED", x.count(4), 20);
        Expect.due("PAUSE", x.count(5), 50);
        Expect.due("word 2 begins", x.word(2, 2), 110);
        Expect.due("setVoice to what they are", x.setVoice(20, 50), 130);
        Expect.due("acts done", x.account(0), 5);
        Expect.throwsArgument("setVoice(0, 0)", () -> x.setVoice(0, 0));
        Expect.throwsArgument("setVoice(21, 0)", () -> x.setVoice(21, 0));
        Expect.throwsArgument("setVoice(1, -1)", () -> x.setVoice(1, -1));
        Expect.throwsArgument("setVoice(1, 51)", () -> x.setVoice(1, 51));
        Expect.due("SPEED after exceptions", x.count(4), 20);
        Expect.due("acts done after exceptions", x.account(0), 5);
        x.undo();
        x.undo();
        Expect.due("SPEED after undo", x.count(4), 1);
        Expect.due("PAUSE after undo", x.count(5), 0);
        Expect.due("the voice's end after undo", x.reel(2), 4);
        Expect.due("setVoice without words", new NewsReel().setVoice(3, 3), 0);
    }

    private static void writeVoice() {
        NewsReel x = new NewsReel();
        Expect.dueText("no voice", Expect.voiceText(x), "");
        Expect.say(x, "\n  we saw\nrome .fire   in oslo.\n");
        Expect.dueText("two sentences", Expect.voiceText(x), "we saw rome. fire in oslo.");
        Expect.say(x, "a.b.".repeat(30));
        Expect.dueText("60 sentences", Expect.voiceText(x), "a. b. ".repeat(30).trim());
        Expect.say(x, "rome.");
        x.undo();
        Expect.dueText("after undo", Expect.voiceText(x), "a. b. ".repeat(30).trim());
    }

    private static void said() {
        NewsReel x = new NewsReel();
        Expect.due("say", Expect.say(x, "one two. three."), 3);
        Expect.due("sentences", x.count(12), 2);
        Expect.due("say again", Expect.say(x, "four."), 1);
        Expect.due("words", x.count(10), 1);
        Expect.due("sentences then", x.count(12), 1);
        Expect.due("say nothing", Expect.say(x, ""), 0);
        Expect.due("the end of nothing", x.reel(2), 0);
        Expect.due("undo", x.undo(), 2);
        Expect.due("undo", x.undo(), 1);
        Expect.due("words after undo", x.count(10), 3);
        Expect.due("sentences after undo", x.count(12), 2);
        Expect.due("say with an error", Expect.say(x, "five"), -1);
        Expect.due("refusals", x.account(1), 1);
        Expect.due("acts done", x.account(0), 3);
        Expect.due("words after an error", x.count(10), 3);
    }
}
