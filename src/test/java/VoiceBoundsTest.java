/** Boundary cases of the term THE VOICE and of promises 11, 15, 21, 26, 33 and 36, sentence by sentence. */
public final class VoiceBoundsTest {
    public static void main(String[] args) {
        sixtyWords();
        letters();
        syllables();
        frames();
        pauses();
        endOfTheVoice();
        wordNumbers();
        wordExceptions();
        spoken();
        spokenInPauses();
        pace();
        said();
        sayWithAnError();
        setVoice();
        setVoiceExceptions();
        writeVoice();
        longestOutput();
        Expect.end("VoiceBoundsTest");
    }

    private static void sixtyWords() {
        Expect.sentence("THE VOICE", "The voice is a row of at most 60 words.");
        NewsReel none = Expect.voice("", 0);
        Expect.throwsIndexAround("a word of none", i -> none.word(i, 0), 0);
        NewsReel one = Expect.voice("a.", 1);
        Expect.throwsIndexAround("a word of one", i -> one.word(i, 0), 1);
        NewsReel all = Expect.voice("a ".repeat(59) + "bab.", 60);
        Expect.due("words", all.count(10), 60);
        Expect.due("the letters of word 59", all.word(59, 0), 3);
        Expect.throwsIndexAround("a word of sixty", i -> all.word(i, 0), 60);
        Expect.voice("a ".repeat(60) + "a.", -1, 4, 120);
    }

    private static void letters() {
        Expect.sentence("TEXTS", "In a voice a word is any word of at most 20 letters.");
        Expect.due("letters", Expect.voice("abcdefghijklmnopqrst.", 1).word(0, 0), 20);
        Expect.voice("abcdefghijklmnopqrstu.", -1, 2, 0);
        Expect.voice("a. abcdefghijklmnopqrst abcdefghijklmnopqrstu.", -1, 2, 24);
        Expect.voice("shot map ban week speed pause least slack from to repeat mix.", 12);
        Expect.due("letters of 23 longest words", Expect.voice("zzzzzzzzzzzzzzzzzzzz.".repeat(23), 23).word(22, 0), 20);
    }

    private static void syllables() {
        Expect.sentence("THE VOICE",
                "A word has as many syllables as it has groups of the letters a, e, i, o, u, y (a group is a maximal run of them), but at least 1.");
        for (char letter = 'a'; letter <= 'z'; letter++) {
            boolean vowel = "aeiouy".indexOf(letter) >= 0;
            NewsReel x = Expect.voice(letter + " b" + letter + "b a" + letter + "a.", 3);
            Expect.due("syllables of " + letter, x.word(0, 1), 1);
            Expect.due("syllables of b" + letter + "b", x.word(1, 1), 1);
            Expect.due("syllables of a" + letter + "a", x.word(2, 1), vowel ? 1 : 2);
        }
        Expect.due("syllables of ten groups", Expect.voice("abababababababababab.", 1).word(0, 1), 10);
        Expect.due("syllables of ten groups", Expect.voice("bybybybybybybybybyby.", 1).word(0, 1), 10);
        Expect.due("syllables of one long group", Expect.voice("aeiouyaeiouyaeiouyae.", 1).word(0, 1), 1);
        Expect.due("syllables without a group", Expect.voice("bcdfghjklmnpqrstvwxz.", 1).word(0, 1), 1);
        Expect.due("all syllables", Expect.voice("b a. aba bcb. ababab.", 5).count(11), 8);
        Expect.due("groups do not go on in the next word", Expect.voice("a a ab ba ab.", 5).count(11), 5);
    }

    private static void frames() {
        Expect.sentence("THE VOICE", "The first word begins at frame 0; a word takes SPEED frames for each syllable");
        for (int speed : new int[] {1, 20}) {
            NewsReel x = Expect.library("speed " + speed + ";pause 0;", 0);
            Expect.say(x, "b aba abababababababababab.");
            Expect.dueRow("begin of word", i -> x.word(i, 2), 0, speed, 3 * speed);
            Expect.dueRow("end of word", i -> x.word(i, 3), speed, 3 * speed, 13 * speed);
            Expect.due("the voice's end", x.reel(2), 13 * speed);
        }
        NewsReel first = Expect.voice("a.", 1);
        Expect.due("begin with SPEED at first", first.word(0, 2), 0);
        Expect.due("end with SPEED at first", first.word(0, 3), 4);
    }

    private static void pauses() {
        Expect.sentence("THE VOICE", "the next one begins as it ends, or PAUSE frames later if it is the last one of a sentence");
        for (int pause : new int[] {0, 1, 50}) {
            NewsReel x = Expect.library("speed 2;pause " + pause + ";", 0);
            Expect.say(x, "a. b c. d.");
            Expect.dueRow("begin of word", i -> x.word(i, 2), 0, 2 + pause, 4 + pause, 6 + 2 * pause);
            Expect.due("the voice's end", x.reel(2), 8 + 2 * pause);
        }
        NewsReel first = Expect.voice("a. a.", 2);
        Expect.due("begin with PAUSE at first", first.word(1, 2), 14);
    }

    private static void endOfTheVoice() {
        Expect.sentence("THE VOICE", "The voice ends as its last word ends (at 0 without words).");
        NewsReel x = Expect.library("speed 20;pause 50;", 0);
        Expect.due("end without words", x.reel(2), 0);
        Expect.say(x, "a.");
        Expect.due("end of one word", x.reel(2), 20);
        Expect.say(x, "a.".repeat(60));
        Expect.due("end of 60 sentences", x.reel(2), 60 * 20 + 59 * 50);
        Expect.due("end of the last word", x.word(59, 3), 60 * 20 + 59 * 50);
        Expect.say(x, "abababababababababab ".repeat(23) + ".");
        Expect.due("end of 23 words of ten syllables", x.reel(2), 23 * 10 * 20);
        Expect.say(x, "");
        Expect.due("end without words again", x.reel(2), 0);
    }

    private static void wordNumbers() {
        Expect.sentence("Promise 11",
                "0: its letters; 1: its syllables; 2: the frame in which it begins; 3: the frame in which it ends;",
                "4: the map whose NAME it is (NONE); 5: the sentence in which it is, from 0 on");
        NewsReel x = Expect.made("map a;map b;map c;map d;map e;map abcdefgh;speed 20;pause 50;", "", 
                "a. abcdefgh. abcdefghijklmnopqrst zz.");
        Expect.dueRow("word 0", what -> x.word(0, what), 1, 1, 0, 20, 0, 0);
        Expect.dueRow("word 1", what -> x.word(1, what), 8, 2, 70, 110, 5, 1);
        Expect.dueRow("word 2", what -> x.word(2, what), 20, 4, 160, 240, -1, 2);
        Expect.dueRow("word 3", what -> x.word(3, what), 2, 1, 240, 260, -1, 2);
        NewsReel one = Expect.voice("a ".repeat(60) + ".", 60);
        Expect.due("sentence of the first word of one sentence", one.word(0, 5), 0);
        Expect.due("sentence of the last word of one sentence", one.word(59, 5), 0);
        Expect.due("one sentence", one.count(12), 1);
        NewsReel sixty = Expect.voice("a.".repeat(60), 60);
        Expect.due("sentence of the first word", sixty.word(0, 5), 0);
        Expect.due("sentence of the last word", sixty.word(59, 5), 59);
        Expect.due("sixty sentences", sixty.count(12), 60);
        Expect.due("a word of no maps", one.word(0, 4), -1);
    }

    private static void wordExceptions() {
        Expect.sentence("Promise 11", "Throws `IllegalArgumentException` if what is out of range");
        NewsReel x = Expect.voice("a b c.", 3);
        for (int word = 0; word < 3; word++) {
            int it = word;
            Expect.throwsArgumentAround("word " + it, what -> x.word(it, what), 0, 5);
        }
        Expect.sentence("Promise 11", "Throws `IndexOutOfBoundsException` if there is no such word");
        Expect.throwsIndexAround("word", i -> x.word(i, 5), 3);
        Expect.say(x, "a.");
        Expect.throwsIndexAround("word of a shorter voice", i -> x.word(i, 0), 1);
        x.undo();
        Expect.throwsIndexAround("word after undo", i -> x.word(i, 0), 3);
    }

    private static void spoken() {
        Expect.sentence("Promise 15", "Returns the word that is spoken in it (that begins in it or ahead of it, and ends behind it); NONE if there is none.");
        NewsReel none = new NewsReel();
        for (int frame : new int[] {Integer.MIN_VALUE, -1, 0, 1, Integer.MAX_VALUE}) {
            Expect.due("spoken without words in " + frame, none.spoken(frame), -1);
        }
        NewsReel x = Expect.library("speed 1;pause 0;", 0);
        Expect.say(x, "a. aba b.");
        Expect.dueRow("spoken", x::spoken, 0, 1, 1, 2, -1, -1);
        for (int frame : new int[] {Integer.MIN_VALUE, Integer.MIN_VALUE + 1, -2, -1, Integer.MAX_VALUE - 1, Integer.MAX_VALUE}) {
            Expect.due("spoken in " + frame, x.spoken(frame), -1);
        }
        Expect.say(x, "a.");
        Expect.dueRow("spoken of a shorter voice", x::spoken, 0, -1, -1, -1);
        Expect.say(x, "");
        Expect.dueRow("spoken of an empty voice", x::spoken, -1, -1);
    }

    private static void spokenInPauses() {
        NewsReel x = Expect.library("speed 2;pause 1;", 0);
        Expect.say(x, "a. b c. d.");
        Expect.dueRow("spoken", x::spoken, 0, 0, -1, 1, 1, 2, 2, -1, 3, 3, -1, -1);
        x.setVoice(2, 50);
        int[] frames = {1, 2, 51, 52, 55, 56, 105, 106, 107, 108};
        int[] due = {0, -1, -1, 1, 2, -1, -1, 3, 3, -1};
        for (int i = 0; i < frames.length; i++) {
            Expect.due("spoken in " + frames[i], x.spoken(frames[i]), due[i]);
        }
    }

    private static void pace() {
        Expect.sentence("Promise 21", "Returns the syllables of all words divided by their number, both converted to float; 0 without words.");
        NewsReel x = new NewsReel();
        Expect.dueReal("pace without words", x.pace(), 0);
        Expect.say(x, "b.");
        Expect.dueReal("the least pace", x.pace(), 1);
        Expect.say(x, "abababababababababab.");
        Expect.dueReal("the greatest pace", x.pace(), 10);
        Expect.say(x, "aba a a.");
        Expect.dueReal("pace of 4 / 3", x.pace(), 4f / 3f);
        Expect.due("pace as a float", x.pace() == 4.0 / 3.0, false);
        Expect.say(x, "a ".repeat(59) + "aba.");
        Expect.dueReal("pace of 61 / 60", x.pace(), 61f / 60f);
        Expect.say(x, "");
        Expect.dueReal("pace without words again", x.pace(), 0);
    }

    private static void said() {
        Expect.sentence("Promise 26", "Reads the text as a voice, which takes the place of the one that was there.", "Returns the number of its words");
        NewsReel x = new NewsReel();
        Expect.due("say of an empty text", Expect.say(x, ""), 0);
        Expect.due("acts after it", x.account(0), 1);
        Expect.due("acts to undo after it", x.count(13), 1);
        Expect.due("say of 60 words", Expect.say(x, "a.".repeat(60)), 60);
        Expect.due("say of one word", Expect.say(x, "bab ab a."), 3);
        Expect.dueRow("count of the shorter voice", what -> x.count(10 + what), 3, 3, 1);
        Expect.due("say of an empty text", Expect.say(x, ""), 0);
        Expect.dueRow("count of the empty voice", what -> x.count(10 + what), 0, 0, 0);
        Expect.due("undo", x.undo(), 3);
        Expect.dueText("the voice after undo", Expect.voiceText(x), "bab ab a.");
        Expect.due("undo", x.undo(), 2);
        Expect.dueRow("count of the longer voice", what -> x.count(10 + what), 60, 60, 60);
    }

    private static void sayWithAnError() {
        Expect.sentence("Promise 26", "or minus the reason: 1 the text has an error.");
        String[] wrong = {".", "a", "a;", "abcdefghijklmnopqrstu.", "a.".repeat(60) + "a.", "b b. b"};
        for (String text : wrong) {
            NewsReel x = Expect.made("map a;", "map 0 9;", "a b. a.");
            x.writeVoice();
            String state = Expect.state(x);
            Expect.due("say of " + text, Expect.say(x, text), -1);
            Expect.dueText("the state after " + text, Expect.state(x), state);
            Expect.dueText("the output after " + text, Expect.output(x), "a b. a.");
            Expect.dueRow("account", x::account, 2, 1, 0, 0, 0, 0, 0);
            Expect.due("acts to undo", x.count(13), 2);
            Expect.dueTextLength(text, x, 0);
        }
    }

    private static void setVoice() {
        Expect.sentence("Promise 33", "Sets SPEED and PAUSE (also to what they are).", "Returns the frame in which the voice ends then.");
        NewsReel x = Expect.voice("aba. b.", 2);
        Expect.due("setVoice of the least", x.setVoice(1, 0), 3);
        Expect.dueRow("SPEED and PAUSE", what -> x.count(4 + what), 1, 0);
        Expect.due("setVoice of the most", x.setVoice(20, 50), 110);
        Expect.dueRow("SPEED and PAUSE", what -> x.count(4 + what), 20, 50);
        Expect.due("the voice's end", x.reel(2), 110);
        Expect.due("begin of word 1", x.word(1, 2), 90);
        Expect.due("setVoice to what they are", x.setVoice(20, 50), 110);
        Expect.due("acts", x.account(0), 4);
        Expect.due("undo", x.undo(), 3);
        Expect.dueRow("SPEED and PAUSE after undo", what -> x.count(4 + what), 20, 50);
        Expect.due("undo", x.undo(), 2);
        Expect.dueRow("SPEED and PAUSE after undo", what -> x.count(4 + what), 1, 0);
        Expect.due("the voice's end after undo", x.reel(2), 3);
        Expect.due("undo", x.undo(), 1);
        Expect.dueRow("SPEED and PAUSE at first", what -> x.count(4 + what), 4, 10);
        Expect.due("setVoice without words", new NewsReel().setVoice(20, 50), 0);
    }

    private static void setVoiceExceptions() {
        Expect.sentence("Promise 33", "`speed`: 1 to 20", "`pause`: 0 to 50", "Throws `IllegalArgumentException` if speed or pause is out of range");
        NewsReel x = Expect.voice("aba. b.", 2);
        for (int pause : new int[] {0, 50, -1, 51}) {
            Expect.throwsArgumentAround("setVoice of SPEED", speed -> x.setVoice(speed, pause), 1, 20);
        }
        for (int speed : new int[] {1, 20, 0, 21}) {
            Expect.throwsArgumentAround("setVoice of PAUSE", pause -> x.setVoice(speed, pause), 0, 50);
        }
        Expect.dueRow("SPEED and PAUSE after exceptions", what -> x.count(4 + what), 4, 10);
        Expect.dueRow("account", x::account, 1, 0, 0, 0, 0, 0, 0);
        Expect.due("acts to undo", x.count(13), 1);
    }

    private static void writeVoice() {
        Expect.sentence("Promise 36",
                "the words with a space between two of a sentence, a full stop (byte 46) behind each sentence, a space between sentences");
        NewsReel x = new NewsReel();
        Expect.dueText("without words", Expect.voiceText(x), "");
        String[][] texts = {{"a.", "a."}, {"\n a\n\nb . c\n.d.\n", "a b. c. d."}, {"z z z z.", "z z z z."},
            {"abcdefghijklmnopqrst.abcdefghijklmnopqrst.", "abcdefghijklmnopqrst. abcdefghijklmnopqrst."}, {"", ""}};
        for (String[] text : texts) {
            Expect.say(x, text[0]);
            Expect.dueText("writeVoice of " + text[0], Expect.voiceText(x), text[1]);
        }
        NewsReel sixty = Expect.voice("a.".repeat(60), 60);
        Expect.dueText("sixty sentences", Expect.voiceText(sixty), "a. ".repeat(59) + "a.");
        NewsReel last = Expect.voice("a ".repeat(59) + "bcd.", 60);
        Expect.dueText("a last word of its own", Expect.voiceText(last), "a ".repeat(59) + "bcd.");
        NewsReel one = Expect.voice("z ".repeat(60) + ".", 60);
        Expect.dueText("sixty words", Expect.voiceText(one), "z ".repeat(59) + "z.");
    }

    /** 23 sentences of a longest word and one of 16 letters fill the text; the output has a space more for each. */
    private static void longestOutput() {
        Expect.sentence("Promise 36", "Returns the number of bytes of the output.");
        String due = "abcdefghijklmnopqrst. ".repeat(23) + "abcdefghijklmnop.";
        for (int from = 0; from < due.length(); from += 200) {
            NewsReel x = Expect.voice("abcdefghijklmnopqrst.".repeat(23) + "abcdefghijklmnop.", 24);
            Expect.due("writeVoice of 500 bytes", x.writeVoice(), 523);
            int to = Math.min(from + 200, due.length());
            Expect.dueText("the bytes from " + from, Expect.output(x, from, to), due.substring(from, to));
            Expect.due("output behind all", x.output(523), -1);
        }
    }
}
