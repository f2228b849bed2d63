import java.util.ArrayList;
import java.util.Arrays;
import java.util.HashSet;
import java.util.List;
import java.util.Set;

/**
 * The document once more in the slowest and most literal form, for ModelTest: states that are never
 * changed but made anew, a tree of items, and each number looked up frame by frame and set by set.
 */
final class SlowReel {
    static final class Fault extends RuntimeException {
        private static final long serialVersionUID = 1;
        final int code;
        final int at;

        Fault(int code, int at) {
            this.code = code;
            this.at = at;
        }
    }

    record Shot(int camera, int length) { }

    record Ban(int camera, int from, int to) { }

    record Item(String kind, int number, int first, int last, List<Item> block) {
        int frames() {
            return last - first + 1;
        }
    }

    record Word(String letters, boolean lastOfSentence) {
        int syllables() {
            int groups = 0;
            for (String group : letters.split("[^aeiouy]+")) {
                groups += group.isEmpty() ? 0 : 1;
            }
            return groups == 0 ? 1 : groups;
        }
    }

    record State(List<Shot> shots, List<String> maps, List<Ban> bans, int week, int speed, int pause, int least,
            int slack, List<Word> words, List<Item> items) {
        State with(List<Item> others) {
            return new State(shots, maps, bans, week, speed, pause, least, slack, words, others);
        }

        State with(int newWeek, int newSpeed, int newPause, int newSlack) {
            return new State(shots, maps, bans, newWeek, newSpeed, newPause, least, newSlack, words, items);
        }
    }

    /** A piece, and the doings of mixes around it, the innermost one last. */
    record Piece(Item item, List<int[]> mixes) { }

    record Placed(Item item, int begin, int end, int overlap) { }

    record Token(String signs, int at) {
        boolean isWord() {
            return !signs.isEmpty() && signs.charAt(0) >= 'a' && signs.charAt(0) <= 'z';
        }

        boolean isNumber() {
            return !signs.isEmpty() && signs.charAt(0) >= '0' && signs.charAt(0) <= '9';
        }
    }

    State now = new State(List.of(), List.of(), List.of(), 0, 4, 10, 8, 0, List.of(), List.of());
    final List<State> past = new ArrayList<>();
    final State[] saved = new State[2];
    final int[] accounts = new int[7];
    String text = "";
    String output = "";
    int errorCode = 0;
    int errorPosition = -1;

    // ---- reading

    private List<Token> tokens;
    private int next;
    private int itemsRead;

    private void cutTokens() {
        tokens = new ArrayList<>();
        next = 0;
        int i = 0;
        while (i < text.length()) {
            char sign = text.charAt(i);
            int start = i;
            if (sign == ' ' || sign == '\n') {
                i++;
                continue;
            }
            String group = sign >= 'a' && sign <= 'z' ? "abcdefghijklmnopqrstuvwxyz" : sign >= '0' && sign <= '9' ? "0123456789" : "";
            i++;
            while (i < text.length() && group.indexOf(text.charAt(i)) >= 0) {
                i++;
            }
            tokens.add(new Token(text.substring(start, i), start));
        }
        tokens.add(new Token("", text.length()));
    }

    private Token peek() {
        return tokens.get(next);
    }

    private boolean peekIs(String signs) {
        return peek().signs.equals(signs);
    }

    private void want(String signs) {
        check(peekIs(signs), 1);
        next++;
    }

    private void check(boolean fine, int code) {
        if (!fine) {
            throw new Fault(code, peek().at);
        }
    }

    private int number(int lowest, int highest) {
        check(peek().isNumber(), 1);
        java.math.BigInteger value = new java.math.BigInteger(peek().signs);
        check(value.compareTo(java.math.BigInteger.valueOf(lowest)) >= 0, 2);
        check(value.compareTo(java.math.BigInteger.valueOf(highest)) <= 0, 2);
        next++;
        return value.intValue();
    }

    private State readLibrary() {
        List<Shot> shots = new ArrayList<>();
        List<String> maps = new ArrayList<>();
        List<Ban> bans = new ArrayList<>();
        List<String> names = List.of("week", "speed", "pause", "least", "slack");
        int[] lowest = {0, 1, 0, 1, 0};
        int[] highest = {99, 20, 50, 50, 100};
        int[] values = {0, 4, 10, 8, 0};
        Set<String> told = new HashSet<>();
        while (!peekIs("")) {
            String word = peek().signs;
            check(names.contains(word) || word.equals("shot") || word.equals("map") || word.equals("ban"), 1);
            check(told.add(word) || !names.contains(word), 3);
            check(!(word.equals("shot") && shots.size() == 12 || word.equals("map") && maps.size() == 6
                    || word.equals("ban") && bans.size() == 10), 4);
            next++;
            if (word.equals("shot")) {
                shots.add(new Shot(number(0, 5), number(1, 400)));
            } else if (word.equals("map")) {
                check(peek().isWord(), 1);
                check(peek().signs.length() <= 8, 2);
                check(!maps.contains(peek().signs), 3);
                maps.add(peek().signs);
                next++;
            } else if (word.equals("ban")) {
                int camera = number(0, 5);
                int from = number(0, 99);
                bans.add(new Ban(camera, from, number(from, 99)));
            } else {
                int which = names.indexOf(word);
                values[which] = number(lowest[which], highest[which]);
            }
            want(";");
        }
        return new State(shots, maps, bans, values[0], values[1], values[2], values[3], values[4], List.of(), List.of());
    }

    private List<Item> readItems(int blocks, String end) {
        List<Item> items = new ArrayList<>();
        while (!peekIs(end)) {
            String word = peek().signs;
            check(List.of("shot", "map", "repeat", "mix").contains(word), 1);
            check(itemsRead < 30, 4);
            itemsRead++;
            next++;
            items.add(readItem(word, blocks));
            want(";");
        }
        return items;
    }

    private Item readItem(String word, int blocks) {
        if (word.equals("map")) {
            int map = number(0, now.maps.size() - 1);
            return new Item(word, map, 0, number(1, 400) - 1, null);
        }
        if (word.equals("shot")) {
            int shot = number(0, now.shots.size() - 1);
            int whole = now.shots.get(shot).length - 1;
            if (!peekIs("from")) {
                return new Item(word, shot, 0, whole, null);
            }
            next++;
            int first = number(0, whole);
            want("to");
            return new Item(word, shot, first, number(first, whole), null);
        }
        int number = word.equals("mix") ? number(0, 40) : number(1, 9);
        check(peekIs("{"), 1);
        check(blocks < 4, 5);
        next++;
        List<Item> block = readItems(blocks + 1, "}");
        want("}");
        return new Item(word, number, 0, 0, block);
    }

    private List<Word> readVoice() {
        List<Word> words = new ArrayList<>();
        while (!peekIs("")) {
            check(peek().isWord(), 1);
            while (!peekIs(".")) {
                check(peek().isWord(), 1);
                check(peek().signs.length() <= 20, 2);
                check(words.size() < 60, 4);
                String letters = peek().signs;
                next++;
                words.add(new Word(letters, peekIs(".")));
            }
            next++;
        }
        return words;
    }

    private Object read(char kind) {
        errorCode = 0;
        errorPosition = -1;
        try {
            cutTokens();
            itemsRead = 0;
            return kind == 'l' ? readLibrary() : kind == 'e' ? readItems(0, "") : readVoice();
        } catch (Fault fault) {
            errorCode = fault.code;
            errorPosition = fault.at;
            return null;
        } finally {
            text = "";
        }
    }

    // ---- what there is

    private void indexed(int index, int size) {
        if (index < 0 || index >= size) {
            throw new IndexOutOfBoundsException();
        }
    }

    private void ranged(int value, int lowest, int highest) {
        if (value < lowest || value > highest) {
            throw new IllegalArgumentException();
        }
    }

    int appendText(int fourBytes) {
        if (text.length() + 4 > 500) {
            throw new IllegalStateException();
        }
        for (int i = 3; i >= 0; i--) {
            text += (char) (fourBytes >>> 8 * i & 255);
        }
        return text.length();
    }

    int truncateText(int length) {
        ranged(length, 0, text.length());
        text = text.substring(0, length);
        return length;
    }

    int load() {
        State read = (State) read('l');
        if (read == null) {
            return -1;
        }
        now = read;
        past.clear();
        return now.shots.size();
    }

    private static int allItems(List<Item> items) {
        int sum = 0;
        for (Item item : items) {
            sum += 1 + (item.block == null ? 0 : allItems(item.block));
        }
        return sum;
    }

    private static int deepest(List<Item> items) {
        int deepest = 0;
        for (Item item : items) {
            deepest = Math.max(deepest, item.block == null ? 0 : 1 + deepest(item.block));
        }
        return deepest;
    }

    private static long pieceCount(List<Item> items) {
        long sum = 0;
        for (Item item : items) {
            sum += item.block == null ? 1 : pieceCount(item.block) * (item.kind.equals("repeat") ? item.number : 1);
        }
        return sum;
    }

    private static void expand(List<Item> items, List<int[]> mixes, List<Piece> out) {
        for (Item item : items) {
            if (item.block == null) {
                out.add(new Piece(item, mixes));
            } else if (item.kind.equals("mix")) {
                List<int[]> inside = new ArrayList<>(mixes);
                inside.add(new int[] {item.number});
                expand(item.block, inside, out);
            } else if (pieceCount(item.block) > 0) {
                for (int i = 0; i < item.number; i++) {
                    expand(item.block, mixes, out);
                }
            }
        }
    }

    /** The overlap of the innermost doing of a mix that is around both. */
    private static int mixOverlap(Piece ahead, Piece piece) {
        for (int i = piece.mixes.size() - 1; i >= 0; i--) {
            for (int[] doing : ahead.mixes) {
                if (doing == piece.mixes.get(i)) {
                    return doing[0];
                }
            }
        }
        return 0;
    }

    private List<Placed> placed() {
        List<Piece> pieces = new ArrayList<>();
        expand(now.items, List.of(), pieces);
        List<Placed> placed = new ArrayList<>();
        for (int i = 0; i < pieces.size(); i++) {
            Item item = pieces.get(i).item;
            int overlap = 0;
            int begin = 0;
            if (i > 0) {
                int shorter = Math.min(item.frames(), pieces.get(i - 1).item.frames());
                overlap = Math.min(mixOverlap(pieces.get(i - 1), pieces.get(i)), shorter / 2);
                begin = placed.get(i - 1).end - overlap;
            }
            placed.add(new Placed(item, begin, begin + item.frames(), overlap));
        }
        return placed;
    }

    private static int end(List<Placed> placed) {
        int end = 0;
        for (Placed piece : placed) {
            end = Math.max(end, piece.end);
        }
        return end;
    }

    private int wordBegin(int word, int speed) {
        int frame = 0;
        for (int i = 0; i < word; i++) {
            frame += speed * now.words.get(i).syllables() + (now.words.get(i).lastOfSentence ? now.pause : 0);
        }
        return frame;
    }

    private int voiceEnd(int speed) {
        int last = now.words.size() - 1;
        return last < 0 ? 0 : wordBegin(last, speed) + speed * now.words.get(last).syllables();
    }

    private boolean banned(int shot, int week) {
        for (Ban ban : now.bans) {
            if (ban.camera == now.shots.get(shot).camera && ban.from <= week && week <= ban.to) {
                return true;
            }
        }
        return false;
    }

    private int sentences(int words) {
        int sum = 0;
        for (int i = 0; i < words; i++) {
            sum += now.words.get(i).lastOfSentence ? 1 : 0;
        }
        return sum;
    }

    private int syllables() {
        int sum = 0;
        for (Word word : now.words) {
            sum += word.syllables();
        }
        return sum;
    }

    int count(int what) {
        ranged(what, 0, 13);
        return new int[] {now.shots.size(), now.maps.size(), now.bans.size(), now.week, now.speed, now.pause, now.least,
            now.slack, now.items.size(), allItems(now.items), now.words.size(), syllables(), sentences(now.words.size()),
            past.size()}[what];
    }

    int shot(int shot, int what) {
        indexed(shot, now.shots.size());
        ranged(what, 0, 4);
        int pieces = 0;
        int frames = 0;
        for (Placed piece : placed()) {
            if (piece.item.kind.equals("shot") && piece.item.number == shot) {
                pieces++;
                frames += piece.item.frames();
            }
        }
        return new int[] {now.shots.get(shot).camera, now.shots.get(shot).length, banned(shot, now.week) ? 1 : 0, pieces,
            frames}[what];
    }

    private boolean shown(List<Placed> placed, int map, int frame) {
        int piece = screen(placed, frame);
        return piece >= 0 && placed.get(piece).item.kind.equals("map") && placed.get(piece).item.number == map;
    }

    int map(int map, int what) {
        indexed(map, now.maps.size());
        ranged(what, 0, 3);
        int words = 0;
        int fine = 0;
        int pieces = 0;
        List<Placed> placed = placed();
        for (int i = 0; i < now.words.size(); i++) {
            if (now.words.get(i).letters.equals(now.maps.get(map))) {
                words++;
                fine += shown(placed, map, wordBegin(i, now.speed)) ? 1 : 0;
            }
        }
        for (Placed piece : placed) {
            pieces += piece.item.kind.equals("map") && piece.item.number == map ? 1 : 0;
        }
        return new int[] {now.maps.get(map).length(), words, pieces, fine}[what];
    }

    int ban(int ban, int what) {
        indexed(ban, now.bans.size());
        ranged(what, 0, 3);
        Ban told = now.bans.get(ban);
        int shots = 0;
        for (Shot shot : now.shots) {
            shots += shot.camera == told.camera ? 1 : 0;
        }
        return new int[] {told.camera, told.from, told.to, shots}[what];
    }

    int word(int word, int what) {
        indexed(word, now.words.size());
        ranged(what, 0, 5);
        Word told = now.words.get(word);
        int begin = wordBegin(word, now.speed);
        return new int[] {told.letters.length(), told.syllables(), begin, begin + now.speed * told.syllables(),
            now.maps.indexOf(told.letters), sentences(word)}[what];
    }

    int piece(int piece, int what) {
        List<Placed> placed = placed();
        indexed(piece, placed.size());
        ranged(what, 0, 6);
        Placed told = placed.get(piece);
        return new int[] {told.item.kind.equals("map") ? 1 : 0, told.item.number, told.item.first, told.item.frames(),
            told.begin, told.end, told.overlap}[what];
    }

    int reel(int what) {
        ranged(what, 0, 6);
        List<Placed> placed = placed();
        int longest = 0;
        int overlaps = 0;
        for (Placed piece : placed) {
            longest = Math.max(longest, piece.item.frames());
            overlaps += piece.overlap;
        }
        int end = end(placed);
        int voice = voiceEnd(now.speed);
        return new int[] {placed.size(), end, voice, end - voice, deepest(now.items), longest, overlaps}[what];
    }

    private static int screen(List<Placed> placed, int frame) {
        int seen = -1;
        for (int i = 0; i < placed.size(); i++) {
            if (placed.get(i).begin <= frame && frame < placed.get(i).end) {
                seen = i;
            }
        }
        return seen;
    }

    int screen(int frame) {
        return screen(placed(), frame);
    }

    int spoken(int frame) {
        for (int i = 0; i < now.words.size(); i++) {
            int begin = wordBegin(i, now.speed);
            if (begin <= frame && frame < begin + now.speed * now.words.get(i).syllables()) {
                return i;
            }
        }
        return -1;
    }

    int account(int what) {
        ranged(what, 0, 6);
        return accounts[what];
    }

    // ---- faults and choices

    private List<int[]> allFaults() {
        List<int[]> all = new ArrayList<>();
        List<Placed> placed = placed();
        for (int kind = 1; kind <= 4; kind++) {
            int size = kind == 2 ? now.words.size() : placed.size();
            for (int i = 0; i < size; i++) {
                if (isFault(kind, i, placed)) {
                    all.add(new int[] {kind, i});
                }
            }
        }
        int gap = end(placed) - voiceEnd(now.speed);
        if (gap > now.slack || -gap > now.slack) {
            all.add(new int[] {5, -1});
        }
        return all;
    }

    private boolean isFault(int kind, int i, List<Placed> placed) {
        if (kind == 2) {
            int map = now.maps.indexOf(now.words.get(i).letters);
            return map >= 0 && !shown(placed, map, wordBegin(i, now.speed));
        }
        Item item = placed.get(i).item;
        boolean isShot = item.kind.equals("shot");
        if (kind == 1) {
            return isShot && banned(item.number, now.week);
        }
        if (kind == 3) {
            return item.frames() < now.least;
        }
        if (i == 0 || !isShot) {
            return false;
        }
        Item ahead = placed.get(i - 1).item;
        return ahead.kind.equals("shot") && now.shots.get(ahead.number).camera == now.shots.get(item.number).camera;
    }

    int faults(int kind) {
        ranged(kind, 0, 5);
        int sum = 0;
        for (int[] fault : allFaults()) {
            sum += kind == 0 || fault[0] == kind ? 1 : 0;
        }
        return sum;
    }

    int fault(int index, int what) {
        List<int[]> all = allFaults();
        indexed(index, all.size());
        ranged(what, 0, 1);
        return all.get(index)[what];
    }

    double share(int camera) {
        indexed(camera, 6);
        List<Placed> placed = placed();
        int end = end(placed);
        int frames = 0;
        for (int frame = 0; frame < end; frame++) {
            int piece = screen(placed, frame);
            if (piece >= 0 && placed.get(piece).item.kind.equals("shot")
                    && now.shots.get(placed.get(piece).item.number).camera == camera) {
                frames++;
            }
        }
        return end == 0 ? 0.0 : (double) frames / (double) end;
    }

    float pace() {
        return now.words.isEmpty() ? 0 : (float) syllables() / (float) now.words.size();
    }

    /** The set, waste and size of the best choice of a week; null if there is none. */
    private int[] choice(int week) {
        int[] best = null;
        int due = voiceEnd(now.speed);
        for (int set = 1; set < 1 << now.shots.size(); set++) {
            int sum = 0;
            int size = 0;
            int greatest = -1;
            boolean allowed = true;
            for (int shot = 0; shot < now.shots.size(); shot++) {
                if ((set & 1 << shot) != 0) {
                    sum += now.shots.get(shot).length;
                    size++;
                    greatest = shot;
                    allowed &= !banned(shot, week);
                }
            }
            int[] tried = {set, sum - due, size};
            if (allowed && sum >= due && now.shots.get(greatest).length - (sum - due) >= now.least
                    && (best == null || tried[1] < best[1] || tried[1] == best[1] && tried[2] < best[2])) {
                best = tried;
            }
        }
        return best;
    }

    int best(int what) {
        ranged(what, 0, 2);
        int[] best = choice(now.week);
        return best == null ? -1 : best[what];
    }

    int bestWeek() {
        int best = -1;
        int least = Integer.MAX_VALUE;
        for (int week = now.week; week <= 99; week++) {
            int[] choice = choice(week);
            if (choice != null && choice[1] < least) {
                least = choice[1];
                best = week;
            }
        }
        return best;
    }

    int bestSpeed() {
        int best = 0;
        int least = Integer.MAX_VALUE;
        for (int speed = 1; speed <= 20; speed++) {
            int gap = Math.abs(end(placed()) - voiceEnd(speed));
            if (gap < least) {
                least = gap;
                best = speed;
            }
        }
        return best;
    }

    // ---- acts

    private int refuse(int reason) {
        accounts[reason]++;
        return -reason;
    }

    private void done(State then) {
        past.add(now);
        if (past.size() > 8) {
            past.remove(0);
        }
        accounts[0]++;
        now = then;
    }

    @SuppressWarnings("unchecked")
    int edit() {
        List<Item> read = (List<Item>) read('e');
        if (read == null) {
            return refuse(1);
        }
        if (pieceCount(read) > 60) {
            return refuse(2);
        }
        done(now.with(read));
        return (int) pieceCount(read);
    }

    @SuppressWarnings("unchecked")
    int say() {
        List<Word> read = (List<Word>) read('s');
        if (read == null) {
            return refuse(1);
        }
        done(new State(now.shots, now.maps, now.bans, now.week, now.speed, now.pause, now.least, now.slack, read, now.items));
        return read.size();
    }

    int assemble() {
        int[] best = choice(now.week);
        if (best == null) {
            return refuse(3);
        }
        List<Item> items = new ArrayList<>();
        for (int shot = 0; shot < now.shots.size(); shot++) {
            if ((best[0] & 1 << shot) != 0) {
                boolean last = best[0] >> shot == 1;
                items.add(new Item("shot", shot, 0, now.shots.get(shot).length - 1 - (last ? best[1] : 0), null));
            }
        }
        done(now.with(items));
        return best[1];
    }

    int insert(int item, int map, int frames) {
        indexed(item, now.items.size() + 1);
        indexed(map, now.maps.size());
        ranged(frames, 1, 400);
        if (allItems(now.items) == 30) {
            return refuse(4);
        }
        if (pieceCount(now.items) == 60) {
            return refuse(2);
        }
        List<Item> items = new ArrayList<>(now.items);
        items.add(item, new Item("map", map, 0, frames - 1, null));
        done(now.with(items));
        return reel(1);
    }

    int trim(int item, int by) {
        indexed(item, now.items.size());
        ranged(by, 1, 399);
        Item old = now.items.get(item);
        if (old.block != null) {
            return refuse(5);
        }
        if (old.frames() <= by) {
            return refuse(6);
        }
        List<Item> items = new ArrayList<>(now.items);
        items.set(item, new Item(old.kind, old.number, old.first, old.last - by, null));
        done(now.with(items));
        return old.frames() - by;
    }

    int remove(int item) {
        indexed(item, now.items.size());
        List<Item> items = new ArrayList<>(now.items);
        items.remove(item);
        done(now.with(items));
        return reel(1);
    }

    int move(int item, int to) {
        indexed(item, now.items.size());
        indexed(to, now.items.size());
        List<Item> items = new ArrayList<>(now.items);
        items.add(to, items.remove(item));
        done(now.with(items));
        return reel(1);
    }

    int setWeek(int week) {
        ranged(week, 0, 99);
        done(now.with(week, now.speed, now.pause, now.slack));
        int sum = 0;
        for (int shot = 0; shot < now.shots.size(); shot++) {
            sum += banned(shot, week) ? 1 : 0;
        }
        return sum;
    }

    int setVoice(int speed, int pause) {
        ranged(speed, 1, 20);
        ranged(pause, 0, 50);
        done(now.with(now.week, speed, pause, now.slack));
        return voiceEnd(speed);
    }

    int setSlack(int slack) {
        ranged(slack, 0, 100);
        int before = now.slack;
        done(now.with(now.week, now.speed, now.pause, slack));
        return before;
    }

    // ---- output, undo, saved states

    private String written(List<Item> items) {
        StringBuilder out = new StringBuilder();
        for (Item item : items) {
            out.append(item.kind).append(' ').append(item.number);
            if (item.block != null) {
                out.append('{').append(written(item.block)).append('}');
            } else if (item.kind.equals("map")) {
                out.append(' ').append(item.frames());
            } else if (item.first != 0 || item.last != now.shots.get(item.number).length - 1) {
                out.append(" from ").append(item.first).append(" to ").append(item.last);
            }
            out.append(';');
        }
        return out.toString();
    }

    int writeReel() {
        output = written(now.items);
        return output.length();
    }

    int writeVoice() {
        StringBuilder out = new StringBuilder();
        for (Word word : now.words) {
            out.append(word.letters).append(word.lastOfSentence ? ". " : " ");
        }
        output = out.toString().trim();
        return output.length();
    }

    int output(int index) {
        return index < 0 || index >= output.length() ? -1 : output.charAt(index);
    }

    int undo() {
        if (past.isEmpty()) {
            return -1;
        }
        now = past.remove(past.size() - 1);
        return past.size();
    }

    void save(int slot) {
        ranged(slot, 0, 1);
        saved[slot] = now;
    }

    void restore(int slot) {
        ranged(slot, 0, 1);
        if (saved[slot] == null) {
            throw new IllegalStateException();
        }
        now = saved[slot];
        past.clear();
    }

    @Override
    public String toString() {
        return now + " " + Arrays.toString(accounts);
    }
}
