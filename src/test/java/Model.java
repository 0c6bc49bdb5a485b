import java.util.ArrayDeque;
import java.util.ArrayList;
import java.util.Arrays;
import java.util.Deque;
import java.util.HashSet;
import java.util.List;
import java.util.Set;
import java.util.TreeSet;
import java.util.regex.Matcher;
import java.util.regex.Pattern;

/** The document told in another way: plain and slow, frame by frame, with lists and strings. */
final class Model {
    private static final class Word {
        String text;
        int speaker;
        int start;
        int end;
        int block;
        boolean kept = true;

        boolean spoken(int frame) {
            return start <= frame && frame < end;
        }
    }

    private static final class Recording {
        int length = 1000;
        int handle = 12;
        List<String> speakers = new ArrayList<>();
        List<Word> words = new ArrayList<>();
        List<int[]> breaths = new ArrayList<>();
    }

    private static final class Token {
        String text;
        int at;
    }

    private static final class Command {
        String name;
        List<String> phrase;
        List<String> target;
        int times;
        List<Command> block;
        List<Command> otherwise = new ArrayList<>();
    }

    private static final class Wrong extends RuntimeException {
        private static final long serialVersionUID = 1;
        final int kind;
        final int at;

        Wrong(int kind, int at) {
            this.kind = kind;
            this.at = at;
        }
    }

    private static final class Stop extends RuntimeException {
        private static final long serialVersionUID = 1;
    }

    private Recording rec = new Recording();
    private List<Integer> film = new ArrayList<>();
    private int[] heads = new int[0];
    private int[] tails = new int[0];
    private int blocks;
    private final Deque<Object[]> undos = new ArrayDeque<>();
    private List<Command> script = new ArrayList<>();
    private int begun;
    private int failures;
    private boolean stopped;
    private int wrongKind;
    private int wrongAt = -1;
    private String formatted = "";
    // While a text is parsed.
    private List<Token> tokens;
    private int next;
    private int commands;

    // ---- parsing

    private void split(String text) {
        tokens = new ArrayList<>();
        next = 0;
        Matcher m = Pattern.compile("[a-z]+|[0-9]+|[^ \t\n]", Pattern.DOTALL).matcher(text);
        while (m.find()) {
            Token token = new Token();
            token.text = m.group();
            token.at = m.start();
            tokens.add(token);
        }
        Token end = new Token();
        end.text = "";
        end.at = text.length();
        tokens.add(end);
    }

    private Token peek() {
        return tokens.get(next);
    }

    private Token take(String regex) {
        Token token = peek();
        if (!token.text.matches(regex)) {
            throw new Wrong(1, token.at);
        }
        next++;
        return token;
    }

    private Token name() {
        return take("[a-z]{1,6}");
    }

    private Token number(int low, int high) {
        Token token = take("[0-9]+");
        if (token.text.length() > 5 || Integer.parseInt(token.text) < low
                || Integer.parseInt(token.text) > high) {
            throw new Wrong(2, token.at);
        }
        return token;
    }

    int load(String text) {
        Recording r = new Recording();
        try {
            split(text);
            while (!peek().text.isEmpty()) {
                line(r);
                take(";");
            }
            for (Word w : r.words) {
                if (w.end > r.length) {
                    throw new Wrong(2, text.length());
                }
            }
        } catch (Wrong w) {
            wrongKind = w.kind;
            wrongAt = w.at;
            throw new IllegalArgumentException();
        }
        wrongKind = 0;
        wrongAt = -1;
        r.words.sort((a, b) -> a.start != b.start ? a.start - b.start : a.speaker - b.speaker);
        rec = r;
        undos.clear();
        findBlocks();
        film = new ArrayList<>();
        for (int b = 0; b < blocks; b++) {
            film.add(b);
        }
        heads = new int[blocks];
        tails = new int[blocks];
        return r.words.size();
    }

    private void line(Recording r) {
        Token key = take("length|speaker|word|breath|handle");
        if (key.text.equals("length")) {
            r.length = Integer.parseInt(number(1, 99999).text);
        } else if (key.text.equals("handle")) {
            r.handle = Integer.parseInt(number(0, 999).text);
        } else if (key.text.equals("speaker")) {
            limit(r.speakers.size(), 4, key);
            Token name = name();
            if (r.speakers.contains(name.text)) {
                throw new Wrong(3, name.at);
            }
            r.speakers.add(name.text);
        } else if (key.text.equals("breath")) {
            limit(r.breaths.size(), 12, key);
            int start = Integer.parseInt(number(0, 99998).text);
            r.breaths.add(new int[] {start, Integer.parseInt(number(start + 1, 99999).text)});
        } else {
            limit(r.words.size(), 40, key);
            word(r);
        }
    }

    private void limit(int size, int most, Token key) {
        if (size == most) {
            throw new Wrong(4, key.at);
        }
    }

    private void word(Recording r) {
        Word w = new Word();
        Token speaker = name();
        w.speaker = r.speakers.indexOf(speaker.text);
        if (w.speaker < 0) {
            throw new Wrong(3, speaker.at);
        }
        w.text = name().text;
        Token start = number(0, 99998);
        w.start = Integer.parseInt(start.text);
        for (Word v : r.words) {
            if (v.speaker == w.speaker && v.spoken(w.start)) {
                throw new Wrong(2, start.at);
            }
        }
        Token end = number(w.start + 1, 99999);
        w.end = Integer.parseInt(end.text);
        for (Word v : r.words) {
            if (v.speaker == w.speaker && v.start >= w.start && v.start < w.end) {
                throw new Wrong(2, end.at);
            }
        }
        r.words.add(w);
    }

    int loadScript(String text) {
        List<Command> all;
        try {
            split(text);
            commands = 0;
            all = commands(0);
            take("");
        } catch (Wrong w) {
            wrongKind = w.kind;
            wrongAt = w.at;
            throw new IllegalArgumentException();
        }
        wrongKind = 0;
        wrongAt = -1;
        script = all;
        return commands;
    }

    private List<Command> commands(int inside) {
        List<Command> all = new ArrayList<>();
        while (!peek().text.isEmpty() && !peek().text.equals("}")) {
            all.add(command(inside));
        }
        return all;
    }

    private Command command(int inside) {
        Token key = take("cut|clean|restore|move|if|repeat");
        limit(commands, 30, key);
        commands++;
        Command c = new Command();
        c.name = key.text;
        if (c.name.equals("repeat")) {
            c.times = Integer.parseInt(number(1, 9).text);
            c.block = block(inside);
            return c;
        }
        c.phrase = phrase();
        if (c.name.equals("if")) {
            c.block = block(inside);
            if (peek().text.equals("else")) {
                next++;
                c.otherwise = block(inside);
            }
            return c;
        }
        if (c.name.equals("move")) {
            take("behind");
            c.target = phrase();
        }
        take(";");
        return c;
    }

    private List<Command> block(int inside) {
        Token open = take("\\{");
        limit(inside, 5, open);
        List<Command> all = commands(inside + 1);
        take("\\}");
        return all;
    }

    private List<String> phrase() {
        List<String> all = new ArrayList<>();
        take("\\(");
        do {
            Token name = name();
            limit(all.size(), 6, name);
            all.add(name.text);
        } while (!peek().text.equals(")"));
        next++;
        return all;
    }

    int errorOffset() {
        return wrongAt;
    }

    int errorKind() {
        return wrongKind;
    }

    // ---- the recording

    private Word w(int word) {
        if (word < 0 || word >= rec.words.size()) {
            throw new IndexOutOfBoundsException();
        }
        return rec.words.get(word);
    }

    private void b(int block) {
        if (block < 0 || block >= blocks) {
            throw new IndexOutOfBoundsException();
        }
    }

    private void s(int shot) {
        if (shot < 0 || shot >= film.size()) {
            throw new IndexOutOfBoundsException();
        }
    }

    private void p(int speaker) {
        if (speaker < 0 || speaker >= rec.speakers.size()) {
            throw new IndexOutOfBoundsException();
        }
    }

    private static boolean share(Word a, Word b) {
        for (int f = a.start; f < a.end; f++) {
            if (b.spoken(f)) {
                return true;
            }
        }
        return false;
    }

    private void findBlocks() {
        for (Word a : rec.words) {
            a.block = -1;
        }
        blocks = 0;
        for (Word a : rec.words) {
            if (a.block < 0) {
                spread(a, blocks);
                blocks++;
            }
        }
    }

    private void spread(Word a, int block) {
        a.block = block;
        for (Word v : rec.words) {
            if (v.block < 0 && share(a, v)) {
                spread(v, block);
            }
        }
    }

    int count(int what) {
        int[] all = {rec.length, rec.speakers.size(), rec.words.size(), blocks, rec.breaths.size(),
            rec.handle};
        return what < 0 || what > 5 ? -1 : all[what];
    }

    int wordField(int word, int what) {
        Word a = w(word);
        int state = a.kept ? 0 : film.contains(a.block) ? 1 : 2;
        int overlapping = -1;
        for (Word v : rec.words) {
            overlapping += share(a, v) ? 1 : 0;
        }
        int[] all = {a.speaker, a.start, a.end, a.block, state, overlapping};
        return what < 0 || what > 5 ? -1 : all[what];
    }

    boolean isSameText(int word, int other) {
        return w(word).text.equals(w(other).text);
    }

    boolean overlap(int word, int other) {
        return share(w(word), w(other));
    }

    int differentTexts() {
        Set<String> texts = new HashSet<>();
        for (Word a : rec.words) {
            texts.add(a.text);
        }
        return texts.size();
    }

    private int speechStart(int block) {
        int least = Integer.MAX_VALUE;
        for (Word a : rec.words) {
            least = a.block == block ? Math.min(least, a.start) : least;
        }
        return least;
    }

    private int speechEnd(int block) {
        int most = 0;
        for (Word a : rec.words) {
            most = a.block == block ? Math.max(most, a.end) : most;
        }
        return most;
    }

    /** The frames of the gap behind a block that are in the breath. */
    private List<Integer> shared(int block, int[] breath) {
        List<Integer> frames = new ArrayList<>();
        for (int f = speechEnd(block); f < speechStart(block + 1); f++) {
            if (breath[0] <= f && f < breath[1]) {
                frames.add(f);
            }
        }
        return frames;
    }

    private List<Integer> snap(int block) {
        List<Integer> best = new ArrayList<>();
        for (int[] breath : rec.breaths) {
            List<Integer> frames = shared(block, breath);
            if (frames.size() > best.size()) {
                best = frames;
            }
        }
        return best;
    }

    private int rangeEnd(int block) {
        if (block == blocks - 1) {
            return rec.length;
        }
        List<Integer> best = snap(block);
        if (best.isEmpty()) {
            return (speechEnd(block) + speechStart(block + 1)) / 2;
        }
        return (best.get(0) + best.get(best.size() - 1) + 1) / 2;
    }

    private int rangeStart(int block) {
        return block == 0 ? 0 : rangeEnd(block - 1);
    }

    int blockField(int block, int what) {
        b(block);
        int words = 0;
        int kept = 0;
        for (Word a : rec.words) {
            words += a.block == block ? 1 : 0;
            kept += a.block == block && a.kept ? 1 : 0;
        }
        int[] all = {speechStart(block), speechEnd(block), words, kept, rangeStart(block),
            rangeEnd(block), heads[block], tails[block], film.indexOf(block)};
        return what < 0 || what > 8 ? -1 : all[what];
    }

    int blockAt(int frame) {
        for (int k = 0; k < blocks; k++) {
            if (rangeStart(k) <= frame && frame < rangeEnd(k)) {
                return k;
            }
        }
        return -1;
    }

    boolean isSnapped(int block) {
        b(block);
        return block != blocks - 1 && !snap(block).isEmpty();
    }

    int speakersAt(int frame) {
        Set<Integer> bits = new TreeSet<>();
        for (Word a : rec.words) {
            if (a.spoken(frame)) {
                bits.add(1 << a.speaker);
            }
        }
        return bits.stream().mapToInt(Integer::intValue).sum();
    }

    // ---- the film, a list of the frames of the recording for each shot

    private List<Integer> frames(int block) {
        List<Integer> all = new ArrayList<>();
        for (int f = rangeStart(block) - heads[block]; f < rangeStart(block); f++) {
            if (f >= (block == 0 ? 0 : speechEnd(block - 1))) {
                all.add(f);
            }
        }
        for (int f = rangeStart(block); f < rangeEnd(block); f++) {
            all.add(f);
        }
        for (int f = rangeEnd(block); f < rangeEnd(block) + tails[block]; f++) {
            if (f < (block == blocks - 1 ? rec.length : speechStart(block + 1))) {
                all.add(f);
            }
        }
        return all;
    }

    private List<int[]> filmFrames() {
        List<int[]> all = new ArrayList<>();
        for (int block : film) {
            for (int f : frames(block)) {
                all.add(new int[] {f, block});
            }
        }
        return all;
    }

    int shots() {
        return film.size();
    }

    int blockOf(int shot) {
        s(shot);
        return film.get(shot);
    }

    int shotField(int shot, int what) {
        s(shot);
        int before = 0;
        for (int k = 0; k < shot; k++) {
            before += frames(film.get(k)).size();
        }
        List<Integer> own = frames(film.get(shot));
        int[] all = {own.get(0), own.get(own.size() - 1) + 1, before};
        return what < 0 || what > 2 ? -1 : all[what];
    }

    int filmLength() {
        return filmFrames().size();
    }

    private List<int[]> clipList() {
        List<int[]> clips = new ArrayList<>();
        for (int shot = 0; shot < film.size(); shot++) {
            int first = shotField(shot, 0);
            int behind = shotField(shot, 1);
            int[] latest = clips.isEmpty() ? null : clips.get(clips.size() - 1);
            if (latest != null && latest[1] == first) {
                latest[1] = behind;
                latest[3]++;
            } else {
                clips.add(new int[] {first, behind, shotField(shot, 2), 1});
            }
        }
        return clips;
    }

    int clips() {
        return clipList().size();
    }

    int clipField(int k, int what) {
        List<int[]> all = clipList();
        return k < 0 || k >= all.size() || what < 0 || what > 3 ? -1 : all.get(k)[what];
    }

    int sourceOf(int frame) {
        List<int[]> all = filmFrames();
        return frame < 0 || frame >= all.size() ? -1 : all.get(frame)[0];
    }

    private int heardIn(int[] frame, int speaker) {
        for (int k = 0; k < rec.words.size(); k++) {
            Word a = rec.words.get(k);
            if (a.kept && a.block == frame[1] && a.speaker == speaker && a.spoken(frame[0])) {
                return k;
            }
        }
        return -1;
    }

    int heard(int frame, int speaker) {
        p(speaker);
        List<int[]> all = filmFrames();
        return frame < 0 || frame >= all.size() ? -1 : heardIn(all.get(frame), speaker);
    }

    private String sounds() {
        StringBuilder text = new StringBuilder();
        for (int[] frame : filmFrames()) {
            boolean any = false;
            for (int speaker = 0; speaker < rec.speakers.size(); speaker++) {
                any |= heardIn(frame, speaker) >= 0;
            }
            text.append(any ? 'x' : '.');
        }
        return text.toString();
    }

    int silence() {
        return sounds().replace("x", "").length();
    }

    int longestSilence() {
        int most = 0;
        for (String part : sounds().split("x+")) {
            most = Math.max(most, part.length());
        }
        return most;
    }

    int speakingTime(int speaker) {
        p(speaker);
        int sum = 0;
        for (int[] frame : filmFrames()) {
            sum += heardIn(frame, speaker) >= 0 ? 1 : 0;
        }
        return sum;
    }

    // ---- the transcript

    private List<Integer> transcript() {
        List<Integer> all = new ArrayList<>();
        for (int block : film) {
            for (int k = 0; k < rec.words.size(); k++) {
                if (rec.words.get(k).block == block && rec.words.get(k).kept) {
                    all.add(k);
                }
            }
        }
        return all;
    }

    private List<String> texts(List<Integer> words) {
        List<String> all = new ArrayList<>();
        for (int word : words) {
            all.add(rec.words.get(word).text);
        }
        return all;
    }

    int transcriptSize() {
        return transcript().size();
    }

    int transcriptWord(int k) {
        List<Integer> all = transcript();
        return k < 0 || k >= all.size() ? -1 : all.get(k);
    }

    int placeOf(int word) {
        w(word);
        return transcript().indexOf(word);
    }

    int startInFilm(int word) {
        Word a = w(word);
        List<int[]> all = filmFrames();
        for (int k = 0; k < all.size(); k++) {
            if (heardIn(all.get(k), a.speaker) == word) {
                return k;
            }
        }
        return -1;
    }

    int occurrences(int word) {
        w(word);
        int count = 0;
        for (String text : texts(transcript())) {
            count += text.equals(rec.words.get(word).text) ? 1 : 0;
        }
        return count;
    }

    int stutters() {
        List<String> all = texts(transcript());
        int count = 0;
        for (int k = 0; k + 1 < all.size(); k++) {
            count += all.get(k).equals(all.get(k + 1)) ? 1 : 0;
        }
        return count;
    }

    // ---- trials: done, looked at, undone

    private Object[] now() {
        boolean[] kept = new boolean[rec.words.size()];
        for (int k = 0; k < kept.length; k++) {
            kept[k] = rec.words.get(k).kept;
        }
        return new Object[] {kept, new ArrayList<>(film), heads.clone(), tails.clone()};
    }

    @SuppressWarnings("unchecked")
    private void back(Object[] then) {
        boolean[] kept = (boolean[]) then[0];
        for (int k = 0; k < kept.length; k++) {
            rec.words.get(k).kept = kept[k];
        }
        film = new ArrayList<>((List<Integer>) then[1]);
        heads = ((int[]) then[2]).clone();
        tails = ((int[]) then[3]).clone();
    }

    private void record() {
        undos.addLast(now());
        if (undos.size() > 12) {
            undos.removeFirst();
        }
    }

    private List<Integer> at(int from, int to) {
        List<Integer> all = transcript();
        if (from < 0 || from > to || to >= all.size()) {
            throw new IllegalArgumentException();
        }
        return all.subList(from, to + 1);
    }

    int lengthIfCut(int from, int to) {
        List<Integer> words = at(from, to);
        Object[] then = now();
        cutWords(words);
        int length = filmLength();
        back(then);
        return length;
    }

    int lengthIfRestored(int word) {
        w(word);
        Object[] then = now();
        keepWords(word, word);
        int length = filmLength();
        back(then);
        return length;
    }

    int shotsToCut(int length) {
        if (length < 0) {
            return -1;
        }
        int[] sizes = film.stream().mapToInt(block -> frames(block).size()).sorted().toArray();
        // As many of the shortest ones as go are left in.
        int in = 0;
        while (in < sizes.length && Arrays.stream(sizes, 0, in + 1).sum() <= length) {
            in++;
        }
        return sizes.length - in;
    }

    // ---- actions

    private void cutWords(List<Integer> words) {
        for (int word : words) {
            Word a = rec.words.get(word);
            a.kept = false;
            if (rec.words.stream().noneMatch(v -> v.block == a.block && v.kept)) {
                film.remove((Integer) a.block);
            }
        }
    }

    private int keepWords(int from, int to) {
        int count = 0;
        for (int k = from; k <= to; k++) {
            Word a = rec.words.get(k);
            count += a.kept ? 0 : 1;
            a.kept = true;
            if (!film.contains(a.block)) {
                int before = film.stream().filter(b -> b < a.block).max(Integer::compare).orElse(-1);
                film.add(film.indexOf(before) + 1, a.block);
                heads[a.block] = 0;
                tails[a.block] = 0;
            }
        }
        return count;
    }

    private int moveShots(int first, int last, int behind) {
        Integer mark = behind < 0 ? null : film.get(behind);
        List<Integer> moved = new ArrayList<>(film.subList(first, last + 1));
        film.removeAll(moved);
        film.addAll(mark == null ? 0 : film.indexOf(mark) + 1, moved);
        heads[moved.get(0)] = rec.handle;
        tails[moved.get(moved.size() - 1)] = rec.handle;
        return film.indexOf(moved.get(0));
    }

    int cut(int from, int to) {
        List<Integer> words = at(from, to);
        record();
        int before = filmLength();
        cutWords(words);
        return before - filmLength();
    }

    int cutWord(int word) {
        if (!w(word).kept) {
            throw new IllegalStateException();
        }
        record();
        cutWords(List.of(word));
        return wordField(word, 4);
    }

    int restore(int word, int other) {
        w(word);
        w(other);
        if (other < word) {
            throw new IllegalArgumentException();
        }
        record();
        return keepWords(word, other);
    }

    int move(int first, int last, int behind) {
        s(first);
        s(last);
        if (last < first || behind < -1 || behind >= film.size() || first <= behind && behind <= last) {
            throw new IllegalArgumentException();
        }
        record();
        return moveShots(first, last, behind);
    }

    int setHandles(int block, int head, int tail) {
        b(block);
        if (head < 0 || head > 999 || tail < 0 || tail > 999) {
            throw new IllegalArgumentException();
        }
        record();
        heads[block] = head;
        tails[block] = tail;
        return film.contains(block) ? frames(block).size() : 0;
    }

    // ---- scripts

    int runScript() {
        record();
        begun = 0;
        failures = 0;
        stopped = false;
        try {
            execute(script);
        } catch (Stop stop) {
            stopped = true;
        }
        return begun;
    }

    private void execute(List<Command> all) {
        for (Command c : all) {
            if (begun == 200) {
                throw new Stop();
            }
            begun++;
            if (c.name.equals("repeat")) {
                for (int k = 0; k < c.times; k++) {
                    execute(c.block);
                }
            } else if (c.name.equals("if")) {
                execute(find(c.phrase) >= 0 ? c.block : c.otherwise);
            } else if (!change(c)) {
                failures++;
            }
        }
    }

    private int find(List<String> phrase) {
        return java.util.Collections.indexOfSubList(texts(transcript()), phrase);
    }

    private boolean change(Command c) {
        if (c.name.equals("restore")) {
            for (int k = 0; k + c.phrase.size() <= rec.words.size(); k++) {
                List<Word> part = rec.words.subList(k, k + c.phrase.size());
                boolean lost = part.stream().anyMatch(v -> !v.kept);
                if (lost && part.stream().map(v -> v.text).toList().equals(c.phrase)) {
                    keepWords(k, k + c.phrase.size() - 1);
                    return true;
                }
            }
            return false;
        }
        int place = find(c.phrase);
        if (place < 0) {
            return false;
        }
        int lastPlace = place + c.phrase.size() - 1;
        if (c.name.equals("move")) {
            int target = find(c.target);
            if (target < 0) {
                return false;
            }
            int first = shotAt(place);
            int last = shotAt(lastPlace);
            int behind = shotAt(target + c.target.size() - 1);
            if (first <= behind && behind <= last) {
                return false;
            }
            moveShots(first, last, behind);
            return true;
        }
        cutWords(transcript().subList(place, lastPlace + 1));
        if (c.name.equals("clean")) {
            change(c);
        }
        return true;
    }

    private int shotAt(int place) {
        return film.indexOf(rec.words.get(transcript().get(place)).block);
    }

    int failed() {
        return failures;
    }

    boolean wasStopped() {
        return stopped;
    }

    int undo() {
        if (undos.isEmpty()) {
            return -1;
        }
        back(undos.removeLast());
        return undos.size();
    }

    int undoDepth() {
        return undos.size();
    }

    // ---- formatted text

    int formatTranscript() {
        List<String> parts = new ArrayList<>();
        for (int block : film) {
            List<Integer> words = transcript();
            words.removeIf(word -> rec.words.get(word).block != block);
            parts.add(String.join(" ", texts(words)));
        }
        formatted = String.join(" / ", parts);
        return formatted.length();
    }

    int formatShot(int shot) {
        s(shot);
        formatted = String.format("s%d %d-%d", shot, shotField(shot, 0), shotField(shot, 1));
        for (Word a : rec.words) {
            if (a.block == film.get(shot)) {
                formatted += String.format(a.kept ? " %s:%s" : " %s:[%s]",
                        rec.speakers.get(a.speaker), a.text);
            }
        }
        return formatted.length();
    }

    int formattedByte(int index) {
        return index < 0 || index >= formatted.length() ? -1 : formatted.charAt(index);
    }
}
