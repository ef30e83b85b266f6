import java.util.ArrayList;
import java.util.Arrays;
import java.util.LinkedHashMap;
import java.util.List;
import java.util.Map;
import java.util.Random;
import java.util.regex.Matcher;
import java.util.regex.Pattern;

// Runs of 512 chance calls, from fixed seeds, on NetDesk and on a second, plain writing of the document.
public final class NetDeskAgainstModel {
  private static final int RUNS = 3000;
  private static final int CALLS = 512;
  private static int wrong = 0;

  public static void main(String[] args) {
    for (int seed = 0; seed < RUNS && wrong < 5; seed++) run(seed);
    System.out.println(RUNS + " runs of " + CALLS + " calls, " + wrong + " not as the model's");
    if (wrong != 0) System.exit(1);
  }

  private static void run(int seed) {
    Random chance = new Random(seed);
    Texts texts = new Texts(chance);
    NetDesk desk = new NetDesk();
    Model model = new Model();
    List<String> told = new ArrayList<>();
    int calls = 0;
    while (calls < CALLS) {
      List<int[]> plan = texts.next();
      for (int[] call : plan) {
        if (calls++ == CALLS) return;
        int got = call(desk, call);
        int want = call(model, call);
        told.add(Arrays.toString(call) + " " + got);
        if (got != want) {
          wrong++;
          System.out.println("seed " + seed + ", call " + calls + " " + texts.told + ": answered " + got + ", the model " + want);
          System.out.println(told.subList(Math.max(0, told.size() - 12), told.size()));
          return;
        }
      }
    }
  }

  private static int call(NetDesk x, int[] c) {
    switch (c[0]) {
      case 0: return x.feed(c[1], c[2], c[3], c[4], c[5]);
      case 1: return x.end(c[1]);
      case 2: return x.out(c[1]);
      case 3: return x.resolve();
      case 4: return x.base();
      case 5: return x.server();
      case 6: return x.fetch();
      case 7: return x.body(c[1]);
      case 8: return x.tick(c[1]);
      case 9: return x.forget();
      case 10: return x.write(c[1]);
      default: return x.count(c[1]);
    }
  }

  private static int call(Model x, int[] c) {
    switch (c[0]) {
      case 0: return x.feed(Arrays.copyOfRange(c, 1, 6));
      case 1: return x.end(c[1]);
      case 2: return Model.at(x.out, c[1]);
      case 7: return Model.at(x.body, c[1]);
      case 8: return x.tick(c[1]);
      case 10: return x.write(c[1]);
      case 11: return x.count(c[1]);
      default: return x.text(c[0]);
    }
  }

  /** Calls by chance, most of them with texts that can be read, of few sites and paths so that they meet again. */
  private static final class Texts {
    private final Random chance;
    String told = "";

    Texts(Random chance) { this.chance = chance; }

    List<int[]> next() {
      List<int[]> calls = new ArrayList<>();
      int kind = chance.nextInt(100);
      if (kind < 10) put(calls, spoil(reference()), 3);
      else if (kind < 16) put(calls, spoil(reference()), 4);
      else if (kind < 44) put(calls, spoil(server()), 5);
      else if (kind < 78) put(calls, spoil(reference()), 6);
      else if (kind < 81) put(calls, spoil(pick("a", "b", "home", "c9", "abcdefgh", "abcdefghi", "")), 9);
      else if (kind < 84) calls.add(new int[] {8, pickInt(0, 1, 1, 2, 3, 1000, 1001, -1)});
      else if (kind < 85) calls.add(new int[] {0, chance.nextInt(), chance.nextInt(), 0, 0, chance.nextInt()});
      else if (kind < 86) calls.add(new int[] {1, chance.nextInt(40) - 2});
      for (int what = -1; what <= 8; what++) if (chance.nextInt(4) == 0) calls.add(new int[] {11, what});
      int what = chance.nextInt(6) - 1;
      if (chance.nextInt(2) == 0) calls.add(new int[] {10, what});
      for (int i = 0; i < 3; i++) calls.add(new int[] {2, chance.nextInt(20) - 1});
      if (chance.nextInt(2) == 0) calls.add(new int[] {7, chance.nextInt(8) - 1});
      return calls;
    }

    private void put(List<int[]> calls, String text, int call) {
      told = call + " <" + text + ">";
      calls.add(new int[] {1, 0});
      for (int i = 0; i < text.length(); i += 20) {
        int[] words = {0, 0, 0, 0, 0, 0};
        for (int j = 0; j < 20 && i + j < text.length(); j++) words[1 + j / 4] |= text.charAt(i + j) << (24 - 8 * (j % 4));
        calls.add(words);
      }
      calls.add(new int[] {1, text.length()});
      calls.add(new int[] {call});
    }

    private String spoil(String text) {
      if (chance.nextInt(8) != 0) return text;
      int at = chance.nextInt(text.length() + 1);
      int to = chance.nextBoolean() ? at : Math.min(text.length(), at + 1);
      String in = pick("", "", "/", "#", "?", ".", " ", "\n", "A", ":", "=", "\0", "\377", "//", " open", "z", "9", "..", "/../");
      return text.substring(0, at) + in + text.substring(to);
    }

    private String server() {
      StringBuilder b = new StringBuilder("//").append(site());
      int segments = 1 + chance.nextInt(2);
      for (int i = 0; i < segments; i++) b.append('/').append(segment());
      if (chance.nextInt(5) == 0) b.append(query());
      List<String> fields = new ArrayList<>();
      if (chance.nextInt(2) == 0) fields.add("age=" + pick("0", "1", "2", "3", "0005", "12", "9999"));
      if (chance.nextInt(2) == 0) fields.add("cookie=" + pick("a", "b", "c", "d", "e", "f") + pick("", "1", "2") + ":" + pick("x", "y", "z1"));
      if (chance.nextInt(2) == 0) fields.add("to=" + reference());
      if (chance.nextInt(3) == 0) fields.add("open");
      if (chance.nextInt(20) == 0) fields.add("open");
      java.util.Collections.shuffle(fields, chance);
      for (String f : fields) b.append(' ').append(f);
      b.append('\n');
      int length = chance.nextInt(300) == 0 ? 1498 + chance.nextInt(6) : chance.nextInt(7);
      for (int i = 0; i < length; i++) b.append(pick("p", "q", " ", "\n", "~"));
      return b.toString();
    }

    private String reference() {
      StringBuilder b = new StringBuilder();
      int form = chance.nextInt(10);
      int segments = chance.nextInt(12) == 0 ? chance.nextInt(9) : 1 + chance.nextInt(2);
      if (form < 4) b.append("//").append(site());
      if (form < 6) for (int i = 0; i < segments; i++) b.append('/').append(segment());
      else if (form < 9) for (int i = 0; i < segments; i++) b.append(i == 0 ? "" : "/").append(segment());
      if (chance.nextInt(6) == 0) b.append(query());
      if (chance.nextInt(6) == 0) b.append('#').append(pick("m", "mark", "m9", "abcdefgh"));
      return b.toString();
    }

    private String query() { return "?" + pick("", "q", "a=1&b=2", "+._-", "abcdefghijklmnopqrstuvwxyz0123456789abcd"); }
    private String site() { return pick("home", "a", "a", "b", "b", "c9"); }
    private String segment() { return pick("", "x", "x", "x", "y", "y", ".", "..", "..", "...", "abcdefghijkl", "1"); }
    private String pick(String... of) { return of[chance.nextInt(of.length)]; }
    private int pickInt(int... of) { return of[chance.nextInt(of.length)]; }
  }

  /** The document again, with all that Java's library gives, and no care for rooms. */
  private static final class Model {
    private static final String NAME = "[a-z][a-z0-9]{0,7}";
    private static final String SEGMENT = "[a-z0-9._-]{0,12}";
    private static final Pattern REFERENCE = Pattern.compile("(?:(?:(?<site>//" + NAME + ")|(?!//))(?<path>(?:/" + SEGMENT + ")*)"
      + "|(?<beside>(?!/)(?=[^?#])" + SEGMENT + "(?:/" + SEGMENT + ")*))(?<query>\\?[a-z0-9._=&+-]{0,40})?(?:#(?<mark>" + NAME + "))?");
    private static final Pattern FIELD = Pattern.compile("age=(?<age>[0-9]{1,4})|cookie=(?<name>" + NAME + "):(?<value>" + NAME
      + ")|to=(?<to>.*)|(?<open>open)");

    private record Address(String site, List<String> path, String query, String mark) {
      Address bare() { return new Address(site, path, query, null); }
      Address marked(String mark) { return new Address(site, path, query, mark); }
      String written() { return "//" + site + "/" + String.join("/", path) + (query == null ? "" : query) + (mark == null ? "" : "#" + mark); }
    }
    private record Answer(int age, String name, String value, Address to, boolean open, String body) { }
    private record Kept(Answer answer, int time) { }

    private static final Answer EMPTY = new Answer(0, null, null, null, false, "");
    private static final Address HOME = new Address("home", List.of(""), null, null);

    private String tape = "";
    String out = "";
    String body = "";
    private Address base = HOME;
    private final Map<Address, Answer> answers = new LinkedHashMap<>();
    private final Map<String, String> cookies = new LinkedHashMap<>();
    private final Map<Address, Kept> kept = new LinkedHashMap<>();
    private int clock, requests, followed, open, fromKept;
    private String requested = "", told = "", last = "";

    static int at(String text, int i) { return i >= 0 && i < text.length() ? text.charAt(i) : -1; }

    int feed(int[] words) {
      StringBuilder b = new StringBuilder(tape);
      for (byte x : java.nio.ByteBuffer.allocate(20).putInt(words[0]).putInt(words[1]).putInt(words[2]).putInt(words[3]).putInt(words[4]).array())
        b.append((char) Byte.toUnsignedInt(x));
      if (b.length() > 2000) return -1;
      tape = b.toString();
      return tape.length();
    }

    int end(int n) {
      if (n < 0 || n > tape.length()) return -1;
      tape = tape.substring(0, n);
      return n;
    }

    int tick(int n) { return n < 0 || n > 1000 ? -1 : (clock += n); }

    int text(int call) {
      String text = tape;
      tape = "";
      Matcher bad = Pattern.compile("[^\\n -~]").matcher(text);
      if (bad.find()) return -1000 - bad.start();
      if (call == 5) return server(text);
      if (call == 9) return forget(text);
      Address a = read(text, base);
      if (a == null) return -1;
      if (call == 4) { base = a; return a.path.size(); }
      if (call == 3) { out = a.written(); return out.length(); }
      fetch(a);
      return body.length();
    }

    private static Address read(String text, Address base) {
      Matcher m = REFERENCE.matcher(text);
      if (!m.matches()) return null;
      String site = m.group("site") == null ? base.site : m.group("site").substring(2);
      String query = m.group("query");
      List<String> raw = new ArrayList<>();
      if (m.group("beside") != null) {
        raw.addAll(base.path.subList(0, base.path.size() - 1));
        raw.addAll(Arrays.asList(m.group("beside").split("/", -1)));
      } else if (!m.group("path").isEmpty()) {
        raw.addAll(Arrays.asList(m.group("path").substring(1).split("/", -1)));
      } else if (m.group("site") != null) {
        raw.add("");
      } else {
        raw.addAll(base.path);
        if (query == null) query = base.query;
      }
      boolean lastWent = raw.get(raw.size() - 1).matches("\\.\\.?");
      for (int i = 0; i < raw.size(); ) {
        if (raw.get(i).equals(".")) raw.remove(i);
        else if (raw.get(i).equals("..")) { raw.remove(i); if (i > 0) raw.remove(--i); }
        else i++;
      }
      if (lastWent || raw.isEmpty()) raw.add("");
      return raw.size() > 6 ? null : new Address(site, List.copyOf(raw), query, m.group("mark"));
    }

    private int server(String text) {
      String head = text.contains("\n") ? text.substring(0, text.indexOf('\n')) : text;
      String[] pieces = head.split(" ", -1);
      Address a = pieces[0].startsWith("//") ? read(pieces[0], HOME) : null;
      if (a == null || a.mark != null) return -1000;
      int place = pieces[0].length() + 1, age = 0;
      String name = null, value = null;
      Address to = null;
      boolean isOpen = false;
      List<String> seen = new ArrayList<>();
      for (int i = 1; i < pieces.length; i++) {
        Matcher m = FIELD.matcher(pieces[i]);
        String kind = pieces[i].split("=")[0];
        if (!m.matches() || seen.contains(kind)) return -1000 - place;
        seen.add(kind);
        if (m.group("age") != null) age = Integer.parseInt(m.group("age"));
        if (m.group("name") != null) { name = m.group("name"); value = m.group("value"); }
        if (m.group("open") != null) isOpen = true;
        if (m.group("to") != null && (to = read(m.group("to"), a)) == null) return -1000 - place;
        place += pieces[i].length() + 1;
      }
      if (head.length() == text.length()) return -1000 - text.length();
      String content = text.substring(head.length() + 1);
      if (content.length() > 1500) return -1000 - (head.length() + 1501);
      if (!answers.containsKey(a) && answers.size() == 12) return -1;
      answers.put(a, new Answer(age, name, value, to == null ? null : to.bare(), isOpen, content));
      return answers.size();
    }

    private void fetch(Address first) {
      Address a = first.bare();
      Answer came = one(a);
      followed = 0;
      while (came.to != null) {
        if (followed == 5) { came = EMPTY; break; }
        followed++;
        a = came.to;
        came = one(a);
      }
      body = came.body;
      open = came.open ? 1 : 0;
      last = a.marked(first.mark).written();
    }

    private Answer one(Address a) {
      Kept k = kept.get(a);
      fromKept = k != null && k.time > clock ? 1 : 0;
      if (fromKept == 1) return k.answer;
      requests++;
      requested = a.written();
      List<String> sent = new ArrayList<>();
      cookies.forEach((key, v) -> { if (key.startsWith(a.site + "/")) sent.add(key.substring(a.site.length() + 1) + "=" + v); });
      told = String.join(";", sent);
      Answer answer = answers.getOrDefault(a, EMPTY);
      String key = a.site + "/" + answer.name;
      if (answer.name != null && (cookies.containsKey(key) || cookies.size() < 20)) cookies.put(key, answer.value);
      if (answer.age > 0) {
        kept.remove(a);
        if (kept.size() == 8) kept.remove(kept.keySet().iterator().next());
        kept.put(a, new Kept(answer, clock + answer.age));
      }
      return answer;
    }

    private int forget(String site) {
      for (int i = 0; i < site.length(); i++) if (!site.substring(0, i + 1).matches(NAME)) return -1000 - i;
      if (site.isEmpty()) return -1000;
      List<String> of = new ArrayList<>(cookies.keySet());
      of.removeIf(key -> !key.startsWith(site + "/"));
      if (of.isEmpty()) return -1;
      cookies.remove(of.get(of.size() - 1));
      return of.size() - 1;
    }

    int write(int what) {
      if (what < 0 || what > 3) return -1;
      out = what == 0 ? base.written() : what == 1 ? requested : what == 2 ? told : last;
      return out.length();
    }

    int count(int what) {
      int[] all = {answers.size(), cookies.size(), kept.size(), requests, clock, followed, open, fromKept};
      return what < 0 || what >= all.length ? -1 : all[what];
    }
  }
}
